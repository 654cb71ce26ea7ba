def q_X9_in (S : St) (a1 : Int32) (a2 : Int32) (a3 : Int32) (k : Int32 → Prop) : Prop := (a1 < a2 → (k (nI 0))) ∧ (¬ a1 < a2 → ((a3 < a1 → (k (nI 0))) ∧ (¬ a3 < a1 → (k (nI 1)))))
set_option maxRecDepth 100000 in
set_option maxHeartbeats 4000000 in
theorem c_X9_in {l : Launch} {Z : ZT} (hi : injZ 10 Z) (S : St) (a1 : Int32) (a2 : Int32) (a3 : Int32) (k : Int32 → Prop) (h : q_X9_in S a1 a2 a3 k) : Mi l shM 10 Z (gM Z) yX9_in cX9_in 3 (Option.some .boolean) (rmk 0 0) [.int a1, .int a2, .int a3] S (fun r S' => S' = S ∧ (r = 0 ∨ r = 1) ∧ k r) := by
  have g := gokM hi
  refine e_i (by decide) (Nat.le_of_ble_eq_true rfl) (lv := [(0, .int a1), (1, .int a2), (2, .int a3)]) rfl (fun p e s m args below meth c C hP hS ls hl => ?_)
  have hx := C.1.1
  have hb := C.1.2.1
  unfold q_X9_in at h
  refine lv_iload_n hx hb dX9_in_0 rfl (lv_at hl 0 rfl) ?_
  refine lv_iload_n hx hb dX9_in_1 rfl (lv_at hl 1 rfl) ?_
  refine lv_icmp_lt (tgt := 14) hx hb dX9_in_2 (by decide) (fun c_1 => ?_) (fun c_1 => ?_)
  · have h := h.1 c_1
    refine lv_iconst (v := (nI 0)) hx hb dX9_in_14 (by decide) ?_
    exact s_rz C hP hS (nar_b (Or.inl rfl)) ⟨rfl, ⟨(Or.inl rfl), h⟩⟩ dX9_in_15
  · have h := h.2 c_1
    refine lv_iload_n hx hb dX9_in_5 rfl (lv_at hl 0 rfl) ?_
    refine lv_iload_n hx hb dX9_in_6 rfl (lv_at hl 2 rfl) ?_
    refine lv_icmp_gt (tgt := 14) hx hb dX9_in_7 (by decide) (fun c_2 => ?_) (fun c_2 => ?_)
    · have h := h.1 c_2
      refine lv_iconst (v := (nI 0)) hx hb dX9_in_14 (by decide) ?_
      exact s_rz C hP hS (nar_b (Or.inl rfl)) ⟨rfl, ⟨(Or.inl rfl), h⟩⟩ dX9_in_15
    · have h := h.2 c_2
      refine lv_iconst (v := (nI 1)) hx hb dX9_in_10 (by decide) ?_
      refine lv_goto (tgt := 15) hx hb dX9_in_11 (by decide) ?_
      exact s_rz C hP hS (nar_b (Or.inr rfl)) ⟨rfl, ⟨(Or.inr rfl), h⟩⟩ dX9_in_15
def q_X9_has (S : St) (a1 : Int32) (a2 : Int32) (k : Int32 → Prop) : Prop := (((a1 >>> (a2 &&& 31)) &&& (nI 1)) = (nI 1) → (k (nI 1))) ∧ (¬ ((a1 >>> (a2 &&& 31)) &&& (nI 1)) = (nI 1) → (k (nI 0)))
set_option maxRecDepth 100000 in
set_option maxHeartbeats 4000000 in
theorem c_X9_has {l : Launch} {Z : ZT} (hi : injZ 10 Z) (S : St) (a1 : Int32) (a2 : Int32) (k : Int32 → Prop) (h : q_X9_has S a1 a2 k) : Mi l shM 10 Z (gM Z) yX9_has cX9_has 2 (Option.some .boolean) (rmk 0 0) [.int a1, .int a2] S (fun r S' => S' = S ∧ (r = 0 ∨ r = 1) ∧ k r) := by
  have g := gokM hi
  refine e_i (by decide) (Nat.le_of_ble_eq_true rfl) (lv := [(0, .int a1), (1, .int a2)]) rfl (fun p e s m args below meth c C hP hS ls hl => ?_)
  have hx := C.1.1
  have hb := C.1.2.1
  unfold q_X9_has at h
  refine lv_iload_n hx hb dX9_has_0 rfl (lv_at hl 0 rfl) ?_
  refine lv_iload_n hx hb dX9_has_1 rfl (lv_at hl 1 rfl) ?_
  refine lv_ishr hx hb dX9_has_2 ?_
  refine lv_iconst (v := (nI 1)) hx hb dX9_has_3 (by decide) ?_
  refine lv_iand hx hb dX9_has_4 ?_
  refine lv_iconst (v := (nI 1)) hx hb dX9_has_5 (by decide) ?_
  refine lv_icmp_ne (tgt := 13) hx hb dX9_has_6 (by decide) (fun c_1 => ?_) (fun c_1 => ?_)
  · have h := h.2 c_1
    refine lv_iconst (v := (nI 0)) hx hb dX9_has_13 (by decide) ?_
    exact s_rz C hP hS (nar_b (Or.inl rfl)) ⟨rfl, ⟨(Or.inl rfl), h⟩⟩ dX9_has_14
  · have h := h.1 c_1
    refine lv_iconst (v := (nI 1)) hx hb dX9_has_9 (by decide) ?_
    refine lv_goto (tgt := 14) hx hb dX9_has_10 (by decide) ?_
    exact s_rz C hP hS (nar_b (Or.inr rfl)) ⟨rfl, ⟨(Or.inr rfl), h⟩⟩ dX9_has_14
def q_X9_isKite (S : St) (a1 : Int32) (k : Int32 → Prop) : Prop := q_X9_in S a1 (nI 0) (nI 5) (fun r_1 => ((r_1 = (nI 0) → (k (nI 0))) ∧ (¬ r_1 = (nI 0) → (q_X9_has S (S.1 0 1) a1 (fun r_3 => ((r_3 = (nI 0) → (k (nI 0))) ∧ (¬ r_3 = (nI 0) → (k (nI 1)))))))))
set_option maxRecDepth 100000 in
set_option maxHeartbeats 4000000 in
theorem c_X9_isKite {l : Launch} {Z : ZT} (hi : injZ 10 Z) (S : St) (a1 : Int32) (k : Int32 → Prop) (h : q_X9_isKite S a1 k) : Mi l shM 10 Z (gM Z) yX9_isKite cX9_isKite 2 (Option.some .boolean) (rmk 1 22) [.ref (Z.2.2.1 0), .int a1] S (fun r S' => S' = S ∧ (r = 0 ∨ r = 1) ∧ k r) := by
  have g := gokM hi
  refine e_i (by decide) (Nat.le_of_ble_eq_true rfl) (lv := [(0, .ref (Z.2.2.1 0)), (1, .int a1)]) rfl (fun p e s m args below meth c C hP hS ls hl => ?_)
  have hx := C.1.1
  have hb := C.1.2.1
  unfold q_X9_isKite at h
  refine lv_iload_n hx hb dX9_isKite_0 rfl (lv_at hl 1 rfl) ?_
  refine lv_iconst (v := (nI 0)) hx hb dX9_isKite_1 (by decide) ?_
  refine lv_iconst (v := (nI 5)) hx hb dX9_isKite_2 (by decide) ?_
  refine go_ip (run_S g C hP hS (As := [.int a1, .int (nI 0), .int (nI 5)]) (rest := []) (c_X9_in hi S a1 (nI 0) (nI 5) _ h) cal_X9_in kML_X9_45 ⟨rfl, rfl, Nat.le_of_ble_eq_true rfl, Nat.le_of_ble_eq_true rfl⟩ rfl rfl hl.1 (Nat.le_of_ble_eq_true rfl) dX9_isKite_3) hS (fun r_1 H locs h hP hS => ?_)
  obtain ⟨hbr_1, h⟩ := h
  refine lv_if_eq (tgt := 24) hx hb dX9_isKite_6 (by decide) (fun c_2 => ?_) (fun c_2 => ?_)
  · have h := h.1 c_2
    refine lv_iconst (v := (nI 0)) hx hb dX9_isKite_24 (by decide) ?_
    exact s_rz C hP hS (nar_b (Or.inl rfl)) ⟨rfl, ⟨(Or.inl rfl), h⟩⟩ dX9_isKite_25
  · have h := h.2 c_2
    refine lv_aload_n hx hb dX9_isKite_9 rfl (lv_at hl 0 rfl) ?_
    refine s_gI g C hP 0 1 (by decide) rfl rfl cfX9 (by decide) kFL_X9_49 dX9_isKite_10 ?_
    refine lv_iload_n hx hb dX9_isKite_13 rfl (lv_at hl 1 rfl) ?_
    refine go_ip (run_S g C hP hS (As := [.int (S.1 0 1), .int a1]) (rest := []) (c_X9_has hi S (S.1 0 1) a1 _ h) cal_X9_has kML_X9_52 ⟨rfl, rfl, Nat.le_of_ble_eq_true rfl, Nat.le_of_ble_eq_true rfl⟩ rfl rfl hl.1 (Nat.le_of_ble_eq_true rfl) dX9_isKite_14) hS (fun r_3 H locs h hP hS => ?_)
    obtain ⟨hbr_3, h⟩ := h
    refine lv_if_eq (tgt := 24) hx hb dX9_isKite_17 (by decide) (fun c_4 => ?_) (fun c_4 => ?_)
    · have h := h.1 c_4
      refine lv_iconst (v := (nI 0)) hx hb dX9_isKite_24 (by decide) ?_
      exact s_rz C hP hS (nar_b (Or.inl rfl)) ⟨rfl, ⟨(Or.inl rfl), h⟩⟩ dX9_isKite_25
    · have h := h.2 c_4
      refine lv_iconst (v := (nI 1)) hx hb dX9_isKite_20 (by decide) ?_
      refine lv_goto (tgt := 25) hx hb dX9_isKite_21 (by decide) ?_
      exact s_rz C hP hS (nar_b (Or.inr rfl)) ⟨rfl, ⟨(Or.inr rfl), h⟩⟩ dX9_isKite_25
def q_X9_isHeight (S : St) (a1 : Int32) (k : Int32 → Prop) : Prop := q_X9_in S a1 (nI 1) (nI 3) (fun r_1 => (k r_1))
set_option maxRecDepth 100000 in
set_option maxHeartbeats 4000000 in
theorem c_X9_isHeight {l : Launch} {Z : ZT} (hi : injZ 10 Z) (S : St) (a1 : Int32) (k : Int32 → Prop) (h : q_X9_isHeight S a1 k) : Mi l shM 10 Z (gM Z) yX9_isHeight cX9_isHeight 1 (Option.some .boolean) (rmk 1 22) [.int a1] S (fun r S' => S' = S ∧ (r = 0 ∨ r = 1) ∧ k r) := by
  have g := gokM hi
  refine e_i (by decide) (Nat.le_of_ble_eq_true rfl) (lv := [(0, .int a1)]) rfl (fun p e s m args below meth c C hP hS ls hl => ?_)
  have hx := C.1.1
  have hb := C.1.2.1
  unfold q_X9_isHeight at h
  refine lv_iload_n hx hb dX9_isHeight_0 rfl (lv_at hl 0 rfl) ?_
  refine lv_iconst (v := (nI 1)) hx hb dX9_isHeight_1 (by decide) ?_
  refine lv_iconst (v := (nI 3)) hx hb dX9_isHeight_2 (by decide) ?_
  refine go_ip (run_S g C hP hS (As := [.int a1, .int (nI 1), .int (nI 3)]) (rest := []) (c_X9_in hi S a1 (nI 1) (nI 3) _ h) cal_X9_in kML_X9_45 ⟨rfl, rfl, Nat.le_of_ble_eq_true rfl, Nat.le_of_ble_eq_true rfl⟩ rfl rfl hl.1 (Nat.le_of_ble_eq_true rfl) dX9_isHeight_3) hS (fun r_1 H locs h hP hS => ?_)
  obtain ⟨hbr_1, h⟩ := h
  exact s_rz C hP hS (nar_b hbr_1) ⟨rfl, ⟨hbr_1, h⟩⟩ dX9_isHeight_6
def q_X9_isHour (S : St) (a1 : Int32) (k : Int32 → Prop) : Prop := q_X9_in S a1 (nI 0) (nI 11) (fun r_1 => (k r_1))
set_option maxRecDepth 100000 in
set_option maxHeartbeats 4000000 in
theorem c_X9_isHour {l : Launch} {Z : ZT} (hi : injZ 10 Z) (S : St) (a1 : Int32) (k : Int32 → Prop) (h : q_X9_isHour S a1 k) : Mi l shM 10 Z (gM Z) yX9_isHour cX9_isHour 1 (Option.some .boolean) (rmk 1 22) [.int a1] S (fun r S' => S' = S ∧ (r = 0 ∨ r = 1) ∧ k r) := by
  have g := gokM hi
  refine e_i (by decide) (Nat.le_of_ble_eq_true rfl) (lv := [(0, .int a1)]) rfl (fun p e s m args below meth c C hP hS ls hl => ?_)
  have hx := C.1.1
  have hb := C.1.2.1
  unfold q_X9_isHour at h
  refine lv_iload_n hx hb dX9_isHour_0 rfl (lv_at hl 0 rfl) ?_
  refine lv_iconst (v := (nI 0)) hx hb dX9_isHour_1 (by decide) ?_
  refine lv_bipush (v := (nI 11)) hx hb dX9_isHour_2 (by decide) ?_
  refine go_ip (run_S g C hP hS (As := [.int a1, .int (nI 0), .int (nI 11)]) (rest := []) (c_X9_in hi S a1 (nI 0) (nI 11) _ h) cal_X9_in kML_X9_45 ⟨rfl, rfl, Nat.le_of_ble_eq_true rfl, Nat.le_of_ble_eq_true rfl⟩ rfl rfl hl.1 (Nat.le_of_ble_eq_true rfl) dX9_isHour_4) hS (fun r_1 H locs h hP hS => ?_)
  obtain ⟨hbr_1, h⟩ := h
  exact s_rz C hP hS (nar_b hbr_1) ⟨rfl, ⟨hbr_1, h⟩⟩ dX9_isHour_7
def q_X9_write_31 (a1 : Int64) (a2 : Int32) (k : Int32 → St → Prop) : Nat → St → Int32 → Prop := fun n_ => Nat.rec (motive := fun _ => St → Int32 → Prop) (fun _ _ => False) (fun _ ih => fun S x4 => (a2 ≤ x4 → (∀ S_2 : St, S_2 = sI S 0 9 ((S.1 0 9) + a2) → (k (S_2.1 0 9) S_2))) ∧ (¬ a2 ≤ x4 → (vp_in ((S.1 0 9) + x4) 200 ∧ (∀ S_4 : St, S_4 = sI S 4 ((S.1 0 9) + x4).toNatClampNeg (((a1 >>> (((nI 8) * x4).toInt64 &&& 63)) &&& (lN 255))).toInt32 → (∀ x4_5 : Int32, x4_5 = x4 + (nI 1) → (ih S_4 x4_5)))))) n_
theorem q_X9_write_31_s (a1 : Int64) (a2 : Int32) (k : Int32 → St → Prop) (n_ : Nat) (S : St) (x4 : Int32) : q_X9_write_31 a1 a2 k (n_ + 1) S x4 = ((a2 ≤ x4 → (∀ S_2 : St, S_2 = sI S 0 9 ((S.1 0 9) + a2) → (k (S_2.1 0 9) S_2))) ∧ (¬ a2 ≤ x4 → (vp_in ((S.1 0 9) + x4) 200 ∧ (∀ S_4 : St, S_4 = sI S 4 ((S.1 0 9) + x4).toNatClampNeg (((a1 >>> (((nI 8) * x4).toInt64 &&& 63)) &&& (lN 255))).toInt32 → (∀ x4_5 : Int32, x4_5 = x4 + (nI 1) → ((q_X9_write_31 a1 a2 k n_) S_4 x4_5)))))) := rfl
set_option maxRecDepth 100000 in
set_option maxHeartbeats 4000000 in
theorem b_X9_write_31 {p : Program} {l : Launch} {e : Env} {s : State} {m : MethodId} {args : Array Value} {below : List Frame} {meth : Method} {c : Code} {Z : ZT} (hi : injZ 10 Z) (C : Cxt (gM Z) p s m meth c args yX9_write cX9_write 5 (Option.some .int)) {a1 : Int64} {a2 : Int32} {k : Int32 → St → Prop}   : ∀ (n_ : Nat) (S : St) (x4 : Int32) (H : Heap) (locs : List Loc) (ls : Array Slot), va_P Z.1 vwCl (wl shM 10 Z S) H → va_S (aa 10 Z) s.heap H locs → lv_has ls 5 [(0, .ref (Z.2.2.1 0)), (1, .long a1), (3, .int a2), (4, .int x4)] → q_X9_write_31 a1 a2 k n_ S x4 → W p l e (rmk 1 22) s m args below meth c H locs 0 0 (Qi below shM 10 Z args s k) (F0 m 31 ls []) := by
  have g := gokM hi
  have hx := C.1.1
  have hb := C.1.2.1
  intro n_
  induction n_ with
  | zero => intro S x4 H locs ls hP hS hl h; exact h.elim
  | succ n_ ih =>
    intro S x4 H locs ls hP hS hl h
    rw [q_X9_write_31_s] at h
    refine lv_iload hx hb dX9_write_31 (lv_at hl 3 rfl) ?_
    refine lv_iload_n hx hb dX9_write_33 rfl (lv_at hl 2 rfl) ?_
    refine lv_icmp_ge (tgt := 67) hx hb dX9_write_34 (by decide) (fun c_1 => ?_) (fun c_1 => ?_)
    · have h := h.1 c_1
      refine lv_aload_n hx hb dX9_write_67 rfl (lv_at hl 0 rfl) ?_
      refine lv_dup hx hb dX9_write_68 rfl ?_
      refine s_gI g C hP 0 9 (by decide) rfl rfl cfX9 (by decide) kFL_X9_56 dX9_write_69 ?_
      refine lv_iload_n hx hb dX9_write_72 rfl (lv_at hl 2 rfl) ?_
      refine lv_iadd hx hb dX9_write_73 ?_
      refine s_pI g C hP hS 0 9 (by decide) rfl rfl cfX9 (by decide) rfl rfl rfl kFL_X9_56 dX9_write_74 (fun H locs hP hS => ?_)
      obtain ⟨S_2, eS_2⟩ : ∃ z_ : St, z_ = sI S 0 9 ((S.1 0 9) + a2) := ⟨_, rfl⟩
      rw [← eS_2] at hP
      have h := h S_2 eS_2
      refine lv_aload_n hx hb dX9_write_77 rfl (lv_at hl 0 rfl) ?_
      refine s_gI g C hP 0 9 (by decide) rfl rfl cfX9 (by decide) kFL_X9_56 dX9_write_78 ?_
      exact s_ri C hP hS h dX9_write_81
    · have h := h.2 c_1
      refine lv_aload_n hx hb dX9_write_37 rfl (lv_at hl 0 rfl) ?_
      refine s_gR g C hP 0 10 4 (by decide) rfl rfl cfX9 (by decide) kFL_X9_23 dX9_write_38 ?_
      refine lv_aload_n hx hb dX9_write_41 rfl (lv_at hl 0 rfl) ?_
      refine s_gI g C hP 0 9 (by decide) rfl rfl cfX9 (by decide) kFL_X9_56 dX9_write_42 ?_
      refine lv_iload hx hb dX9_write_45 (lv_at hl 3 rfl) ?_
      refine lv_iadd hx hb dX9_write_47 ?_
      refine lv_lload_n hx hb dX9_write_48 rfl (lv_at hl 1 rfl) ?_
      refine lv_bipush (v := (nI 8)) hx hb dX9_write_49 (by decide) ?_
      refine lv_iload hx hb dX9_write_51 (lv_at hl 3 rfl) ?_
      refine lv_imul hx hb dX9_write_53 ?_
      refine lv_lshr hx hb dX9_write_54 rfl ?_
      refine lv_ldc2 (v := (lN 255)) hx hb C.1.2.2.2.1 (C.1.2.2.2.2 _ (List.mem_cons_of_mem _ kCO_X9_59)) dX9_write_55 ?_
      refine lv_land hx hb dX9_write_58 ?_
      refine lv_l2i hx hb dX9_write_59 rfl ?_
      have hv_3 := h.1
      have h := h.2
      refine s_stI g C hP hS 4 (by decide) rfl hv_3 dX9_write_60 (fun H locs hP hS => ?_)
      obtain ⟨S_4, eS_4⟩ : ∃ z_ : St, z_ = sI S 4 ((S.1 0 9) + x4).toNatClampNeg (((a1 >>> (((nI 8) * x4).toInt64 &&& 63)) &&& (lN 255))).toInt32 := ⟨_, rfl⟩
      rw [← eS_4] at hP
      have h := h S_4 eS_4
      obtain ⟨x4_5, ex4_5⟩ : ∃ y_ : Int32, y_ = x4 + (nI 1) := ⟨_, rfl⟩
      have h := h x4_5 ex4_5
      refine lv_iinc (v := x4_5) (lv' := [(4, .int x4_5), (0, .ref (Z.2.2.1 0)), (1, .long a1), (3, .int a2)]) hx hb dX9_write_61 hl (k := 3) rfl (by rw [ex4_5]; rfl) (by decide) rfl (fun ls hl => ?_)
      refine lv_goto (tgt := 31) hx hb dX9_write_64 (by decide) ?_
      exact ih _ _ _ _ _ hP hS (lv_sub hl [1, 2, 3, 0] rfl) h
def q_X9_write (S : St) (a1 : Int64) (a2 : Int32) (k : Int32 → St → Prop) : Prop := q_X9_in S a2 (nI 1) (nI 8) (fun r_1 => ((r_1 = (nI 0) → (k (-3 : Int32) S)) ∧ (¬ r_1 = (nI 0) → ((((S.1 0 9) + a2) ≤ (nI 200) → (∃ f_31, q_X9_write_31 a1 a2 k f_31 S (nI 0))) ∧ (¬ ((S.1 0 9) + a2) ≤ (nI 200) → (k (-5 : Int32) S))))))
set_option maxRecDepth 100000 in
set_option maxHeartbeats 4000000 in
theorem c_X9_write {l : Launch} {Z : ZT} (hi : injZ 10 Z) (S : St) (a1 : Int64) (a2 : Int32) (k : Int32 → St → Prop) (h : q_X9_write S a1 a2 k) : Mi l shM 10 Z (gM Z) yX9_write cX9_write 5 (Option.some .int) (rmk 1 22) [.ref (Z.2.2.1 0), .long a1, .int a2] S k := by
  have g := gokM hi
  refine e_i (by decide) (Nat.le_of_ble_eq_true rfl) (lv := [(0, .ref (Z.2.2.1 0)), (1, .long a1), (3, .int a2)]) rfl (fun p e s m args below meth c C hP hS ls hl => ?_)
  have hx := C.1.1
  have hb := C.1.2.1
  unfold q_X9_write at h
  refine lv_iload_n hx hb dX9_write_0 rfl (lv_at hl 2 rfl) ?_
  refine lv_iconst (v := (nI 1)) hx hb dX9_write_1 (by decide) ?_
  refine lv_bipush (v := (nI 8)) hx hb dX9_write_2 (by decide) ?_
  refine go_ip (run_S g C hP hS (As := [.int a2, .int (nI 1), .int (nI 8)]) (rest := []) (c_X9_in hi S a2 (nI 1) (nI 8) _ h) cal_X9_in kML_X9_45 ⟨rfl, rfl, Nat.le_of_ble_eq_true rfl, Nat.le_of_ble_eq_true rfl⟩ rfl rfl hl.1 (Nat.le_of_ble_eq_true rfl) dX9_write_4) hS (fun r_1 H locs h hP hS => ?_)
  obtain ⟨hbr_1, h⟩ := h
  refine lv_if_ne (tgt := 13) hx hb dX9_write_7 (by decide) (fun c_2 => ?_) (fun c_2 => ?_)
  · have h := h.2 c_2
    refine lv_aload_n hx hb dX9_write_13 rfl (lv_at hl 0 rfl) ?_
    refine s_gI g C hP 0 9 (by decide) rfl rfl cfX9 (by decide) kFL_X9_56 dX9_write_14 ?_
    refine lv_iload_n hx hb dX9_write_17 rfl (lv_at hl 2 rfl) ?_
    refine lv_iadd hx hb dX9_write_18 ?_
    refine lv_sipush (v := (nI 200)) hx hb dX9_write_19 (by decide) ?_
    refine lv_icmp_le (tgt := 28) hx hb dX9_write_22 (by decide) (fun c_3 => ?_) (fun c_3 => ?_)
    · have h := h.1 c_3
      refine lv_iconst (v := (nI 0)) hx hb dX9_write_28 (by decide) ?_
      refine lv_istore (lv' := [(4, .int (nI 0)), (0, .ref (Z.2.2.1 0)), (1, .long a1), (3, .int a2)]) hx hb dX9_write_29 hl (by decide) rfl (fun ls hl => ?_)
      obtain ⟨f_31, h⟩ := h
      exact b_X9_write_31 hi C  f_31 _ _ _ _ _ hP hS (lv_sub hl [1, 2, 3, 0] rfl) h
    · have h := h.2 c_3
      refine lv_bipush (v := (-5 : Int32)) hx hb dX9_write_25 (by decide) ?_
      exact s_ri C hP hS h dX9_write_27
  · have h := h.1 c_2
    refine lv_bipush (v := (-3 : Int32)) hx hb dX9_write_10 (by decide) ?_
    exact s_ri C hP hS h dX9_write_12
def q_X9_erase (S : St) (k : Int32 → St → Prop) : Prop := ∀ x1_1 : Int32, x1_1 = (S.1 0 9) → (∀ S_2 : St, S_2 = sI S 0 9 (nI 0) → (k x1_1 S_2))
set_option maxRecDepth 100000 in
set_option maxHeartbeats 4000000 in
theorem c_X9_erase {l : Launch} {Z : ZT} (hi : injZ 10 Z) (S : St) (k : Int32 → St → Prop) (h : q_X9_erase S k) : Mi l shM 10 Z (gM Z) yX9_erase cX9_erase 2 (Option.some .int) (rmk 0 0) [.ref (Z.2.2.1 0)] S k := by
  have g := gokM hi
  refine e_i (by decide) (Nat.le_of_ble_eq_true rfl) (lv := [(0, .ref (Z.2.2.1 0))]) rfl (fun p e s m args below meth c C hP hS ls hl => ?_)
  have hx := C.1.1
  have hb := C.1.2.1
  unfold q_X9_erase at h
  refine lv_aload_n hx hb dX9_erase_0 rfl (lv_at hl 0 rfl) ?_
  refine s_gI g C hP 0 9 (by decide) rfl rfl cfX9 (by decide) kFL_X9_56 dX9_erase_1 ?_
  refine lv_topi (fun x1_1 ex1_1 => ?_)
  have h := h x1_1 ex1_1
  refine lv_istore_n (lv' := [(1, .int x1_1), (0, .ref (Z.2.2.1 0))]) hx hb dX9_erase_4 rfl hl (by decide) rfl (fun ls hl => ?_)
  refine lv_aload_n hx hb dX9_erase_5 rfl (lv_at hl 1 rfl) ?_
  refine lv_iconst (v := (nI 0)) hx hb dX9_erase_6 (by decide) ?_
  refine s_pI g C hP hS 0 9 (by decide) rfl rfl cfX9 (by decide) rfl rfl rfl kFL_X9_56 dX9_erase_7 (fun H locs hP hS => ?_)
  obtain ⟨S_2, eS_2⟩ : ∃ z_ : St, z_ = sI S 0 9 (nI 0) := ⟨_, rfl⟩
  rw [← eS_2] at hP
  have h := h S_2 eS_2
  refine lv_iload_n hx hb dX9_erase_10 rfl (lv_at hl 0 rfl) ?_
  exact s_ri C hP hS h dX9_erase_11
def q_X9_nextToken_381 (k : St → Prop) (S : St) (t0 : Int64) : Prop := ∀ S_1 : St, S_1 = sJ S 0 13 t0 → (∀ S_2 : St, S_2 = sI S_1 0 11 ((S_1.1 0 11) + (nI 1)) → (k S_2))
set_option maxRecDepth 100000 in
set_option maxHeartbeats 4000000 in
theorem b_X9_nextToken_381 {p : Program} {l : Launch} {e : Env} {s : State} {m : MethodId} {args : Array Value} {below : List Frame} {meth : Method} {c : Code} {Z : ZT} (hi : injZ 10 Z) (C : Cxt (gM Z) p s m meth c args yX9_nextToken cX9_nextToken 1 none) {k : St → Prop}   (S : St) (t0 : Int64) (H : Heap) (locs : List Loc) (ls : Array Slot) (hP : va_P Z.1 vwCl (wl shM 10 Z S) H) (hS : va_S (aa 10 Z) s.heap H locs) (hl : lv_has ls 1 [(0, .ref (Z.2.2.1 0))]) (h : q_X9_nextToken_381 k S t0) : W p l e (rmk 1 22) s m args below meth c H locs 0 0 (Qv below shM 10 Z args s k) (F0 m 381 ls [.long t0, .ref (Z.2.2.1 0)]) := by
  have g := gokM hi
  have hx := C.1.1
  have hb := C.1.2.1
  unfold q_X9_nextToken_381 at h
  refine s_pJ g C hP hS 0 13 (by decide) rfl rfl cfX9 (by decide) rfl rfl rfl kFL_X9_75 dX9_nextToken_381 (fun H locs hP hS => ?_)
  obtain ⟨S_1, eS_1⟩ : ∃ z_ : St, z_ = sJ S 0 13 t0 := ⟨_, rfl⟩
  rw [← eS_1] at hP
  have h := h S_1 eS_1
  refine lv_aload_n hx hb dX9_nextToken_384 rfl (lv_at hl 0 rfl) ?_
  refine lv_dup hx hb dX9_nextToken_385 rfl ?_
  refine s_gI g C hP 0 11 (by decide) rfl rfl cfX9 (by decide) kFL_X9_61 dX9_nextToken_386 ?_
  refine lv_iconst (v := (nI 1)) hx hb dX9_nextToken_389 (by decide) ?_
  refine lv_iadd hx hb dX9_nextToken_390 ?_
  refine s_pI g C hP hS 0 11 (by decide) rfl rfl cfX9 (by decide) rfl rfl rfl kFL_X9_61 dX9_nextToken_391 (fun H locs hP hS => ?_)
  obtain ⟨S_2, eS_2⟩ : ∃ z_ : St, z_ = sI S_1 0 11 ((S_1.1 0 11) + (nI 1)) := ⟨_, rfl⟩
  rw [← eS_2] at hP
  have h := h S_2 eS_2
  exact s_rv C hP hS h dX9_nextToken_394
def q_X9_nextToken_333 (k : St → Prop) (S : St) : Prop := ((S.1 0 14) ≤ (nI 2) → (∀ S_2 : St, S_2 = sJ S 0 13 (-1 : Int64) → (k S_2))) ∧ (¬ (S.1 0 14) ≤ (nI 2) → (∀ S_3 : St, S_3 = sJ S 0 13 (-4 : Int64) → (k S_3)))
set_option maxRecDepth 100000 in
set_option maxHeartbeats 4000000 in
theorem b_X9_nextToken_333 {p : Program} {l : Launch} {e : Env} {s : State} {m : MethodId} {args : Array Value} {below : List Frame} {meth : Method} {c : Code} {Z : ZT} (hi : injZ 10 Z) (C : Cxt (gM Z) p s m meth c args yX9_nextToken cX9_nextToken 1 none) {k : St → Prop}   (S : St) (H : Heap) (locs : List Loc) (ls : Array Slot) (hP : va_P Z.1 vwCl (wl shM 10 Z S) H) (hS : va_S (aa 10 Z) s.heap H locs) (hl : lv_has ls 1 [(0, .ref (Z.2.2.1 0))]) (h : q_X9_nextToken_333 k S) : W p l e (rmk 1 22) s m args below meth c H locs 0 0 (Qv below shM 10 Z args s k) (F0 m 333 ls []) := by
  have g := gokM hi
  have hx := C.1.1
  have hb := C.1.2.1
  unfold q_X9_nextToken_333 at h
  refine lv_aload_n hx hb dX9_nextToken_333 rfl (lv_at hl 0 rfl) ?_
  refine lv_aload_n hx hb dX9_nextToken_334 rfl (lv_at hl 0 rfl) ?_
  refine s_gI g C hP 0 14 (by decide) rfl rfl cfX9 (by decide) kFL_X9_67 dX9_nextToken_335 ?_
  refine lv_iconst (v := (nI 2)) hx hb dX9_nextToken_338 (by decide) ?_
  refine lv_icmp_le (tgt := 348) hx hb dX9_nextToken_339 (by decide) (fun c_1 => ?_) (fun c_1 => ?_)
  · have h := h.1 c_1
    refine lv_ldc2 (v := (-1 : Int64)) hx hb C.1.2.2.2.1 (C.1.2.2.2.2 _ (List.mem_cons_of_mem _ kCO_X9_85)) dX9_nextToken_348 ?_
    refine s_pJ g C hP hS 0 13 (by decide) rfl rfl cfX9 (by decide) rfl rfl rfl kFL_X9_75 dX9_nextToken_351 (fun H locs hP hS => ?_)
    obtain ⟨S_2, eS_2⟩ : ∃ z_ : St, z_ = sJ S 0 13 (-1 : Int64) := ⟨_, rfl⟩
    rw [← eS_2] at hP
    have h := h S_2 eS_2
    refine lv_goto (tgt := 394) hx hb dX9_nextToken_354 (by decide) ?_
    exact s_rv C hP hS h dX9_nextToken_394
  · have h := h.2 c_1
    refine lv_ldc2 (v := (-4 : Int64)) hx hb C.1.2.2.2.1 (C.1.2.2.2.2 _ (List.mem_cons_of_mem _ kCO_X9_83)) dX9_nextToken_342 ?_
    refine lv_goto (tgt := 351) hx hb dX9_nextToken_345 (by decide) ?_
    refine s_pJ g C hP hS 0 13 (by decide) rfl rfl cfX9 (by decide) rfl rfl rfl kFL_X9_75 dX9_nextToken_351 (fun H locs hP hS => ?_)
    obtain ⟨S_3, eS_3⟩ : ∃ z_ : St, z_ = sJ S 0 13 (-4 : Int64) := ⟨_, rfl⟩
    rw [← eS_3] at hP
    have h := h S_3 eS_3
    refine lv_goto (tgt := 394) hx hb dX9_nextToken_354 (by decide) ?_
    exact s_rv C hP hS h dX9_nextToken_394
def q_X9_nextToken_307 (k : St → Prop) (e_241 : St → Prop) (S : St) (t0 : Int32) : Prop := ∀ S_1 : St, S_1 = sI S 0 15 t0 → (∀ S_2 : St, S_2 = sI S_1 0 14 ((S_1.1 0 14) + (nI 1)) → (∀ S_3 : St, S_3 = sI S_2 0 11 ((S_2.1 0 11) + (nI 1)) → (e_241 S_3)))
set_option maxRecDepth 100000 in
set_option maxHeartbeats 4000000 in
theorem b_X9_nextToken_307 {p : Program} {l : Launch} {e : Env} {s : State} {m : MethodId} {args : Array Value} {below : List Frame} {meth : Method} {c : Code} {Z : ZT} (hi : injZ 10 Z) (C : Cxt (gM Z) p s m meth c args yX9_nextToken cX9_nextToken 1 none) {k : St → Prop} {e_241 : St → Prop}  (he_241 : ∀ (S : St) (H : Heap) (locs : List Loc) (ls : Array Slot), va_P Z.1 vwCl (wl shM 10 Z S) H → va_S (aa 10 Z) s.heap H locs → lv_has ls 1 [(0, .ref (Z.2.2.1 0))] → e_241 S → W p l e (rmk 1 22) s m args below meth c H locs 0 0 (Qv below shM 10 Z args s k) (F0 m 241 ls [])) (S : St) (t0 : Int32) (H : Heap) (locs : List Loc) (ls : Array Slot) (hP : va_P Z.1 vwCl (wl shM 10 Z S) H) (hS : va_S (aa 10 Z) s.heap H locs) (hl : lv_has ls 1 [(0, .ref (Z.2.2.1 0))]) (h : q_X9_nextToken_307 k e_241 S t0) : W p l e (rmk 1 22) s m args below meth c H locs 0 0 (Qv below shM 10 Z args s k) (F0 m 307 ls [.int t0, .ref (Z.2.2.1 0)]) := by
  have g := gokM hi
  have hx := C.1.1
  have hb := C.1.2.1
  unfold q_X9_nextToken_307 at h
  refine s_pI g C hP hS 0 15 (by decide) rfl rfl cfX9 (by decide) rfl rfl rfl kFL_X9_70 dX9_nextToken_307 (fun H locs hP hS => ?_)
  obtain ⟨S_1, eS_1⟩ : ∃ z_ : St, z_ = sI S 0 15 t0 := ⟨_, rfl⟩
  rw [← eS_1] at hP
  have h := h S_1 eS_1
  refine lv_aload_n hx hb dX9_nextToken_310 rfl (lv_at hl 0 rfl) ?_
  refine lv_dup hx hb dX9_nextToken_311 rfl ?_
  refine s_gI g C hP 0 14 (by decide) rfl rfl cfX9 (by decide) kFL_X9_67 dX9_nextToken_312 ?_
  refine lv_iconst (v := (nI 1)) hx hb dX9_nextToken_315 (by decide) ?_
  refine lv_iadd hx hb dX9_nextToken_316 ?_
  refine s_pI g C hP hS 0 14 (by decide) rfl rfl cfX9 (by decide) rfl rfl rfl kFL_X9_67 dX9_nextToken_317 (fun H locs hP hS => ?_)
  obtain ⟨S_2, eS_2⟩ : ∃ z_ : St, z_ = sI S_1 0 14 ((S_1.1 0 14) + (nI 1)) := ⟨_, rfl⟩
  rw [← eS_2] at hP
  have h := h S_2 eS_2
  refine lv_aload_n hx hb dX9_nextToken_320 rfl (lv_at hl 0 rfl) ?_
  refine lv_dup hx hb dX9_nextToken_321 rfl ?_
  refine s_gI g C hP 0 11 (by decide) rfl rfl cfX9 (by decide) kFL_X9_61 dX9_nextToken_322 ?_
  refine lv_iconst (v := (nI 1)) hx hb dX9_nextToken_325 (by decide) ?_
  refine lv_iadd hx hb dX9_nextToken_326 ?_
  refine s_pI g C hP hS 0 11 (by decide) rfl rfl cfX9 (by decide) rfl rfl rfl kFL_X9_61 dX9_nextToken_327 (fun H locs hP hS => ?_)
  obtain ⟨S_3, eS_3⟩ : ∃ z_ : St, z_ = sI S_2 0 11 ((S_2.1 0 11) + (nI 1)) := ⟨_, rfl⟩
  rw [← eS_3] at hP
  have h := h S_3 eS_3
  refine lv_goto (tgt := 241) hx hb dX9_nextToken_330 (by decide) ?_
  exact he_241 _ _ _ _ hP hS (lv_sub hl [0] rfl) h
def q_X9_nextToken_241 (k : St → Prop) : Nat → St → Prop := fun n_ => Nat.rec (motive := fun _ => St → Prop) (fun _ => False) (fun _ ih => fun S => ((S.1 0 9) ≤ (S.1 0 11) → (q_X9_nextToken_333 k S)) ∧ (¬ (S.1 0 9) ≤ (S.1 0 11) → (vp_in (S.1 0 11) 200 ∧ (q_X9_in S (S.1 4 (S.1 0 11).toNatClampNeg) (nI 48) (nI 57) (fun r_3 => ((r_3 = (nI 0) → (q_X9_nextToken_333 k S)) ∧ (¬ r_3 = (nI 0) → (((nI 2) ≤ (S.1 0 14) → (q_X9_nextToken_307 k ih S (S.1 0 15))) ∧ (¬ (nI 2) ≤ (S.1 0 14) → (vp_in (S.1 0 11) 200 ∧ (q_X9_nextToken_307 k ih S ((((nI 10) * (S.1 0 15)) + (S.1 4 (S.1 0 11).toNatClampNeg)) - (nI 48))))))))))))) n_
theorem q_X9_nextToken_241_s (k : St → Prop) (n_ : Nat) (S : St) : q_X9_nextToken_241 k (n_ + 1) S = (((S.1 0 9) ≤ (S.1 0 11) → (q_X9_nextToken_333 k S)) ∧ (¬ (S.1 0 9) ≤ (S.1 0 11) → (vp_in (S.1 0 11) 200 ∧ (q_X9_in S (S.1 4 (S.1 0 11).toNatClampNeg) (nI 48) (nI 57) (fun r_3 => ((r_3 = (nI 0) → (q_X9_nextToken_333 k S)) ∧ (¬ r_3 = (nI 0) → (((nI 2) ≤ (S.1 0 14) → (q_X9_nextToken_307 k (q_X9_nextToken_241 k n_) S (S.1 0 15))) ∧ (¬ (nI 2) ≤ (S.1 0 14) → (vp_in (S.1 0 11) 200 ∧ (q_X9_nextToken_307 k (q_X9_nextToken_241 k n_) S ((((nI 10) * (S.1 0 15)) + (S.1 4 (S.1 0 11).toNatClampNeg)) - (nI 48))))))))))))) := rfl
set_option maxRecDepth 100000 in
set_option maxHeartbeats 4000000 in
theorem b_X9_nextToken_241 {p : Program} {l : Launch} {e : Env} {s : State} {m : MethodId} {args : Array Value} {below : List Frame} {meth : Method} {c : Code} {Z : ZT} (hi : injZ 10 Z) (C : Cxt (gM Z) p s m meth c args yX9_nextToken cX9_nextToken 1 none) {k : St → Prop}   : ∀ (n_ : Nat) (S : St) (H : Heap) (locs : List Loc) (ls : Array Slot), va_P Z.1 vwCl (wl shM 10 Z S) H → va_S (aa 10 Z) s.heap H locs → lv_has ls 1 [(0, .ref (Z.2.2.1 0))] → q_X9_nextToken_241 k n_ S → W p l e (rmk 1 22) s m args below meth c H locs 0 0 (Qv below shM 10 Z args s k) (F0 m 241 ls []) := by
  have g := gokM hi
  have hx := C.1.1
  have hb := C.1.2.1
  intro n_
  induction n_ with
  | zero => intro S H locs ls hP hS hl h; exact h.elim
  | succ n_ ih =>
    intro S H locs ls hP hS hl h
    rw [q_X9_nextToken_241_s] at h
    refine lv_aload_n hx hb dX9_nextToken_241 rfl (lv_at hl 0 rfl) ?_
    refine s_gI g C hP 0 11 (by decide) rfl rfl cfX9 (by decide) kFL_X9_61 dX9_nextToken_242 ?_
    refine lv_aload_n hx hb dX9_nextToken_245 rfl (lv_at hl 0 rfl) ?_
    refine s_gI g C hP 0 9 (by decide) rfl rfl cfX9 (by decide) kFL_X9_56 dX9_nextToken_246 ?_
    refine lv_icmp_ge (tgt := 333) hx hb dX9_nextToken_249 (by decide) (fun c_1 => ?_) (fun c_1 => ?_)
    · have h := h.1 c_1
      exact b_X9_nextToken_333 hi C  _ _ _ _ hP hS (lv_sub hl [0] rfl) h
    · have h := h.2 c_1
      refine lv_aload_n hx hb dX9_nextToken_252 rfl (lv_at hl 0 rfl) ?_
      refine s_gR g C hP 0 10 4 (by decide) rfl rfl cfX9 (by decide) kFL_X9_23 dX9_nextToken_253 ?_
      refine lv_aload_n hx hb dX9_nextToken_256 rfl (lv_at hl 0 rfl) ?_
      refine s_gI g C hP 0 11 (by decide) rfl rfl cfX9 (by decide) kFL_X9_61 dX9_nextToken_257 ?_
      have hv_2 := h.1
      have h := h.2
      refine s_aI g C hP 4 (by decide) rfl hv_2 dX9_nextToken_260 ?_
      refine lv_bipush (v := (nI 48)) hx hb dX9_nextToken_261 (by decide) ?_
      refine lv_bipush (v := (nI 57)) hx hb dX9_nextToken_263 (by decide) ?_
      refine go_ip (run_S g C hP hS (As := [.int (S.1 4 (S.1 0 11).toNatClampNeg), .int (nI 48), .int (nI 57)]) (rest := []) (c_X9_in hi S (S.1 4 (S.1 0 11).toNatClampNeg) (nI 48) (nI 57) _ h) cal_X9_in kML_X9_45 ⟨rfl, rfl, Nat.le_of_ble_eq_true rfl, Nat.le_of_ble_eq_true rfl⟩ rfl rfl hl.1 (Nat.le_of_ble_eq_true rfl) dX9_nextToken_265) hS (fun r_3 H locs h hP hS => ?_)
      obtain ⟨hbr_3, h⟩ := h
      refine lv_if_eq (tgt := 333) hx hb dX9_nextToken_268 (by decide) (fun c_4 => ?_) (fun c_4 => ?_)
      · have h := h.1 c_4
        exact b_X9_nextToken_333 hi C  _ _ _ _ hP hS (lv_sub hl [0] rfl) h
      · have h := h.2 c_4
        refine lv_aload_n hx hb dX9_nextToken_271 rfl (lv_at hl 0 rfl) ?_
        refine lv_aload_n hx hb dX9_nextToken_272 rfl (lv_at hl 0 rfl) ?_
        refine s_gI g C hP 0 14 (by decide) rfl rfl cfX9 (by decide) kFL_X9_67 dX9_nextToken_273 ?_
        refine lv_iconst (v := (nI 2)) hx hb dX9_nextToken_276 (by decide) ?_
        refine lv_icmp_ge (tgt := 303) hx hb dX9_nextToken_277 (by decide) (fun c_5 => ?_) (fun c_5 => ?_)
        · have h := h.1 c_5
          refine lv_aload_n hx hb dX9_nextToken_303 rfl (lv_at hl 0 rfl) ?_
          refine s_gI g C hP 0 15 (by decide) rfl rfl cfX9 (by decide) kFL_X9_70 dX9_nextToken_304 ?_
          exact b_X9_nextToken_307 hi C ih _ _ _ _ _ hP hS (lv_sub hl [0] rfl) h
        · have h := h.2 c_5
          refine lv_bipush (v := (nI 10)) hx hb dX9_nextToken_280 (by decide) ?_
          refine lv_aload_n hx hb dX9_nextToken_282 rfl (lv_at hl 0 rfl) ?_
          refine s_gI g C hP 0 15 (by decide) rfl rfl cfX9 (by decide) kFL_X9_70 dX9_nextToken_283 ?_
          refine lv_imul hx hb dX9_nextToken_286 ?_
          refine lv_aload_n hx hb dX9_nextToken_287 rfl (lv_at hl 0 rfl) ?_
          refine s_gR g C hP 0 10 4 (by decide) rfl rfl cfX9 (by decide) kFL_X9_23 dX9_nextToken_288 ?_
          refine lv_aload_n hx hb dX9_nextToken_291 rfl (lv_at hl 0 rfl) ?_
          refine s_gI g C hP 0 11 (by decide) rfl rfl cfX9 (by decide) kFL_X9_61 dX9_nextToken_292 ?_
          have hv_6 := h.1
          have h := h.2
          refine s_aI g C hP 4 (by decide) rfl hv_6 dX9_nextToken_295 ?_
          refine lv_iadd hx hb dX9_nextToken_296 ?_
          refine lv_bipush (v := (nI 48)) hx hb dX9_nextToken_297 (by decide) ?_
          refine lv_isub hx hb dX9_nextToken_299 ?_
          refine lv_goto (tgt := 307) hx hb dX9_nextToken_300 (by decide) ?_
          exact b_X9_nextToken_307 hi C ih _ _ _ _ _ hP hS (lv_sub hl [0] rfl) h
def q_X9_nextToken_191 (k : St → Prop) (S : St) : Prop := (((S.1 0 11) - (S.1 0 12)) ≤ (nI 9) → (∀ S_2 : St, S_2 = sJ S 0 13 (S.2 0 13) → (k S_2))) ∧ (¬ ((S.1 0 11) - (S.1 0 12)) ≤ (nI 9) → (∀ S_3 : St, S_3 = sJ S 0 13 (-4 : Int64) → (k S_3)))
set_option maxRecDepth 100000 in
set_option maxHeartbeats 4000000 in
theorem b_X9_nextToken_191 {p : Program} {l : Launch} {e : Env} {s : State} {m : MethodId} {args : Array Value} {below : List Frame} {meth : Method} {c : Code} {Z : ZT} (hi : injZ 10 Z) (C : Cxt (gM Z) p s m meth c args yX9_nextToken cX9_nextToken 1 none) {k : St → Prop}   (S : St) (H : Heap) (locs : List Loc) (ls : Array Slot) (hP : va_P Z.1 vwCl (wl shM 10 Z S) H) (hS : va_S (aa 10 Z) s.heap H locs) (hl : lv_has ls 1 [(0, .ref (Z.2.2.1 0))]) (h : q_X9_nextToken_191 k S) : W p l e (rmk 1 22) s m args below meth c H locs 0 0 (Qv below shM 10 Z args s k) (F0 m 191 ls []) := by
  have g := gokM hi
  have hx := C.1.1
  have hb := C.1.2.1
  unfold q_X9_nextToken_191 at h
  refine lv_aload_n hx hb dX9_nextToken_191 rfl (lv_at hl 0 rfl) ?_
  refine lv_aload_n hx hb dX9_nextToken_192 rfl (lv_at hl 0 rfl) ?_
  refine s_gI g C hP 0 11 (by decide) rfl rfl cfX9 (by decide) kFL_X9_61 dX9_nextToken_193 ?_
  refine lv_aload_n hx hb dX9_nextToken_196 rfl (lv_at hl 0 rfl) ?_
  refine s_gI g C hP 0 12 (by decide) rfl rfl cfX9 (by decide) kFL_X9_64 dX9_nextToken_197 ?_
  refine lv_isub hx hb dX9_nextToken_200 ?_
  refine lv_bipush (v := (nI 9)) hx hb dX9_nextToken_201 (by decide) ?_
  refine lv_icmp_le (tgt := 212) hx hb dX9_nextToken_203 (by decide) (fun c_1 => ?_) (fun c_1 => ?_)
  · have h := h.1 c_1
    refine lv_aload_n hx hb dX9_nextToken_212 rfl (lv_at hl 0 rfl) ?_
    refine s_gJ g C hP 0 13 (by decide) rfl rfl cfX9 (by decide) kFL_X9_75 dX9_nextToken_213 ?_
    refine s_pJ g C hP hS 0 13 (by decide) rfl rfl cfX9 (by decide) rfl rfl rfl kFL_X9_75 dX9_nextToken_216 (fun H locs hP hS => ?_)
    obtain ⟨S_2, eS_2⟩ : ∃ z_ : St, z_ = sJ S 0 13 (S.2 0 13) := ⟨_, rfl⟩
    rw [← eS_2] at hP
    have h := h S_2 eS_2
    refine lv_goto (tgt := 394) hx hb dX9_nextToken_219 (by decide) ?_
    exact s_rv C hP hS h dX9_nextToken_394
  · have h := h.2 c_1
    refine lv_ldc2 (v := (-4 : Int64)) hx hb C.1.2.2.2.1 (C.1.2.2.2.2 _ (List.mem_cons_of_mem _ kCO_X9_83)) dX9_nextToken_206 ?_
    refine lv_goto (tgt := 216) hx hb dX9_nextToken_209 (by decide) ?_
    refine s_pJ g C hP hS 0 13 (by decide) rfl rfl cfX9 (by decide) rfl rfl rfl kFL_X9_75 dX9_nextToken_216 (fun H locs hP hS => ?_)
    obtain ⟨S_3, eS_3⟩ : ∃ z_ : St, z_ = sJ S 0 13 (-4 : Int64) := ⟨_, rfl⟩
    rw [← eS_3] at hP
    have h := h S_3 eS_3
    refine lv_goto (tgt := 394) hx hb dX9_nextToken_219 (by decide) ?_
    exact s_rv C hP hS h dX9_nextToken_394
def q_X9_nextToken_175 (k : St → Prop) (e_101 : St → Prop) (S : St) (t0 : Int64) : Prop := ∀ S_1 : St, S_1 = sJ S 0 13 t0 → (∀ S_2 : St, S_2 = sI S_1 0 11 ((S_1.1 0 11) + (nI 1)) → (e_101 S_2))
set_option maxRecDepth 100000 in
set_option maxHeartbeats 4000000 in
theorem b_X9_nextToken_175 {p : Program} {l : Launch} {e : Env} {s : State} {m : MethodId} {args : Array Value} {below : List Frame} {meth : Method} {c : Code} {Z : ZT} (hi : injZ 10 Z) (C : Cxt (gM Z) p s m meth c args yX9_nextToken cX9_nextToken 1 none) {k : St → Prop} {e_101 : St → Prop}  (he_101 : ∀ (S : St) (H : Heap) (locs : List Loc) (ls : Array Slot), va_P Z.1 vwCl (wl shM 10 Z S) H → va_S (aa 10 Z) s.heap H locs → lv_has ls 1 [(0, .ref (Z.2.2.1 0))] → e_101 S → W p l e (rmk 1 22) s m args below meth c H locs 0 0 (Qv below shM 10 Z args s k) (F0 m 101 ls [])) (S : St) (t0 : Int64) (H : Heap) (locs : List Loc) (ls : Array Slot) (hP : va_P Z.1 vwCl (wl shM 10 Z S) H) (hS : va_S (aa 10 Z) s.heap H locs) (hl : lv_has ls 1 [(0, .ref (Z.2.2.1 0))]) (h : q_X9_nextToken_175 k e_101 S t0) : W p l e (rmk 1 22) s m args below meth c H locs 0 0 (Qv below shM 10 Z args s k) (F0 m 175 ls [.long t0, .ref (Z.2.2.1 0)]) := by
  have g := gokM hi
  have hx := C.1.1
  have hb := C.1.2.1
  unfold q_X9_nextToken_175 at h
  refine s_pJ g C hP hS 0 13 (by decide) rfl rfl cfX9 (by decide) rfl rfl rfl kFL_X9_75 dX9_nextToken_175 (fun H locs hP hS => ?_)
  obtain ⟨S_1, eS_1⟩ : ∃ z_ : St, z_ = sJ S 0 13 t0 := ⟨_, rfl⟩
  rw [← eS_1] at hP
  have h := h S_1 eS_1
  refine lv_aload_n hx hb dX9_nextToken_178 rfl (lv_at hl 0 rfl) ?_
  refine lv_dup hx hb dX9_nextToken_179 rfl ?_
  refine s_gI g C hP 0 11 (by decide) rfl rfl cfX9 (by decide) kFL_X9_61 dX9_nextToken_180 ?_
  refine lv_iconst (v := (nI 1)) hx hb dX9_nextToken_183 (by decide) ?_
  refine lv_iadd hx hb dX9_nextToken_184 ?_
  refine s_pI g C hP hS 0 11 (by decide) rfl rfl cfX9 (by decide) rfl rfl rfl kFL_X9_61 dX9_nextToken_185 (fun H locs hP hS => ?_)
  obtain ⟨S_2, eS_2⟩ : ∃ z_ : St, z_ = sI S_1 0 11 ((S_1.1 0 11) + (nI 1)) := ⟨_, rfl⟩
  rw [← eS_2] at hP
  have h := h S_2 eS_2
  refine lv_goto (tgt := 101) hx hb dX9_nextToken_188 (by decide) ?_
  exact he_101 _ _ _ _ hP hS (lv_sub hl [0] rfl) h
def q_X9_nextToken_101 (k : St → Prop) : Nat → St → Prop := fun n_ => Nat.rec (motive := fun _ => St → Prop) (fun _ => False) (fun _ ih => fun S => ((S.1 0 9) ≤ (S.1 0 11) → (q_X9_nextToken_191 k S)) ∧ (¬ (S.1 0 9) ≤ (S.1 0 11) → (vp_in (S.1 0 11) 200 ∧ (q_X9_in S (S.1 4 (S.1 0 11).toNatClampNeg) (nI 97) (nI 122) (fun r_3 => ((r_3 = (nI 0) → (q_X9_nextToken_191 k S)) ∧ (¬ r_3 = (nI 0) → (((nI 9) ≤ ((S.1 0 11) - (S.1 0 12)) → (q_X9_nextToken_175 k ih S (-4 : Int64))) ∧ (¬ (nI 9) ≤ ((S.1 0 11) - (S.1 0 12)) → (vp_in (S.1 0 11) 200 ∧ (q_X9_nextToken_175 k ih S ((((lN 27) * (S.2 0 13)) + ((S.1 4 (S.1 0 11).toNatClampNeg)).toInt64) - (lN 96))))))))))))) n_
theorem q_X9_nextToken_101_s (k : St → Prop) (n_ : Nat) (S : St) : q_X9_nextToken_101 k (n_ + 1) S = (((S.1 0 9) ≤ (S.1 0 11) → (q_X9_nextToken_191 k S)) ∧ (¬ (S.1 0 9) ≤ (S.1 0 11) → (vp_in (S.1 0 11) 200 ∧ (q_X9_in S (S.1 4 (S.1 0 11).toNatClampNeg) (nI 97) (nI 122) (fun r_3 => ((r_3 = (nI 0) → (q_X9_nextToken_191 k S)) ∧ (¬ r_3 = (nI 0) → (((nI 9) ≤ ((S.1 0 11) - (S.1 0 12)) → (q_X9_nextToken_175 k (q_X9_nextToken_101 k n_) S (-4 : Int64))) ∧ (¬ (nI 9) ≤ ((S.1 0 11) - (S.1 0 12)) → (vp_in (S.1 0 11) 200 ∧ (q_X9_nextToken_175 k (q_X9_nextToken_101 k n_) S ((((lN 27) * (S.2 0 13)) + ((S.1 4 (S.1 0 11).toNatClampNeg)).toInt64) - (lN 96))))))))))))) := rfl
set_option maxRecDepth 100000 in
set_option maxHeartbeats 4000000 in
theorem b_X9_nextToken_101 {p : Program} {l : Launch} {e : Env} {s : State} {m : MethodId} {args : Array Value} {below : List Frame} {meth : Method} {c : Code} {Z : ZT} (hi : injZ 10 Z) (C : Cxt (gM Z) p s m meth c args yX9_nextToken cX9_nextToken 1 none) {k : St → Prop}   : ∀ (n_ : Nat) (S : St) (H : Heap) (locs : List Loc) (ls : Array Slot), va_P Z.1 vwCl (wl shM 10 Z S) H → va_S (aa 10 Z) s.heap H locs → lv_has ls 1 [(0, .ref (Z.2.2.1 0))] → q_X9_nextToken_101 k n_ S → W p l e (rmk 1 22) s m args below meth c H locs 0 0 (Qv below shM 10 Z args s k) (F0 m 101 ls []) := by
  have g := gokM hi
  have hx := C.1.1
  have hb := C.1.2.1
  intro n_
  induction n_ with
  | zero => intro S H locs ls hP hS hl h; exact h.elim
  | succ n_ ih =>
    intro S H locs ls hP hS hl h
    rw [q_X9_nextToken_101_s] at h
    refine lv_aload_n hx hb dX9_nextToken_101 rfl (lv_at hl 0 rfl) ?_
    refine s_gI g C hP 0 11 (by decide) rfl rfl cfX9 (by decide) kFL_X9_61 dX9_nextToken_102 ?_
    refine lv_aload_n hx hb dX9_nextToken_105 rfl (lv_at hl 0 rfl) ?_
    refine s_gI g C hP 0 9 (by decide) rfl rfl cfX9 (by decide) kFL_X9_56 dX9_nextToken_106 ?_
    refine lv_icmp_ge (tgt := 191) hx hb dX9_nextToken_109 (by decide) (fun c_1 => ?_) (fun c_1 => ?_)
    · have h := h.1 c_1
      exact b_X9_nextToken_191 hi C  _ _ _ _ hP hS (lv_sub hl [0] rfl) h
    · have h := h.2 c_1
      refine lv_aload_n hx hb dX9_nextToken_112 rfl (lv_at hl 0 rfl) ?_
      refine s_gR g C hP 0 10 4 (by decide) rfl rfl cfX9 (by decide) kFL_X9_23 dX9_nextToken_113 ?_
      refine lv_aload_n hx hb dX9_nextToken_116 rfl (lv_at hl 0 rfl) ?_
      refine s_gI g C hP 0 11 (by decide) rfl rfl cfX9 (by decide) kFL_X9_61 dX9_nextToken_117 ?_
      have hv_2 := h.1
      have h := h.2
      refine s_aI g C hP 4 (by decide) rfl hv_2 dX9_nextToken_120 ?_
      refine lv_bipush (v := (nI 97)) hx hb dX9_nextToken_121 (by decide) ?_
      refine lv_bipush (v := (nI 122)) hx hb dX9_nextToken_123 (by decide) ?_
      refine go_ip (run_S g C hP hS (As := [.int (S.1 4 (S.1 0 11).toNatClampNeg), .int (nI 97), .int (nI 122)]) (rest := []) (c_X9_in hi S (S.1 4 (S.1 0 11).toNatClampNeg) (nI 97) (nI 122) _ h) cal_X9_in kML_X9_45 ⟨rfl, rfl, Nat.le_of_ble_eq_true rfl, Nat.le_of_ble_eq_true rfl⟩ rfl rfl hl.1 (Nat.le_of_ble_eq_true rfl) dX9_nextToken_125) hS (fun r_3 H locs h hP hS => ?_)
      obtain ⟨hbr_3, h⟩ := h
      refine lv_if_eq (tgt := 191) hx hb dX9_nextToken_128 (by decide) (fun c_4 => ?_) (fun c_4 => ?_)
      · have h := h.1 c_4
        exact b_X9_nextToken_191 hi C  _ _ _ _ hP hS (lv_sub hl [0] rfl) h
      · have h := h.2 c_4
        refine lv_aload_n hx hb dX9_nextToken_131 rfl (lv_at hl 0 rfl) ?_
        refine lv_aload_n hx hb dX9_nextToken_132 rfl (lv_at hl 0 rfl) ?_
        refine s_gI g C hP 0 11 (by decide) rfl rfl cfX9 (by decide) kFL_X9_61 dX9_nextToken_133 ?_
        refine lv_aload_n hx hb dX9_nextToken_136 rfl (lv_at hl 0 rfl) ?_
        refine s_gI g C hP 0 12 (by decide) rfl rfl cfX9 (by decide) kFL_X9_64 dX9_nextToken_137 ?_
        refine lv_isub hx hb dX9_nextToken_140 ?_
        refine lv_bipush (v := (nI 9)) hx hb dX9_nextToken_141 (by decide) ?_
        refine lv_icmp_ge (tgt := 172) hx hb dX9_nextToken_143 (by decide) (fun c_5 => ?_) (fun c_5 => ?_)
        · have h := h.1 c_5
          refine lv_ldc2 (v := (-4 : Int64)) hx hb C.1.2.2.2.1 (C.1.2.2.2.2 _ (List.mem_cons_of_mem _ kCO_X9_83)) dX9_nextToken_172 ?_
          exact b_X9_nextToken_175 hi C ih _ _ _ _ _ hP hS (lv_sub hl [0] rfl) h
        · have h := h.2 c_5
          refine lv_ldc2 (v := (lN 27)) hx hb C.1.2.2.2.1 (C.1.2.2.2.2 _ (List.mem_cons_of_mem _ kCO_X9_79)) dX9_nextToken_146 ?_
          refine lv_aload_n hx hb dX9_nextToken_149 rfl (lv_at hl 0 rfl) ?_
          refine s_gJ g C hP 0 13 (by decide) rfl rfl cfX9 (by decide) kFL_X9_75 dX9_nextToken_150 ?_
          refine lv_lmul hx hb dX9_nextToken_153 ?_
          refine lv_aload_n hx hb dX9_nextToken_154 rfl (lv_at hl 0 rfl) ?_
          refine s_gR g C hP 0 10 4 (by decide) rfl rfl cfX9 (by decide) kFL_X9_23 dX9_nextToken_155 ?_
          refine lv_aload_n hx hb dX9_nextToken_158 rfl (lv_at hl 0 rfl) ?_
          refine s_gI g C hP 0 11 (by decide) rfl rfl cfX9 (by decide) kFL_X9_61 dX9_nextToken_159 ?_
          have hv_6 := h.1
          have h := h.2
          refine s_aI g C hP 4 (by decide) rfl hv_6 dX9_nextToken_162 ?_
          refine lv_i2l hx hb dX9_nextToken_163 rfl ?_
          refine lv_ladd hx hb dX9_nextToken_164 ?_
          refine lv_ldc2 (v := (lN 96)) hx hb C.1.2.2.2.1 (C.1.2.2.2.2 _ (List.mem_cons_of_mem _ kCO_X9_81)) dX9_nextToken_165 ?_
          refine lv_lsub hx hb dX9_nextToken_168 ?_
          refine lv_goto (tgt := 175) hx hb dX9_nextToken_169 (by decide) ?_
          exact b_X9_nextToken_175 hi C ih _ _ _ _ _ hP hS (lv_sub hl [0] rfl) h
def q_X9_nextToken_38 (k : St → Prop) (S : St) : Prop := ∀ S_1 : St, S_1 = sI S 0 12 (S.1 0 11) → (∀ S_2 : St, S_2 = sI S_1 0 14 (nI 0) → (∀ S_3 : St, S_3 = sI S_2 0 15 (nI 0) → (((S_3.1 0 11) = (S_3.1 0 9) → (∀ S_14 : St, S_14 = sJ S_3 0 13 (-2 : Int64) → (k S_14))) ∧ (¬ (S_3.1 0 11) = (S_3.1 0 9) → (vp_in (S_3.1 0 11) 200 ∧ (q_X9_in S_3 (S_3.1 4 (S_3.1 0 11).toNatClampNeg) (nI 97) (nI 122) (fun r_6 => ((r_6 = (nI 0) → (vp_in (S_3.1 0 11) 200 ∧ (q_X9_in S_3 (S_3.1 4 (S_3.1 0 11).toNatClampNeg) (nI 48) (nI 57) (fun r_9 => ((r_9 = (nI 0) → (vp_in (S_3.1 0 11) 200 ∧ (((S_3.1 4 (S_3.1 0 11).toNatClampNeg) = (nI 59) → (q_X9_nextToken_381 k S_3 (-3 : Int64))) ∧ (¬ (S_3.1 4 (S_3.1 0 11).toNatClampNeg) = (nI 59) → (q_X9_nextToken_381 k S_3 (-4 : Int64)))))) ∧ (¬ r_9 = (nI 0) → (∃ f_241, q_X9_nextToken_241 k f_241 S_3))))))) ∧ (¬ r_6 = (nI 0) → (∀ S_13 : St, S_13 = sJ S_3 0 13 (lN 0) → (∃ f_101, q_X9_nextToken_101 k f_101 S_13)))))))))))
set_option maxRecDepth 100000 in
set_option maxHeartbeats 4000000 in
theorem b_X9_nextToken_38 {p : Program} {l : Launch} {e : Env} {s : State} {m : MethodId} {args : Array Value} {below : List Frame} {meth : Method} {c : Code} {Z : ZT} (hi : injZ 10 Z) (C : Cxt (gM Z) p s m meth c args yX9_nextToken cX9_nextToken 1 none) {k : St → Prop}   (S : St) (H : Heap) (locs : List Loc) (ls : Array Slot) (hP : va_P Z.1 vwCl (wl shM 10 Z S) H) (hS : va_S (aa 10 Z) s.heap H locs) (hl : lv_has ls 1 [(0, .ref (Z.2.2.1 0))]) (h : q_X9_nextToken_38 k S) : W p l e (rmk 1 22) s m args below meth c H locs 0 0 (Qv below shM 10 Z args s k) (F0 m 38 ls []) := by
  have g := gokM hi
  have hx := C.1.1
  have hb := C.1.2.1
  unfold q_X9_nextToken_38 at h
  refine lv_aload_n hx hb dX9_nextToken_38 rfl (lv_at hl 0 rfl) ?_
  refine lv_aload_n hx hb dX9_nextToken_39 rfl (lv_at hl 0 rfl) ?_
  refine s_gI g C hP 0 11 (by decide) rfl rfl cfX9 (by decide) kFL_X9_61 dX9_nextToken_40 ?_
  refine s_pI g C hP hS 0 12 (by decide) rfl rfl cfX9 (by decide) rfl rfl rfl kFL_X9_64 dX9_nextToken_43 (fun H locs hP hS => ?_)
  obtain ⟨S_1, eS_1⟩ : ∃ z_ : St, z_ = sI S 0 12 (S.1 0 11) := ⟨_, rfl⟩
  rw [← eS_1] at hP
  have h := h S_1 eS_1
  refine lv_aload_n hx hb dX9_nextToken_46 rfl (lv_at hl 0 rfl) ?_
  refine lv_iconst (v := (nI 0)) hx hb dX9_nextToken_47 (by decide) ?_
  refine s_pI g C hP hS 0 14 (by decide) rfl rfl cfX9 (by decide) rfl rfl rfl kFL_X9_67 dX9_nextToken_48 (fun H locs hP hS => ?_)
  obtain ⟨S_2, eS_2⟩ : ∃ z_ : St, z_ = sI S_1 0 14 (nI 0) := ⟨_, rfl⟩
  rw [← eS_2] at hP
  have h := h S_2 eS_2
  refine lv_aload_n hx hb dX9_nextToken_51 rfl (lv_at hl 0 rfl) ?_
  refine lv_iconst (v := (nI 0)) hx hb dX9_nextToken_52 (by decide) ?_
  refine s_pI g C hP hS 0 15 (by decide) rfl rfl cfX9 (by decide) rfl rfl rfl kFL_X9_70 dX9_nextToken_53 (fun H locs hP hS => ?_)
  obtain ⟨S_3, eS_3⟩ : ∃ z_ : St, z_ = sI S_2 0 15 (nI 0) := ⟨_, rfl⟩
  rw [← eS_3] at hP
  have h := h S_3 eS_3
  refine lv_aload_n hx hb dX9_nextToken_56 rfl (lv_at hl 0 rfl) ?_
  refine s_gI g C hP 0 11 (by decide) rfl rfl cfX9 (by decide) kFL_X9_61 dX9_nextToken_57 ?_
  refine lv_aload_n hx hb dX9_nextToken_60 rfl (lv_at hl 0 rfl) ?_
  refine s_gI g C hP 0 9 (by decide) rfl rfl cfX9 (by decide) kFL_X9_56 dX9_nextToken_61 ?_
  refine lv_icmp_ne (tgt := 77) hx hb dX9_nextToken_64 (by decide) (fun c_4 => ?_) (fun c_4 => ?_)
  · have h := h.2 c_4
    refine lv_aload_n hx hb dX9_nextToken_77 rfl (lv_at hl 0 rfl) ?_
    refine s_gR g C hP 0 10 4 (by decide) rfl rfl cfX9 (by decide) kFL_X9_23 dX9_nextToken_78 ?_
    refine lv_aload_n hx hb dX9_nextToken_81 rfl (lv_at hl 0 rfl) ?_
    refine s_gI g C hP 0 11 (by decide) rfl rfl cfX9 (by decide) kFL_X9_61 dX9_nextToken_82 ?_
    have hv_5 := h.1
    have h := h.2
    refine s_aI g C hP 4 (by decide) rfl hv_5 dX9_nextToken_85 ?_
    refine lv_bipush (v := (nI 97)) hx hb dX9_nextToken_86 (by decide) ?_
    refine lv_bipush (v := (nI 122)) hx hb dX9_nextToken_88 (by decide) ?_
    refine go_ip (run_S g C hP hS (As := [.int (S_3.1 4 (S_3.1 0 11).toNatClampNeg), .int (nI 97), .int (nI 122)]) (rest := []) (c_X9_in hi S_3 (S_3.1 4 (S_3.1 0 11).toNatClampNeg) (nI 97) (nI 122) _ h) cal_X9_in kML_X9_45 ⟨rfl, rfl, Nat.le_of_ble_eq_true rfl, Nat.le_of_ble_eq_true rfl⟩ rfl rfl hl.1 (Nat.le_of_ble_eq_true rfl) dX9_nextToken_90) hS (fun r_6 H locs h hP hS => ?_)
    obtain ⟨hbr_6, h⟩ := h
    refine lv_if_eq (tgt := 222) hx hb dX9_nextToken_93 (by decide) (fun c_7 => ?_) (fun c_7 => ?_)
    · have h := h.1 c_7
      refine lv_aload_n hx hb dX9_nextToken_222 rfl (lv_at hl 0 rfl) ?_
      refine s_gR g C hP 0 10 4 (by decide) rfl rfl cfX9 (by decide) kFL_X9_23 dX9_nextToken_223 ?_
      refine lv_aload_n hx hb dX9_nextToken_226 rfl (lv_at hl 0 rfl) ?_
      refine s_gI g C hP 0 11 (by decide) rfl rfl cfX9 (by decide) kFL_X9_61 dX9_nextToken_227 ?_
      have hv_8 := h.1
      have h := h.2
      refine s_aI g C hP 4 (by decide) rfl hv_8 dX9_nextToken_230 ?_
      refine lv_bipush (v := (nI 48)) hx hb dX9_nextToken_231 (by decide) ?_
      refine lv_bipush (v := (nI 57)) hx hb dX9_nextToken_233 (by decide) ?_
      refine go_ip (run_S g C hP hS (As := [.int (S_3.1 4 (S_3.1 0 11).toNatClampNeg), .int (nI 48), .int (nI 57)]) (rest := []) (c_X9_in hi S_3 (S_3.1 4 (S_3.1 0 11).toNatClampNeg) (nI 48) (nI 57) _ h) cal_X9_in kML_X9_45 ⟨rfl, rfl, Nat.le_of_ble_eq_true rfl, Nat.le_of_ble_eq_true rfl⟩ rfl rfl hl.1 (Nat.le_of_ble_eq_true rfl) dX9_nextToken_235) hS (fun r_9 H locs h hP hS => ?_)
      obtain ⟨hbr_9, h⟩ := h
      refine lv_if_eq (tgt := 357) hx hb dX9_nextToken_238 (by decide) (fun c_10 => ?_) (fun c_10 => ?_)
      · have h := h.1 c_10
        refine lv_aload_n hx hb dX9_nextToken_357 rfl (lv_at hl 0 rfl) ?_
        refine lv_aload_n hx hb dX9_nextToken_358 rfl (lv_at hl 0 rfl) ?_
        refine s_gR g C hP 0 10 4 (by decide) rfl rfl cfX9 (by decide) kFL_X9_23 dX9_nextToken_359 ?_
        refine lv_aload_n hx hb dX9_nextToken_362 rfl (lv_at hl 0 rfl) ?_
        refine s_gI g C hP 0 11 (by decide) rfl rfl cfX9 (by decide) kFL_X9_61 dX9_nextToken_363 ?_
        have hv_11 := h.1
        have h := h.2
        refine s_aI g C hP 4 (by decide) rfl hv_11 dX9_nextToken_366 ?_
        refine lv_bipush (v := (nI 59)) hx hb dX9_nextToken_367 (by decide) ?_
        refine lv_icmp_ne (tgt := 378) hx hb dX9_nextToken_369 (by decide) (fun c_12 => ?_) (fun c_12 => ?_)
        · have h := h.2 c_12
          refine lv_ldc2 (v := (-4 : Int64)) hx hb C.1.2.2.2.1 (C.1.2.2.2.2 _ (List.mem_cons_of_mem _ kCO_X9_83)) dX9_nextToken_378 ?_
          exact b_X9_nextToken_381 hi C  _ _ _ _ _ hP hS (lv_sub hl [0] rfl) h
        · have h := h.1 c_12
          refine lv_ldc2 (v := (-3 : Int64)) hx hb C.1.2.2.2.1 (C.1.2.2.2.2 _ (List.mem_cons_of_mem _ kCO_X9_87)) dX9_nextToken_372 ?_
          refine lv_goto (tgt := 381) hx hb dX9_nextToken_375 (by decide) ?_
          exact b_X9_nextToken_381 hi C  _ _ _ _ _ hP hS (lv_sub hl [0] rfl) h
      · have h := h.2 c_10
        obtain ⟨f_241, h⟩ := h
        exact b_X9_nextToken_241 hi C  f_241 _ _ _ _ hP hS (lv_sub hl [0] rfl) h
    · have h := h.2 c_7
      refine lv_aload_n hx hb dX9_nextToken_96 rfl (lv_at hl 0 rfl) ?_
      refine lv_lconst (v := (lN 0)) hx hb dX9_nextToken_97 (by decide) ?_
      refine s_pJ g C hP hS 0 13 (by decide) rfl rfl cfX9 (by decide) rfl rfl rfl kFL_X9_75 dX9_nextToken_98 (fun H locs hP hS => ?_)
      obtain ⟨S_13, eS_13⟩ : ∃ z_ : St, z_ = sJ S_3 0 13 (lN 0) := ⟨_, rfl⟩
      rw [← eS_13] at hP
      have h := h S_13 eS_13
      obtain ⟨f_101, h⟩ := h
      exact b_X9_nextToken_101 hi C  f_101 _ _ _ _ hP hS (lv_sub hl [0] rfl) h
  · have h := h.1 c_4
    refine lv_aload_n hx hb dX9_nextToken_67 rfl (lv_at hl 0 rfl) ?_
    refine lv_ldc2 (v := (-2 : Int64)) hx hb C.1.2.2.2.1 (C.1.2.2.2.2 _ (List.mem_cons_of_mem _ kCO_X9_73)) dX9_nextToken_68 ?_
    refine s_pJ g C hP hS 0 13 (by decide) rfl rfl cfX9 (by decide) rfl rfl rfl kFL_X9_75 dX9_nextToken_71 (fun H locs hP hS => ?_)
    obtain ⟨S_14, eS_14⟩ : ∃ z_ : St, z_ = sJ S_3 0 13 (-2 : Int64) := ⟨_, rfl⟩
    rw [← eS_14] at hP
    have h := h S_14 eS_14
    refine lv_goto (tgt := 394) hx hb dX9_nextToken_74 (by decide) ?_
    exact s_rv C hP hS h dX9_nextToken_394
def q_X9_nextToken_0 (k : St → Prop) : Nat → St → Prop := fun n_ => Nat.rec (motive := fun _ => St → Prop) (fun _ => False) (fun _ ih => fun S => ((S.1 0 9) ≤ (S.1 0 11) → (q_X9_nextToken_38 k S)) ∧ (¬ (S.1 0 9) ≤ (S.1 0 11) → (vp_in (S.1 0 11) 200 ∧ (((S.1 4 (S.1 0 11).toNatClampNeg) = (nI 32) → (∀ S_4 : St, S_4 = sI S 0 11 ((S.1 0 11) + (nI 1)) → (ih S_4))) ∧ (¬ (S.1 4 (S.1 0 11).toNatClampNeg) = (nI 32) → (q_X9_nextToken_38 k S)))))) n_
theorem q_X9_nextToken_0_s (k : St → Prop) (n_ : Nat) (S : St) : q_X9_nextToken_0 k (n_ + 1) S = (((S.1 0 9) ≤ (S.1 0 11) → (q_X9_nextToken_38 k S)) ∧ (¬ (S.1 0 9) ≤ (S.1 0 11) → (vp_in (S.1 0 11) 200 ∧ (((S.1 4 (S.1 0 11).toNatClampNeg) = (nI 32) → (∀ S_4 : St, S_4 = sI S 0 11 ((S.1 0 11) + (nI 1)) → ((q_X9_nextToken_0 k n_) S_4))) ∧ (¬ (S.1 4 (S.1 0 11).toNatClampNeg) = (nI 32) → (q_X9_nextToken_38 k S)))))) := rfl
set_option maxRecDepth 100000 in
set_option maxHeartbeats 4000000 in
theorem b_X9_nextToken_0 {p : Program} {l : Launch} {e : Env} {s : State} {m : MethodId} {args : Array Value} {below : List Frame} {meth : Method} {c : Code} {Z : ZT} (hi : injZ 10 Z) (C : Cxt (gM Z) p s m meth c args yX9_nextToken cX9_nextToken 1 none) {k : St → Prop}   : ∀ (n_ : Nat) (S : St) (H : Heap) (locs : List Loc) (ls : Array Slot), va_P Z.1 vwCl (wl shM 10 Z S) H → va_S (aa 10 Z) s.heap H locs → lv_has ls 1 [(0, .ref (Z.2.2.1 0))] → q_X9_nextToken_0 k n_ S → W p l e (rmk 1 22) s m args below meth c H locs 0 0 (Qv below shM 10 Z args s k) (F0 m 0 ls []) := by
  have g := gokM hi
  have hx := C.1.1
  have hb := C.1.2.1
  intro n_
  induction n_ with
  | zero => intro S H locs ls hP hS hl h; exact h.elim
  | succ n_ ih =>
    intro S H locs ls hP hS hl h
    rw [q_X9_nextToken_0_s] at h
    refine lv_aload_n hx hb dX9_nextToken_0 rfl (lv_at hl 0 rfl) ?_
    refine s_gI g C hP 0 11 (by decide) rfl rfl cfX9 (by decide) kFL_X9_61 dX9_nextToken_1 ?_
    refine lv_aload_n hx hb dX9_nextToken_4 rfl (lv_at hl 0 rfl) ?_
    refine s_gI g C hP 0 9 (by decide) rfl rfl cfX9 (by decide) kFL_X9_56 dX9_nextToken_5 ?_
    refine lv_icmp_ge (tgt := 38) hx hb dX9_nextToken_8 (by decide) (fun c_1 => ?_) (fun c_1 => ?_)
    · have h := h.1 c_1
      exact b_X9_nextToken_38 hi C  _ _ _ _ hP hS (lv_sub hl [0] rfl) h
    · have h := h.2 c_1
      refine lv_aload_n hx hb dX9_nextToken_11 rfl (lv_at hl 0 rfl) ?_
      refine s_gR g C hP 0 10 4 (by decide) rfl rfl cfX9 (by decide) kFL_X9_23 dX9_nextToken_12 ?_
      refine lv_aload_n hx hb dX9_nextToken_15 rfl (lv_at hl 0 rfl) ?_
      refine s_gI g C hP 0 11 (by decide) rfl rfl cfX9 (by decide) kFL_X9_61 dX9_nextToken_16 ?_
      have hv_2 := h.1
      have h := h.2
      refine s_aI g C hP 4 (by decide) rfl hv_2 dX9_nextToken_19 ?_
      refine lv_bipush (v := (nI 32)) hx hb dX9_nextToken_20 (by decide) ?_
      refine lv_icmp_ne (tgt := 38) hx hb dX9_nextToken_22 (by decide) (fun c_3 => ?_) (fun c_3 => ?_)
      · have h := h.2 c_3
        exact b_X9_nextToken_38 hi C  _ _ _ _ hP hS (lv_sub hl [0] rfl) h
      · have h := h.1 c_3
        refine lv_aload_n hx hb dX9_nextToken_25 rfl (lv_at hl 0 rfl) ?_
        refine lv_dup hx hb dX9_nextToken_26 rfl ?_
        refine s_gI g C hP 0 11 (by decide) rfl rfl cfX9 (by decide) kFL_X9_61 dX9_nextToken_27 ?_
        refine lv_iconst (v := (nI 1)) hx hb dX9_nextToken_30 (by decide) ?_
        refine lv_iadd hx hb dX9_nextToken_31 ?_
        refine s_pI g C hP hS 0 11 (by decide) rfl rfl cfX9 (by decide) rfl rfl rfl kFL_X9_61 dX9_nextToken_32 (fun H locs hP hS => ?_)
        obtain ⟨S_4, eS_4⟩ : ∃ z_ : St, z_ = sI S 0 11 ((S.1 0 11) + (nI 1)) := ⟨_, rfl⟩
        rw [← eS_4] at hP
        have h := h S_4 eS_4
        refine lv_goto (tgt := 0) hx hb dX9_nextToken_35 (by decide) ?_
        exact ih _ _ _ _ hP hS (lv_sub hl [0] rfl) h
def q_X9_nextToken (S : St) (k : St → Prop) : Prop := ∃ f_0, q_X9_nextToken_0 k f_0 S
set_option maxRecDepth 100000 in
set_option maxHeartbeats 4000000 in
theorem c_X9_nextToken {l : Launch} {Z : ZT} (hi : injZ 10 Z) (S : St) (k : St → Prop) (h : q_X9_nextToken S k) : Mv l shM 10 Z (gM Z) yX9_nextToken cX9_nextToken 1 none (rmk 1 22) [.ref (Z.2.2.1 0)] S k := by
  have g := gokM hi
  refine e_v (by decide) (Nat.le_of_ble_eq_true rfl) (lv := [(0, .ref (Z.2.2.1 0))]) rfl (fun p e s m args below meth c C hP hS ls hl => ?_)
  have hx := C.1.1
  have hb := C.1.2.1
  unfold q_X9_nextToken at h
  obtain ⟨f_0, h⟩ := h
  exact b_X9_nextToken_0 hi C  f_0 _ _ _ _ hP hS (lv_sub hl [0] rfl) h
def q_X9_fails (S : St) (k : Int32 → St → Prop) : Prop := ∀ S_1 : St, S_1 = sI S 0 16 (S.1 0 12) → (k (nI 0) S_1)
set_option maxRecDepth 100000 in
set_option maxHeartbeats 4000000 in
theorem c_X9_fails {l : Launch} {Z : ZT} (hi : injZ 10 Z) (S : St) (k : Int32 → St → Prop) (h : q_X9_fails S k) : Mi l shM 10 Z (gM Z) yX9_fails cX9_fails 1 (Option.some .boolean) (rmk 0 0) [.ref (Z.2.2.1 0)] S (fun r S' => (r = 0 ∨ r = 1) ∧ k r S') := by
  have g := gokM hi
  refine e_i (by decide) (Nat.le_of_ble_eq_true rfl) (lv := [(0, .ref (Z.2.2.1 0))]) rfl (fun p e s m args below meth c C hP hS ls hl => ?_)
  have hx := C.1.1
  have hb := C.1.2.1
  unfold q_X9_fails at h
  refine lv_aload_n hx hb dX9_fails_0 rfl (lv_at hl 0 rfl) ?_
  refine lv_aload_n hx hb dX9_fails_1 rfl (lv_at hl 0 rfl) ?_
  refine s_gI g C hP 0 12 (by decide) rfl rfl cfX9 (by decide) kFL_X9_64 dX9_fails_2 ?_
  refine s_pI g C hP hS 0 16 (by decide) rfl rfl cfX9 (by decide) rfl rfl rfl kFL_X9_89 dX9_fails_5 (fun H locs hP hS => ?_)
  obtain ⟨S_1, eS_1⟩ : ∃ z_ : St, z_ = sI S 0 16 (S.1 0 12) := ⟨_, rfl⟩
  rw [← eS_1] at hP
  have h := h S_1 eS_1
  refine lv_iconst (v := (nI 0)) hx hb dX9_fails_8 (by decide) ?_
  exact s_rz C hP hS (nar_b (Or.inl rfl)) ⟨(Or.inl rfl), h⟩ dX9_fails_9
def q_X9_isNumber_27 (a1 : Int32) (a2 : Int32) (a3 : Int32) (k : Int32 → St → Prop) (S : St) : Prop := q_X9_fails S (fun r_1 S_2 => (k r_1 S_2))
set_option maxRecDepth 100000 in
set_option maxHeartbeats 4000000 in
theorem b_X9_isNumber_27 {p : Program} {l : Launch} {e : Env} {s : State} {m : MethodId} {args : Array Value} {below : List Frame} {meth : Method} {c : Code} {Z : ZT} (hi : injZ 10 Z) (C : Cxt (gM Z) p s m meth c args yX9_isNumber cX9_isNumber 4 (Option.some .boolean)) {a1 : Int32} {a2 : Int32} {a3 : Int32} {k : Int32 → St → Prop}   (S : St) (H : Heap) (locs : List Loc) (ls : Array Slot) (hP : va_P Z.1 vwCl (wl shM 10 Z S) H) (hS : va_S (aa 10 Z) s.heap H locs) (hl : lv_has ls 4 [(0, .ref (Z.2.2.1 0))]) (h : q_X9_isNumber_27 a1 a2 a3 k S) : W p l e (rmk 2 42) s m args below meth c H locs 0 0 (Qi below shM 10 Z args s (fun r S' => (r = 0 ∨ r = 1) ∧ k r S')) (F0 m 27 ls []) := by
  have g := gokM hi
  have hx := C.1.1
  have hb := C.1.2.1
  unfold q_X9_isNumber_27 at h
  refine lv_aload_n hx hb dX9_isNumber_27 rfl (lv_at hl 0 rfl) ?_
  refine go_i (run_V g C hP hS (c0 := 0) (As := []) (rest := []) (c_X9_fails hi S _ h) cal_X9_fails kML_X9_95 (by decide) rfl cfX9 ⟨rfl, rfl, Nat.le_of_ble_eq_true rfl, Nat.le_of_ble_eq_true rfl⟩ rfl rfl hl.1 (Nat.le_of_ble_eq_true rfl) dX9_isNumber_28) hS (fun r_1 S_2 H locs h hP hS => ?_)
  obtain ⟨hbr_1, h⟩ := h
  exact s_rz C hP hS (nar_b hbr_1) ⟨hbr_1, h⟩ dX9_isNumber_31
def q_X9_isNumber (S : St) (a1 : Int32) (a2 : Int32) (a3 : Int32) (k : Int32 → St → Prop) : Prop := q_X9_nextToken S (fun S_1 => (((lg_cmp (S_1.2 0 13) (-1 : Int64)) = (nI 0) → (q_X9_in S_1 (S_1.1 0 15) a2 a3 (fun r_3 => ((r_3 = (nI 0) → (q_X9_isNumber_27 a1 a2 a3 k S_1)) ∧ (¬ r_3 = (nI 0) → (vp_in a1 70 ∧ (∀ S_6 : St, S_6 = sI S_1 5 a1.toNatClampNeg (S_1.1 0 15) → (k (nI 1) S_6)))))))) ∧ (¬ (lg_cmp (S_1.2 0 13) (-1 : Int64)) = (nI 0) → (q_X9_isNumber_27 a1 a2 a3 k S_1))))
set_option maxRecDepth 100000 in
set_option maxHeartbeats 4000000 in
theorem c_X9_isNumber {l : Launch} {Z : ZT} (hi : injZ 10 Z) (S : St) (a1 : Int32) (a2 : Int32) (a3 : Int32) (k : Int32 → St → Prop) (h : q_X9_isNumber S a1 a2 a3 k) : Mi l shM 10 Z (gM Z) yX9_isNumber cX9_isNumber 4 (Option.some .boolean) (rmk 2 42) [.ref (Z.2.2.1 0), .int a1, .int a2, .int a3] S (fun r S' => (r = 0 ∨ r = 1) ∧ k r S') := by
  have g := gokM hi
  refine e_i (by decide) (Nat.le_of_ble_eq_true rfl) (lv := [(0, .ref (Z.2.2.1 0)), (1, .int a1), (2, .int a2), (3, .int a3)]) rfl (fun p e s m args below meth c C hP hS ls hl => ?_)
  have hx := C.1.1
  have hb := C.1.2.1
  unfold q_X9_isNumber at h
  refine lv_aload_n hx hb dX9_isNumber_0 rfl (lv_at hl 0 rfl) ?_
  refine go_v (run_V g C hP hS (c0 := 0) (As := []) (rest := []) (c_X9_nextToken hi S _ h) cal_X9_nextToken kML_X9_92 (by decide) rfl cfX9 ⟨rfl, rfl, Nat.le_of_ble_eq_true rfl, Nat.le_of_ble_eq_true rfl⟩ rfl rfl hl.1 (Nat.le_of_ble_eq_true rfl) dX9_isNumber_1) hS (fun S_1 H locs h hP hS => ?_)
  refine lv_aload_n hx hb dX9_isNumber_4 rfl (lv_at hl 0 rfl) ?_
  refine s_gJ g C hP 0 13 (by decide) rfl rfl cfX9 (by decide) kFL_X9_75 dX9_isNumber_5 ?_
  refine lv_ldc2 (v := (-1 : Int64)) hx hb C.1.2.2.2.1 (C.1.2.2.2.2 _ (List.mem_cons_of_mem _ kCO_X9_85)) dX9_isNumber_8 ?_
  refine W.lcmp hx hb dX9_isNumber_11 ?_
  refine lv_if_ne (tgt := 27) hx hb dX9_isNumber_12 (by decide) (fun c_2 => ?_) (fun c_2 => ?_)
  · have h := h.2 c_2
    exact b_X9_isNumber_27 hi C  _ _ _ _ hP hS (lv_sub hl [0] rfl) h
  · have h := h.1 c_2
    refine lv_aload_n hx hb dX9_isNumber_15 rfl (lv_at hl 0 rfl) ?_
    refine s_gI g C hP 0 15 (by decide) rfl rfl cfX9 (by decide) kFL_X9_70 dX9_isNumber_16 ?_
    refine lv_iload_n hx hb dX9_isNumber_19 rfl (lv_at hl 2 rfl) ?_
    refine lv_iload_n hx hb dX9_isNumber_20 rfl (lv_at hl 3 rfl) ?_
    refine go_ip (run_S g C hP hS (As := [.int (S_1.1 0 15), .int a2, .int a3]) (rest := []) (c_X9_in hi S_1 (S_1.1 0 15) a2 a3 _ h) cal_X9_in kML_X9_45 ⟨rfl, rfl, Nat.le_of_ble_eq_true rfl, Nat.le_of_ble_eq_true rfl⟩ rfl rfl hl.1 (Nat.le_of_ble_eq_true rfl) dX9_isNumber_21) hS (fun r_3 H locs h hP hS => ?_)
    obtain ⟨hbr_3, h⟩ := h
    refine lv_if_ne (tgt := 32) hx hb dX9_isNumber_24 (by decide) (fun c_4 => ?_) (fun c_4 => ?_)
    · have h := h.2 c_4
      refine lv_aload_n hx hb dX9_isNumber_32 rfl (lv_at hl 0 rfl) ?_
      refine s_gR g C hP 0 18 5 (by decide) rfl rfl cfX9 (by decide) kFL_X9_26 dX9_isNumber_33 ?_
      refine lv_iload_n hx hb dX9_isNumber_36 rfl (lv_at hl 1 rfl) ?_
      refine lv_aload_n hx hb dX9_isNumber_37 rfl (lv_at hl 0 rfl) ?_
      refine s_gI g C hP 0 15 (by decide) rfl rfl cfX9 (by decide) kFL_X9_70 dX9_isNumber_38 ?_
      have hv_5 := h.1
      have h := h.2
      refine s_stI g C hP hS 5 (by decide) rfl hv_5 dX9_isNumber_41 (fun H locs hP hS => ?_)
      obtain ⟨S_6, eS_6⟩ : ∃ z_ : St, z_ = sI S_1 5 a1.toNatClampNeg (S_1.1 0 15) := ⟨_, rfl⟩
      rw [← eS_6] at hP
      have h := h S_6 eS_6
      refine lv_iconst (v := (nI 1)) hx hb dX9_isNumber_42 (by decide) ?_
      exact s_rz C hP hS (nar_b (Or.inr rfl)) ⟨(Or.inr rfl), h⟩ dX9_isNumber_43
    · have h := h.1 c_4
      exact b_X9_isNumber_27 hi C  _ _ _ _ hP hS (lv_sub hl [0] rfl) h
def q_X9_areHours (S : St) (a1 : Int32) (k : Int32 → St → Prop) : Prop := q_X9_isNumber S a1 (nI 0) (nI 11) (fun r_1 S_2 => ((r_1 = (nI 0) → (k (nI 0) S_2)) ∧ (¬ r_1 = (nI 0) → (vp_in a1 70 ∧ (q_X9_isNumber S_2 (a1 + (nI 1)) (S_2.1 5 a1.toNatClampNeg) (nI 11) (fun r_5 S_6 => ((r_5 = (nI 0) → (k (nI 0) S_6)) ∧ (¬ r_5 = (nI 0) → (k (nI 1) S_6)))))))))
set_option maxRecDepth 100000 in
set_option maxHeartbeats 4000000 in
theorem c_X9_areHours {l : Launch} {Z : ZT} (hi : injZ 10 Z) (S : St) (a1 : Int32) (k : Int32 → St → Prop) (h : q_X9_areHours S a1 k) : Mi l shM 10 Z (gM Z) yX9_areHours cX9_areHours 2 (Option.some .boolean) (rmk 3 65) [.ref (Z.2.2.1 0), .int a1] S (fun r S' => (r = 0 ∨ r = 1) ∧ k r S') := by
  have g := gokM hi
  refine e_i (by decide) (Nat.le_of_ble_eq_true rfl) (lv := [(0, .ref (Z.2.2.1 0)), (1, .int a1)]) rfl (fun p e s m args below meth c C hP hS ls hl => ?_)
  have hx := C.1.1
  have hb := C.1.2.1
  unfold q_X9_areHours at h
  refine lv_aload_n hx hb dX9_areHours_0 rfl (lv_at hl 0 rfl) ?_
  refine lv_iload_n hx hb dX9_areHours_1 rfl (lv_at hl 1 rfl) ?_
  refine lv_iconst (v := (nI 0)) hx hb dX9_areHours_2 (by decide) ?_
  refine lv_bipush (v := (nI 11)) hx hb dX9_areHours_3 (by decide) ?_
  refine go_i (run_V g C hP hS (c0 := 0) (As := [.int a1, .int (nI 0), .int (nI 11)]) (rest := []) (c_X9_isNumber hi S a1 (nI 0) (nI 11) _ h) cal_X9_isNumber kML_X9_99 (by decide) rfl cfX9 ⟨rfl, rfl, Nat.le_of_ble_eq_true rfl, Nat.le_of_ble_eq_true rfl⟩ rfl rfl hl.1 (Nat.le_of_ble_eq_true rfl) dX9_areHours_5) hS (fun r_1 S_2 H locs h hP hS => ?_)
  obtain ⟨hbr_1, h⟩ := h
  refine lv_if_eq (tgt := 33) hx hb dX9_areHours_8 (by decide) (fun c_3 => ?_) (fun c_3 => ?_)
  · have h := h.1 c_3
    refine lv_iconst (v := (nI 0)) hx hb dX9_areHours_33 (by decide) ?_
    exact s_rz C hP hS (nar_b (Or.inl rfl)) ⟨(Or.inl rfl), h⟩ dX9_areHours_34
  · have h := h.2 c_3
    refine lv_aload_n hx hb dX9_areHours_11 rfl (lv_at hl 0 rfl) ?_
    refine lv_iload_n hx hb dX9_areHours_12 rfl (lv_at hl 1 rfl) ?_
    refine lv_iconst (v := (nI 1)) hx hb dX9_areHours_13 (by decide) ?_
    refine lv_iadd hx hb dX9_areHours_14 ?_
    refine lv_aload_n hx hb dX9_areHours_15 rfl (lv_at hl 0 rfl) ?_
    refine s_gR g C hP 0 18 5 (by decide) rfl rfl cfX9 (by decide) kFL_X9_26 dX9_areHours_16 ?_
    refine lv_iload_n hx hb dX9_areHours_19 rfl (lv_at hl 1 rfl) ?_
    have hv_4 := h.1
    have h := h.2
    refine s_aI g C hP 5 (by decide) rfl hv_4 dX9_areHours_20 ?_
    refine lv_bipush (v := (nI 11)) hx hb dX9_areHours_21 (by decide) ?_
    refine go_i (run_V g C hP hS (c0 := 0) (As := [.int (a1 + (nI 1)), .int (S_2.1 5 a1.toNatClampNeg), .int (nI 11)]) (rest := []) (c_X9_isNumber hi S_2 (a1 + (nI 1)) (S_2.1 5 a1.toNatClampNeg) (nI 11) _ h) cal_X9_isNumber kML_X9_99 (by decide) rfl cfX9 ⟨rfl, rfl, Nat.le_of_ble_eq_true rfl, Nat.le_of_ble_eq_true rfl⟩ rfl rfl hl.1 (Nat.le_of_ble_eq_true rfl) dX9_areHours_23) hS (fun r_5 S_6 H locs h hP hS => ?_)
    obtain ⟨hbr_5, h⟩ := h
    refine lv_if_eq (tgt := 33) hx hb dX9_areHours_26 (by decide) (fun c_7 => ?_) (fun c_7 => ?_)
    · have h := h.1 c_7
      refine lv_iconst (v := (nI 0)) hx hb dX9_areHours_33 (by decide) ?_
      exact s_rz C hP hS (nar_b (Or.inl rfl)) ⟨(Or.inl rfl), h⟩ dX9_areHours_34
    · have h := h.2 c_7
      refine lv_iconst (v := (nI 1)) hx hb dX9_areHours_29 (by decide) ?_
      refine lv_goto (tgt := 34) hx hb dX9_areHours_30 (by decide) ?_
      exact s_rz C hP hS (nar_b (Or.inr rfl)) ⟨(Or.inr rfl), h⟩ dX9_areHours_34
def q_X9_isKiteLine (S : St) (a1 : Int32) (k : Int32 → St → Prop) : Prop := q_X9_isNumber S (a1 + (nI 1)) (nI 0) (nI 5) (fun r_1 S_2 => ((r_1 = (nI 0) → (k (nI 0) S_2)) ∧ (¬ r_1 = (nI 0) → (q_X9_isNumber S_2 (a1 + (nI 2)) (nI 0) (nI 9) (fun r_4 S_5 => ((r_4 = (nI 0) → (k (nI 0) S_5)) ∧ (¬ r_4 = (nI 0) → (q_X9_isNumber S_5 (a1 + (nI 3)) (nI 1) (nI 5) (fun r_7 S_8 => ((r_7 = (nI 0) → (k (nI 0) S_8)) ∧ (¬ r_7 = (nI 0) → (q_X9_isNumber S_8 (a1 + (nI 4)) (nI 1) (nI 9) (fun r_10 S_11 => ((r_10 = (nI 0) → (k (nI 0) S_11)) ∧ (¬ r_10 = (nI 0) → (q_X9_isNumber S_11 (a1 + (nI 5)) (nI 0) (nI 9) (fun r_13 S_14 => ((r_13 = (nI 0) → (k (nI 0) S_14)) ∧ (¬ r_13 = (nI 0) → (q_X9_isNumber S_14 (a1 + (nI 6)) (nI 0) (nI 2) (fun r_16 S_17 => ((r_16 = (nI 0) → (k (nI 0) S_17)) ∧ (¬ r_16 = (nI 0) → (k (nI 1) S_17))))))))))))))))))))))))
set_option maxRecDepth 100000 in
set_option maxHeartbeats 4000000 in
theorem c_X9_isKiteLine {l : Launch} {Z : ZT} (hi : injZ 10 Z) (S : St) (a1 : Int32) (k : Int32 → St → Prop) (h : q_X9_isKiteLine S a1 k) : Mi l shM 10 Z (gM Z) yX9_isKiteLine cX9_isKiteLine 2 (Option.some .boolean) (rmk 3 65) [.ref (Z.2.2.1 0), .int a1] S (fun r S' => (r = 0 ∨ r = 1) ∧ k r S') := by
  have g := gokM hi
  refine e_i (by decide) (Nat.le_of_ble_eq_true rfl) (lv := [(0, .ref (Z.2.2.1 0)), (1, .int a1)]) rfl (fun p e s m args below meth c C hP hS ls hl => ?_)
  have hx := C.1.1
  have hb := C.1.2.1
  unfold q_X9_isKiteLine at h
  refine lv_aload_n hx hb dX9_isKiteLine_0 rfl (lv_at hl 0 rfl) ?_
  refine lv_iload_n hx hb dX9_isKiteLine_1 rfl (lv_at hl 1 rfl) ?_
  refine lv_iconst (v := (nI 1)) hx hb dX9_isKiteLine_2 (by decide) ?_
  refine lv_iadd hx hb dX9_isKiteLine_3 ?_
  refine lv_iconst (v := (nI 0)) hx hb dX9_isKiteLine_4 (by decide) ?_
  refine lv_iconst (v := (nI 5)) hx hb dX9_isKiteLine_5 (by decide) ?_
  refine go_i (run_V g C hP hS (c0 := 0) (As := [.int (a1 + (nI 1)), .int (nI 0), .int (nI 5)]) (rest := []) (c_X9_isNumber hi S (a1 + (nI 1)) (nI 0) (nI 5) _ h) cal_X9_isNumber kML_X9_99 (by decide) rfl cfX9 ⟨rfl, rfl, Nat.le_of_ble_eq_true rfl, Nat.le_of_ble_eq_true rfl⟩ rfl rfl hl.1 (Nat.le_of_ble_eq_true rfl) dX9_isKiteLine_6) hS (fun r_1 S_2 H locs h hP hS => ?_)
  obtain ⟨hbr_1, h⟩ := h
  refine lv_if_eq (tgt := 80) hx hb dX9_isKiteLine_9 (by decide) (fun c_3 => ?_) (fun c_3 => ?_)
  · have h := h.1 c_3
    refine lv_iconst (v := (nI 0)) hx hb dX9_isKiteLine_80 (by decide) ?_
    exact s_rz C hP hS (nar_b (Or.inl rfl)) ⟨(Or.inl rfl), h⟩ dX9_isKiteLine_81
  · have h := h.2 c_3
    refine lv_aload_n hx hb dX9_isKiteLine_12 rfl (lv_at hl 0 rfl) ?_
    refine lv_iload_n hx hb dX9_isKiteLine_13 rfl (lv_at hl 1 rfl) ?_
    refine lv_iconst (v := (nI 2)) hx hb dX9_isKiteLine_14 (by decide) ?_
    refine lv_iadd hx hb dX9_isKiteLine_15 ?_
    refine lv_iconst (v := (nI 0)) hx hb dX9_isKiteLine_16 (by decide) ?_
    refine lv_bipush (v := (nI 9)) hx hb dX9_isKiteLine_17 (by decide) ?_
    refine go_i (run_V g C hP hS (c0 := 0) (As := [.int (a1 + (nI 2)), .int (nI 0), .int (nI 9)]) (rest := []) (c_X9_isNumber hi S_2 (a1 + (nI 2)) (nI 0) (nI 9) _ h) cal_X9_isNumber kML_X9_99 (by decide) rfl cfX9 ⟨rfl, rfl, Nat.le_of_ble_eq_true rfl, Nat.le_of_ble_eq_true rfl⟩ rfl rfl hl.1 (Nat.le_of_ble_eq_true rfl) dX9_isKiteLine_19) hS (fun r_4 S_5 H locs h hP hS => ?_)
    obtain ⟨hbr_4, h⟩ := h
    refine lv_if_eq (tgt := 80) hx hb dX9_isKiteLine_22 (by decide) (fun c_6 => ?_) (fun c_6 => ?_)
    · have h := h.1 c_6
      refine lv_iconst (v := (nI 0)) hx hb dX9_isKiteLine_80 (by decide) ?_
      exact s_rz C hP hS (nar_b (Or.inl rfl)) ⟨(Or.inl rfl), h⟩ dX9_isKiteLine_81
    · have h := h.2 c_6
      refine lv_aload_n hx hb dX9_isKiteLine_25 rfl (lv_at hl 0 rfl) ?_
      refine lv_iload_n hx hb dX9_isKiteLine_26 rfl (lv_at hl 1 rfl) ?_
      refine lv_iconst (v := (nI 3)) hx hb dX9_isKiteLine_27 (by decide) ?_
      refine lv_iadd hx hb dX9_isKiteLine_28 ?_
      refine lv_iconst (v := (nI 1)) hx hb dX9_isKiteLine_29 (by decide) ?_
      refine lv_iconst (v := (nI 5)) hx hb dX9_isKiteLine_30 (by decide) ?_
      refine go_i (run_V g C hP hS (c0 := 0) (As := [.int (a1 + (nI 3)), .int (nI 1), .int (nI 5)]) (rest := []) (c_X9_isNumber hi S_5 (a1 + (nI 3)) (nI 1) (nI 5) _ h) cal_X9_isNumber kML_X9_99 (by decide) rfl cfX9 ⟨rfl, rfl, Nat.le_of_ble_eq_true rfl, Nat.le_of_ble_eq_true rfl⟩ rfl rfl hl.1 (Nat.le_of_ble_eq_true rfl) dX9_isKiteLine_31) hS (fun r_7 S_8 H locs h hP hS => ?_)
      obtain ⟨hbr_7, h⟩ := h
      refine lv_if_eq (tgt := 80) hx hb dX9_isKiteLine_34 (by decide) (fun c_9 => ?_) (fun c_9 => ?_)
      · have h := h.1 c_9
        refine lv_iconst (v := (nI 0)) hx hb dX9_isKiteLine_80 (by decide) ?_
        exact s_rz C hP hS (nar_b (Or.inl rfl)) ⟨(Or.inl rfl), h⟩ dX9_isKiteLine_81
      · have h := h.2 c_9
        refine lv_aload_n hx hb dX9_isKiteLine_37 rfl (lv_at hl 0 rfl) ?_
        refine lv_iload_n hx hb dX9_isKiteLine_38 rfl (lv_at hl 1 rfl) ?_
        refine lv_iconst (v := (nI 4)) hx hb dX9_isKiteLine_39 (by decide) ?_
        refine lv_iadd hx hb dX9_isKiteLine_40 ?_
        refine lv_iconst (v := (nI 1)) hx hb dX9_isKiteLine_41 (by decide) ?_
        refine lv_bipush (v := (nI 9)) hx hb dX9_isKiteLine_42 (by decide) ?_
        refine go_i (run_V g C hP hS (c0 := 0) (As := [.int (a1 + (nI 4)), .int (nI 1), .int (nI 9)]) (rest := []) (c_X9_isNumber hi S_8 (a1 + (nI 4)) (nI 1) (nI 9) _ h) cal_X9_isNumber kML_X9_99 (by decide) rfl cfX9 ⟨rfl, rfl, Nat.le_of_ble_eq_true rfl, Nat.le_of_ble_eq_true rfl⟩ rfl rfl hl.1 (Nat.le_of_ble_eq_true rfl) dX9_isKiteLine_44) hS (fun r_10 S_11 H locs h hP hS => ?_)
        obtain ⟨hbr_10, h⟩ := h
        refine lv_if_eq (tgt := 80) hx hb dX9_isKiteLine_47 (by decide) (fun c_12 => ?_) (fun c_12 => ?_)
        · have h := h.1 c_12
          refine lv_iconst (v := (nI 0)) hx hb dX9_isKiteLine_80 (by decide) ?_
          exact s_rz C hP hS (nar_b (Or.inl rfl)) ⟨(Or.inl rfl), h⟩ dX9_isKiteLine_81
        · have h := h.2 c_12
          refine lv_aload_n hx hb dX9_isKiteLine_50 rfl (lv_at hl 0 rfl) ?_
          refine lv_iload_n hx hb dX9_isKiteLine_51 rfl (lv_at hl 1 rfl) ?_
          refine lv_iconst (v := (nI 5)) hx hb dX9_isKiteLine_52 (by decide) ?_
          refine lv_iadd hx hb dX9_isKiteLine_53 ?_
          refine lv_iconst (v := (nI 0)) hx hb dX9_isKiteLine_54 (by decide) ?_
          refine lv_bipush (v := (nI 9)) hx hb dX9_isKiteLine_55 (by decide) ?_
          refine go_i (run_V g C hP hS (c0 := 0) (As := [.int (a1 + (nI 5)), .int (nI 0), .int (nI 9)]) (rest := []) (c_X9_isNumber hi S_11 (a1 + (nI 5)) (nI 0) (nI 9) _ h) cal_X9_isNumber kML_X9_99 (by decide) rfl cfX9 ⟨rfl, rfl, Nat.le_of_ble_eq_true rfl, Nat.le_of_ble_eq_true rfl⟩ rfl rfl hl.1 (Nat.le_of_ble_eq_true rfl) dX9_isKiteLine_57) hS (fun r_13 S_14 H locs h hP hS => ?_)
          obtain ⟨hbr_13, h⟩ := h
          refine lv_if_eq (tgt := 80) hx hb dX9_isKiteLine_60 (by decide) (fun c_15 => ?_) (fun c_15 => ?_)
          · have h := h.1 c_15
            refine lv_iconst (v := (nI 0)) hx hb dX9_isKiteLine_80 (by decide) ?_
            exact s_rz C hP hS (nar_b (Or.inl rfl)) ⟨(Or.inl rfl), h⟩ dX9_isKiteLine_81
          · have h := h.2 c_15
            refine lv_aload_n hx hb dX9_isKiteLine_63 rfl (lv_at hl 0 rfl) ?_
            refine lv_iload_n hx hb dX9_isKiteLine_64 rfl (lv_at hl 1 rfl) ?_
            refine lv_bipush (v := (nI 6)) hx hb dX9_isKiteLine_65 (by decide) ?_
            refine lv_iadd hx hb dX9_isKiteLine_67 ?_
            refine lv_iconst (v := (nI 0)) hx hb dX9_isKiteLine_68 (by decide) ?_
            refine lv_iconst (v := (nI 2)) hx hb dX9_isKiteLine_69 (by decide) ?_
            refine go_i (run_V g C hP hS (c0 := 0) (As := [.int (a1 + (nI 6)), .int (nI 0), .int (nI 2)]) (rest := []) (c_X9_isNumber hi S_14 (a1 + (nI 6)) (nI 0) (nI 2) _ h) cal_X9_isNumber kML_X9_99 (by decide) rfl cfX9 ⟨rfl, rfl, Nat.le_of_ble_eq_true rfl, Nat.le_of_ble_eq_true rfl⟩ rfl rfl hl.1 (Nat.le_of_ble_eq_true rfl) dX9_isKiteLine_70) hS (fun r_16 S_17 H locs h hP hS => ?_)
            obtain ⟨hbr_16, h⟩ := h
            refine lv_if_eq (tgt := 80) hx hb dX9_isKiteLine_73 (by decide) (fun c_18 => ?_) (fun c_18 => ?_)
            · have h := h.1 c_18
              refine lv_iconst (v := (nI 0)) hx hb dX9_isKiteLine_80 (by decide) ?_
              exact s_rz C hP hS (nar_b (Or.inl rfl)) ⟨(Or.inl rfl), h⟩ dX9_isKiteLine_81
            · have h := h.2 c_18
              refine lv_iconst (v := (nI 1)) hx hb dX9_isKiteLine_76 (by decide) ?_
              refine lv_goto (tgt := 81) hx hb dX9_isKiteLine_77 (by decide) ?_
              exact s_rz C hP hS (nar_b (Or.inr rfl)) ⟨(Or.inr rfl), h⟩ dX9_isKiteLine_81
def q_X9_isShoalLine (S : St) (a1 : Int32) (k : Int32 → St → Prop) : Prop := q_X9_isNumber S (a1 + (nI 1)) (nI 0) (nI 3) (fun r_1 S_2 => ((r_1 = (nI 0) → (k (nI 0) S_2)) ∧ (¬ r_1 = (nI 0) → (q_X9_isNumber S_2 (a1 + (nI 2)) (nI 0) (nI 9) (fun r_4 S_5 => ((r_4 = (nI 0) → (k (nI 0) S_5)) ∧ (¬ r_4 = (nI 0) → (q_X9_isNumber S_5 (a1 + (nI 3)) (nI 1) (nI 6) (fun r_7 S_8 => ((r_7 = (nI 0) → (k (nI 0) S_8)) ∧ (¬ r_7 = (nI 0) → (q_X9_isNumber S_8 (a1 + (nI 4)) (nI 0) (nI 2) (fun r_10 S_11 => ((r_10 = (nI 0) → (k (nI 0) S_11)) ∧ (¬ r_10 = (nI 0) → (q_X9_isNumber S_11 (a1 + (nI 5)) (nI 0) (nI 2) (fun r_13 S_14 => ((r_13 = (nI 0) → (k (nI 0) S_14)) ∧ (¬ r_13 = (nI 0) → (q_X9_isNumber S_14 (a1 + (nI 6)) (nI 0) (nI 99) (fun r_16 S_17 => ((r_16 = (nI 0) → (k (nI 0) S_17)) ∧ (¬ r_16 = (nI 0) → (k (nI 1) S_17))))))))))))))))))))))))
set_option maxRecDepth 100000 in
set_option maxHeartbeats 4000000 in
theorem c_X9_isShoalLine {l : Launch} {Z : ZT} (hi : injZ 10 Z) (S : St) (a1 : Int32) (k : Int32 → St → Prop) (h : q_X9_isShoalLine S a1 k) : Mi l shM 10 Z (gM Z) yX9_isShoalLine cX9_isShoalLine 2 (Option.some .boolean) (rmk 3 65) [.ref (Z.2.2.1 0), .int a1] S (fun r S' => (r = 0 ∨ r = 1) ∧ k r S') := by
  have g := gokM hi
  refine e_i (by decide) (Nat.le_of_ble_eq_true rfl) (lv := [(0, .ref (Z.2.2.1 0)), (1, .int a1)]) rfl (fun p e s m args below meth c C hP hS ls hl => ?_)
  have hx := C.1.1
  have hb := C.1.2.1
  unfold q_X9_isShoalLine at h
  refine lv_aload_n hx hb dX9_isShoalLine_0 rfl (lv_at hl 0 rfl) ?_
  refine lv_iload_n hx hb dX9_isShoalLine_1 rfl (lv_at hl 1 rfl) ?_
  refine lv_iconst (v := (nI 1)) hx hb dX9_isShoalLine_2 (by decide) ?_
  refine lv_iadd hx hb dX9_isShoalLine_3 ?_
  refine lv_iconst (v := (nI 0)) hx hb dX9_isShoalLine_4 (by decide) ?_
  refine lv_iconst (v := (nI 3)) hx hb dX9_isShoalLine_5 (by decide) ?_
  refine go_i (run_V g C hP hS (c0 := 0) (As := [.int (a1 + (nI 1)), .int (nI 0), .int (nI 3)]) (rest := []) (c_X9_isNumber hi S (a1 + (nI 1)) (nI 0) (nI 3) _ h) cal_X9_isNumber kML_X9_99 (by decide) rfl cfX9 ⟨rfl, rfl, Nat.le_of_ble_eq_true rfl, Nat.le_of_ble_eq_true rfl⟩ rfl rfl hl.1 (Nat.le_of_ble_eq_true rfl) dX9_isShoalLine_6) hS (fun r_1 S_2 H locs h hP hS => ?_)
  obtain ⟨hbr_1, h⟩ := h
  refine lv_if_eq (tgt := 80) hx hb dX9_isShoalLine_9 (by decide) (fun c_3 => ?_) (fun c_3 => ?_)
  · have h := h.1 c_3
    refine lv_iconst (v := (nI 0)) hx hb dX9_isShoalLine_80 (by decide) ?_
    exact s_rz C hP hS (nar_b (Or.inl rfl)) ⟨(Or.inl rfl), h⟩ dX9_isShoalLine_81
  · have h := h.2 c_3
    refine lv_aload_n hx hb dX9_isShoalLine_12 rfl (lv_at hl 0 rfl) ?_
    refine lv_iload_n hx hb dX9_isShoalLine_13 rfl (lv_at hl 1 rfl) ?_
    refine lv_iconst (v := (nI 2)) hx hb dX9_isShoalLine_14 (by decide) ?_
    refine lv_iadd hx hb dX9_isShoalLine_15 ?_
    refine lv_iconst (v := (nI 0)) hx hb dX9_isShoalLine_16 (by decide) ?_
    refine lv_bipush (v := (nI 9)) hx hb dX9_isShoalLine_17 (by decide) ?_
    refine go_i (run_V g C hP hS (c0 := 0) (As := [.int (a1 + (nI 2)), .int (nI 0), .int (nI 9)]) (rest := []) (c_X9_isNumber hi S_2 (a1 + (nI 2)) (nI 0) (nI 9) _ h) cal_X9_isNumber kML_X9_99 (by decide) rfl cfX9 ⟨rfl, rfl, Nat.le_of_ble_eq_true rfl, Nat.le_of_ble_eq_true rfl⟩ rfl rfl hl.1 (Nat.le_of_ble_eq_true rfl) dX9_isShoalLine_19) hS (fun r_4 S_5 H locs h hP hS => ?_)
    obtain ⟨hbr_4, h⟩ := h
    refine lv_if_eq (tgt := 80) hx hb dX9_isShoalLine_22 (by decide) (fun c_6 => ?_) (fun c_6 => ?_)
    · have h := h.1 c_6
      refine lv_iconst (v := (nI 0)) hx hb dX9_isShoalLine_80 (by decide) ?_
      exact s_rz C hP hS (nar_b (Or.inl rfl)) ⟨(Or.inl rfl), h⟩ dX9_isShoalLine_81
    · have h := h.2 c_6
      refine lv_aload_n hx hb dX9_isShoalLine_25 rfl (lv_at hl 0 rfl) ?_
      refine lv_iload_n hx hb dX9_isShoalLine_26 rfl (lv_at hl 1 rfl) ?_
      refine lv_iconst (v := (nI 3)) hx hb dX9_isShoalLine_27 (by decide) ?_
      refine lv_iadd hx hb dX9_isShoalLine_28 ?_
      refine lv_iconst (v := (nI 1)) hx hb dX9_isShoalLine_29 (by decide) ?_
      refine lv_bipush (v := (nI 6)) hx hb dX9_isShoalLine_30 (by decide) ?_
      refine go_i (run_V g C hP hS (c0 := 0) (As := [.int (a1 + (nI 3)), .int (nI 1), .int (nI 6)]) (rest := []) (c_X9_isNumber hi S_5 (a1 + (nI 3)) (nI 1) (nI 6) _ h) cal_X9_isNumber kML_X9_99 (by decide) rfl cfX9 ⟨rfl, rfl, Nat.le_of_ble_eq_true rfl, Nat.le_of_ble_eq_true rfl⟩ rfl rfl hl.1 (Nat.le_of_ble_eq_true rfl) dX9_isShoalLine_32) hS (fun r_7 S_8 H locs h hP hS => ?_)
      obtain ⟨hbr_7, h⟩ := h
      refine lv_if_eq (tgt := 80) hx hb dX9_isShoalLine_35 (by decide) (fun c_9 => ?_) (fun c_9 => ?_)
      · have h := h.1 c_9
        refine lv_iconst (v := (nI 0)) hx hb dX9_isShoalLine_80 (by decide) ?_
        exact s_rz C hP hS (nar_b (Or.inl rfl)) ⟨(Or.inl rfl), h⟩ dX9_isShoalLine_81
      · have h := h.2 c_9
        refine lv_aload_n hx hb dX9_isShoalLine_38 rfl (lv_at hl 0 rfl) ?_
        refine lv_iload_n hx hb dX9_isShoalLine_39 rfl (lv_at hl 1 rfl) ?_
        refine lv_iconst (v := (nI 4)) hx hb dX9_isShoalLine_40 (by decide) ?_
        refine lv_iadd hx hb dX9_isShoalLine_41 ?_
        refine lv_iconst (v := (nI 0)) hx hb dX9_isShoalLine_42 (by decide) ?_
        refine lv_iconst (v := (nI 2)) hx hb dX9_isShoalLine_43 (by decide) ?_
        refine go_i (run_V g C hP hS (c0 := 0) (As := [.int (a1 + (nI 4)), .int (nI 0), .int (nI 2)]) (rest := []) (c_X9_isNumber hi S_8 (a1 + (nI 4)) (nI 0) (nI 2) _ h) cal_X9_isNumber kML_X9_99 (by decide) rfl cfX9 ⟨rfl, rfl, Nat.le_of_ble_eq_true rfl, Nat.le_of_ble_eq_true rfl⟩ rfl rfl hl.1 (Nat.le_of_ble_eq_true rfl) dX9_isShoalLine_44) hS (fun r_10 S_11 H locs h hP hS => ?_)
        obtain ⟨hbr_10, h⟩ := h
        refine lv_if_eq (tgt := 80) hx hb dX9_isShoalLine_47 (by decide) (fun c_12 => ?_) (fun c_12 => ?_)
        · have h := h.1 c_12
          refine lv_iconst (v := (nI 0)) hx hb dX9_isShoalLine_80 (by decide) ?_
          exact s_rz C hP hS (nar_b (Or.inl rfl)) ⟨(Or.inl rfl), h⟩ dX9_isShoalLine_81
        · have h := h.2 c_12
          refine lv_aload_n hx hb dX9_isShoalLine_50 rfl (lv_at hl 0 rfl) ?_
          refine lv_iload_n hx hb dX9_isShoalLine_51 rfl (lv_at hl 1 rfl) ?_
          refine lv_iconst (v := (nI 5)) hx hb dX9_isShoalLine_52 (by decide) ?_
          refine lv_iadd hx hb dX9_isShoalLine_53 ?_
          refine lv_iconst (v := (nI 0)) hx hb dX9_isShoalLine_54 (by decide) ?_
          refine lv_iconst (v := (nI 2)) hx hb dX9_isShoalLine_55 (by decide) ?_
          refine go_i (run_V g C hP hS (c0 := 0) (As := [.int (a1 + (nI 5)), .int (nI 0), .int (nI 2)]) (rest := []) (c_X9_isNumber hi S_11 (a1 + (nI 5)) (nI 0) (nI 2) _ h) cal_X9_isNumber kML_X9_99 (by decide) rfl cfX9 ⟨rfl, rfl, Nat.le_of_ble_eq_true rfl, Nat.le_of_ble_eq_true rfl⟩ rfl rfl hl.1 (Nat.le_of_ble_eq_true rfl) dX9_isShoalLine_56) hS (fun r_13 S_14 H locs h hP hS => ?_)
          obtain ⟨hbr_13, h⟩ := h
          refine lv_if_eq (tgt := 80) hx hb dX9_isShoalLine_59 (by decide) (fun c_15 => ?_) (fun c_15 => ?_)
          · have h := h.1 c_15
            refine lv_iconst (v := (nI 0)) hx hb dX9_isShoalLine_80 (by decide) ?_
            exact s_rz C hP hS (nar_b (Or.inl rfl)) ⟨(Or.inl rfl), h⟩ dX9_isShoalLine_81
          · have h := h.2 c_15
            refine lv_aload_n hx hb dX9_isShoalLine_62 rfl (lv_at hl 0 rfl) ?_
            refine lv_iload_n hx hb dX9_isShoalLine_63 rfl (lv_at hl 1 rfl) ?_
            refine lv_bipush (v := (nI 6)) hx hb dX9_isShoalLine_64 (by decide) ?_
            refine lv_iadd hx hb dX9_isShoalLine_66 ?_
            refine lv_iconst (v := (nI 0)) hx hb dX9_isShoalLine_67 (by decide) ?_
            refine lv_bipush (v := (nI 99)) hx hb dX9_isShoalLine_68 (by decide) ?_
            refine go_i (run_V g C hP hS (c0 := 0) (As := [.int (a1 + (nI 6)), .int (nI 0), .int (nI 99)]) (rest := []) (c_X9_isNumber hi S_14 (a1 + (nI 6)) (nI 0) (nI 99) _ h) cal_X9_isNumber kML_X9_99 (by decide) rfl cfX9 ⟨rfl, rfl, Nat.le_of_ble_eq_true rfl, Nat.le_of_ble_eq_true rfl⟩ rfl rfl hl.1 (Nat.le_of_ble_eq_true rfl) dX9_isShoalLine_70) hS (fun r_16 S_17 H locs h hP hS => ?_)
            obtain ⟨hbr_16, h⟩ := h
            refine lv_if_eq (tgt := 80) hx hb dX9_isShoalLine_73 (by decide) (fun c_18 => ?_) (fun c_18 => ?_)
            · have h := h.1 c_18
              refine lv_iconst (v := (nI 0)) hx hb dX9_isShoalLine_80 (by decide) ?_
              exact s_rz C hP hS (nar_b (Or.inl rfl)) ⟨(Or.inl rfl), h⟩ dX9_isShoalLine_81
            · have h := h.2 c_18
              refine lv_iconst (v := (nI 1)) hx hb dX9_isShoalLine_76 (by decide) ?_
              refine lv_goto (tgt := 81) hx hb dX9_isShoalLine_77 (by decide) ?_
              exact s_rz C hP hS (nar_b (Or.inr rfl)) ⟨(Or.inr rfl), h⟩ dX9_isShoalLine_81
def q_X9_isLine_161 (a1 : Int32) (k : Int32 → St → Prop) (S : St) (t0 : Int32) (t1 : Int32) : Prop := vp_in t1 70 ∧ (∀ S_2 : St, S_2 = sI S 5 t1.toNatClampNeg t0 → (vp_in a1 70 ∧ (∀ sw_4 : Int32, sw_4 = (S_2.1 5 a1.toNatClampNeg) → ((sw_4 = (nI 0) → (q_X9_isNumber S_2 (a1 + (nI 1)) (nI 1) (nI 3) (fun r_6 S_7 => ((r_6 = (nI 0) → (k (nI 0) S_7)) ∧ (¬ r_6 = (nI 0) → (q_X9_areHours S_7 (a1 + (nI 2)) (fun r_9 S_10 => ((r_9 = (nI 0) → (k (nI 0) S_10)) ∧ (¬ r_9 = (nI 0) → (q_X9_isNumber S_10 (a1 + (nI 4)) (nI 0) (nI 9) (fun r_12 S_13 => ((r_12 = (nI 0) → (k (nI 0) S_13)) ∧ (¬ r_12 = (nI 0) → (q_X9_isNumber S_13 (a1 + (nI 5)) (nI 0) (nI 6) (fun r_15 S_16 => ((r_15 = (nI 0) → (k (nI 0) S_16)) ∧ (¬ r_15 = (nI 0) → (k (nI 1) S_16)))))))))))))))))) ∧ (¬ sw_4 = (nI 0) → ((sw_4 = (nI 1) → (q_X9_isKiteLine S_2 a1 (fun r_19 S_20 => (k r_19 S_20)))) ∧ (¬ sw_4 = (nI 1) → ((sw_4 = (nI 2) → (q_X9_isShoalLine S_2 a1 (fun r_22 S_23 => (k r_22 S_23)))) ∧ (¬ sw_4 = (nI 2) → ((sw_4 = (nI 3) → (q_X9_isNumber S_2 (a1 + (nI 1)) (nI 0) (nI 2) (fun r_25 S_26 => (k r_25 S_26)))) ∧ (¬ sw_4 = (nI 3) → ((sw_4 = (nI 4) → (q_X9_isNumber S_2 (a1 + (nI 1)) (nI 0) (nI 99) (fun r_28 S_29 => (k r_28 S_29)))) ∧ (¬ sw_4 = (nI 4) → ((sw_4 = (nI 5) → (q_X9_areHours S_2 (a1 + (nI 1)) (fun r_31 S_32 => (k r_31 S_32)))) ∧ (¬ sw_4 = (nI 5) → ((sw_4 = (nI 6) → (q_X9_isNumber S_2 (a1 + (nI 1)) (nI 0) (nI 9) (fun r_34 S_35 => (k r_34 S_35)))) ∧ (¬ sw_4 = (nI 6) → ((sw_4 = (nI 7) → (k (nI 1) S_2)) ∧ (¬ sw_4 = (nI 7) → ((sw_4 = (nI 8) → (q_X9_isNumber S_2 (a1 + (nI 1)) (nI 0) (nI 5) (fun r_38 S_39 => (k r_38 S_39)))) ∧ (¬ sw_4 = (nI 8) → (q_X9_fails S_2 (fun r_40 S_41 => (k r_40 S_41))))))))))))))))))))))))
set_option maxRecDepth 100000 in
set_option maxHeartbeats 4000000 in
theorem b_X9_isLine_161 {p : Program} {l : Launch} {e : Env} {s : State} {m : MethodId} {args : Array Value} {below : List Frame} {meth : Method} {c : Code} {Z : ZT} (hi : injZ 10 Z) (C : Cxt (gM Z) p s m meth c args yX9_isLine cX9_isLine 4 (Option.some .boolean)) {a1 : Int32} {k : Int32 → St → Prop}   (S : St) (t0 : Int32) (t1 : Int32) (H : Heap) (locs : List Loc) (ls : Array Slot) (hP : va_P Z.1 vwCl (wl shM 10 Z S) H) (hS : va_S (aa 10 Z) s.heap H locs) (hl : lv_has ls 4 [(0, .ref (Z.2.2.1 0)), (1, .int a1)]) (h : q_X9_isLine_161 a1 k S t0 t1) : W p l e (rmk 4 86) s m args below meth c H locs 0 0 (Qi below shM 10 Z args s (fun r S' => (r = 0 ∨ r = 1) ∧ k r S')) (F0 m 161 ls [.int t0, .int t1, .ref (Z.2.2.1 5)]) := by
  have g := gokM hi
  have hx := C.1.1
  have hb := C.1.2.1
  unfold q_X9_isLine_161 at h
  have hv_1 := h.1
  have h := h.2
  refine s_stI g C hP hS 5 (by decide) rfl hv_1 dX9_isLine_161 (fun H locs hP hS => ?_)
  obtain ⟨S_2, eS_2⟩ : ∃ z_ : St, z_ = sI S 5 t1.toNatClampNeg t0 := ⟨_, rfl⟩
  rw [← eS_2] at hP
  have h := h S_2 eS_2
  refine lv_aload_n hx hb dX9_isLine_162 rfl (lv_at hl 0 rfl) ?_
  refine s_gR g C hP 0 18 5 (by decide) rfl rfl cfX9 (by decide) kFL_X9_26 dX9_isLine_163 ?_
  refine lv_iload_n hx hb dX9_isLine_166 rfl (lv_at hl 1 rfl) ?_
  have hv_3 := h.1
  have h := h.2
  refine s_aI g C hP 5 (by decide) rfl hv_3 dX9_isLine_167 ?_
  refine lv_topi (fun sw_4 esw_4 => ?_)
  have h := h sw_4 esw_4
  by_cases c_5 : sw_4 = (nI 0)
  · have h := h.1 c_5
    rw [c_5]
    refine lv_tableIn (tgt := 220) hx hb dX9_isLine_168 (by decide) (by decide) rfl (by decide) ?_
    refine lv_aload_n hx hb dX9_isLine_220 rfl (lv_at hl 0 rfl) ?_
    refine lv_iload_n hx hb dX9_isLine_221 rfl (lv_at hl 1 rfl) ?_
    refine lv_iconst (v := (nI 1)) hx hb dX9_isLine_222 (by decide) ?_
    refine lv_iadd hx hb dX9_isLine_223 ?_
    refine lv_iconst (v := (nI 1)) hx hb dX9_isLine_224 (by decide) ?_
    refine lv_iconst (v := (nI 3)) hx hb dX9_isLine_225 (by decide) ?_
    refine go_i (run_V g C hP hS (c0 := 0) (As := [.int (a1 + (nI 1)), .int (nI 1), .int (nI 3)]) (rest := []) (c_X9_isNumber hi S_2 (a1 + (nI 1)) (nI 1) (nI 3) _ h) cal_X9_isNumber kML_X9_99 (by decide) rfl cfX9 ⟨rfl, rfl, Nat.le_of_ble_eq_true rfl, Nat.le_of_ble_eq_true rfl⟩ rfl rfl hl.1 (Nat.le_of_ble_eq_true rfl) dX9_isLine_226) hS (fun r_6 S_7 H locs h hP hS => ?_)
    obtain ⟨hbr_6, h⟩ := h
    refine lv_if_eq (tgt := 272) hx hb dX9_isLine_229 (by decide) (fun c_8 => ?_) (fun c_8 => ?_)
    · have h := h.1 c_8
      refine lv_iconst (v := (nI 0)) hx hb dX9_isLine_272 (by decide) ?_
      exact s_rz C hP hS (nar_b (Or.inl rfl)) ⟨(Or.inl rfl), h⟩ dX9_isLine_273
    · have h := h.2 c_8
      refine lv_aload_n hx hb dX9_isLine_232 rfl (lv_at hl 0 rfl) ?_
      refine lv_iload_n hx hb dX9_isLine_233 rfl (lv_at hl 1 rfl) ?_
      refine lv_iconst (v := (nI 2)) hx hb dX9_isLine_234 (by decide) ?_
      refine lv_iadd hx hb dX9_isLine_235 ?_
      refine go_i (run_V g C hP hS (c0 := 0) (As := [.int (a1 + (nI 2))]) (rest := []) (c_X9_areHours hi S_7 (a1 + (nI 2)) _ h) cal_X9_areHours kML_X9_120 (by decide) rfl cfX9 ⟨rfl, rfl, Nat.le_of_ble_eq_true rfl, Nat.le_of_ble_eq_true rfl⟩ rfl rfl hl.1 (Nat.le_of_ble_eq_true rfl) dX9_isLine_236) hS (fun r_9 S_10 H locs h hP hS => ?_)
      obtain ⟨hbr_9, h⟩ := h
      refine lv_if_eq (tgt := 272) hx hb dX9_isLine_239 (by decide) (fun c_11 => ?_) (fun c_11 => ?_)
      · have h := h.1 c_11
        refine lv_iconst (v := (nI 0)) hx hb dX9_isLine_272 (by decide) ?_
        exact s_rz C hP hS (nar_b (Or.inl rfl)) ⟨(Or.inl rfl), h⟩ dX9_isLine_273
      · have h := h.2 c_11
        refine lv_aload_n hx hb dX9_isLine_242 rfl (lv_at hl 0 rfl) ?_
        refine lv_iload_n hx hb dX9_isLine_243 rfl (lv_at hl 1 rfl) ?_
        refine lv_iconst (v := (nI 4)) hx hb dX9_isLine_244 (by decide) ?_
        refine lv_iadd hx hb dX9_isLine_245 ?_
        refine lv_iconst (v := (nI 0)) hx hb dX9_isLine_246 (by decide) ?_
        refine lv_bipush (v := (nI 9)) hx hb dX9_isLine_247 (by decide) ?_
        refine go_i (run_V g C hP hS (c0 := 0) (As := [.int (a1 + (nI 4)), .int (nI 0), .int (nI 9)]) (rest := []) (c_X9_isNumber hi S_10 (a1 + (nI 4)) (nI 0) (nI 9) _ h) cal_X9_isNumber kML_X9_99 (by decide) rfl cfX9 ⟨rfl, rfl, Nat.le_of_ble_eq_true rfl, Nat.le_of_ble_eq_true rfl⟩ rfl rfl hl.1 (Nat.le_of_ble_eq_true rfl) dX9_isLine_249) hS (fun r_12 S_13 H locs h hP hS => ?_)
        obtain ⟨hbr_12, h⟩ := h
        refine lv_if_eq (tgt := 272) hx hb dX9_isLine_252 (by decide) (fun c_14 => ?_) (fun c_14 => ?_)
        · have h := h.1 c_14
          refine lv_iconst (v := (nI 0)) hx hb dX9_isLine_272 (by decide) ?_
          exact s_rz C hP hS (nar_b (Or.inl rfl)) ⟨(Or.inl rfl), h⟩ dX9_isLine_273
        · have h := h.2 c_14
          refine lv_aload_n hx hb dX9_isLine_255 rfl (lv_at hl 0 rfl) ?_
          refine lv_iload_n hx hb dX9_isLine_256 rfl (lv_at hl 1 rfl) ?_
          refine lv_iconst (v := (nI 5)) hx hb dX9_isLine_257 (by decide) ?_
          refine lv_iadd hx hb dX9_isLine_258 ?_
          refine lv_iconst (v := (nI 0)) hx hb dX9_isLine_259 (by decide) ?_
          refine lv_bipush (v := (nI 6)) hx hb dX9_isLine_260 (by decide) ?_
          refine go_i (run_V g C hP hS (c0 := 0) (As := [.int (a1 + (nI 5)), .int (nI 0), .int (nI 6)]) (rest := []) (c_X9_isNumber hi S_13 (a1 + (nI 5)) (nI 0) (nI 6) _ h) cal_X9_isNumber kML_X9_99 (by decide) rfl cfX9 ⟨rfl, rfl, Nat.le_of_ble_eq_true rfl, Nat.le_of_ble_eq_true rfl⟩ rfl rfl hl.1 (Nat.le_of_ble_eq_true rfl) dX9_isLine_262) hS (fun r_15 S_16 H locs h hP hS => ?_)
          obtain ⟨hbr_15, h⟩ := h
          refine lv_if_eq (tgt := 272) hx hb dX9_isLine_265 (by decide) (fun c_17 => ?_) (fun c_17 => ?_)
          · have h := h.1 c_17
            refine lv_iconst (v := (nI 0)) hx hb dX9_isLine_272 (by decide) ?_
            exact s_rz C hP hS (nar_b (Or.inl rfl)) ⟨(Or.inl rfl), h⟩ dX9_isLine_273
          · have h := h.2 c_17
            refine lv_iconst (v := (nI 1)) hx hb dX9_isLine_268 (by decide) ?_
            refine lv_goto (tgt := 273) hx hb dX9_isLine_269 (by decide) ?_
            exact s_rz C hP hS (nar_b (Or.inr rfl)) ⟨(Or.inr rfl), h⟩ dX9_isLine_273
  · have h := h.2 c_5
    by_cases c_18 : sw_4 = (nI 1)
    · have h := h.1 c_18
      rw [c_18]
      refine lv_tableIn (tgt := 274) hx hb dX9_isLine_168 (by decide) (by decide) rfl (by decide) ?_
      refine lv_aload_n hx hb dX9_isLine_274 rfl (lv_at hl 0 rfl) ?_
      refine lv_iload_n hx hb dX9_isLine_275 rfl (lv_at hl 1 rfl) ?_
      refine go_i (run_V g C hP hS (c0 := 0) (As := [.int a1]) (rest := []) (c_X9_isKiteLine hi S_2 a1 _ h) cal_X9_isKiteLine kML_X9_124 (by decide) rfl cfX9 ⟨rfl, rfl, Nat.le_of_ble_eq_true rfl, Nat.le_of_ble_eq_true rfl⟩ rfl rfl hl.1 (Nat.le_of_ble_eq_true rfl) dX9_isLine_276) hS (fun r_19 S_20 H locs h hP hS => ?_)
      obtain ⟨hbr_19, h⟩ := h
      exact s_rz C hP hS (nar_b hbr_19) ⟨hbr_19, h⟩ dX9_isLine_279
    · have h := h.2 c_18
      by_cases c_21 : sw_4 = (nI 2)
      · have h := h.1 c_21
        rw [c_21]
        refine lv_tableIn (tgt := 280) hx hb dX9_isLine_168 (by decide) (by decide) rfl (by decide) ?_
        refine lv_aload_n hx hb dX9_isLine_280 rfl (lv_at hl 0 rfl) ?_
        refine lv_iload_n hx hb dX9_isLine_281 rfl (lv_at hl 1 rfl) ?_
        refine go_i (run_V g C hP hS (c0 := 0) (As := [.int a1]) (rest := []) (c_X9_isShoalLine hi S_2 a1 _ h) cal_X9_isShoalLine kML_X9_127 (by decide) rfl cfX9 ⟨rfl, rfl, Nat.le_of_ble_eq_true rfl, Nat.le_of_ble_eq_true rfl⟩ rfl rfl hl.1 (Nat.le_of_ble_eq_true rfl) dX9_isLine_282) hS (fun r_22 S_23 H locs h hP hS => ?_)
        obtain ⟨hbr_22, h⟩ := h
        exact s_rz C hP hS (nar_b hbr_22) ⟨hbr_22, h⟩ dX9_isLine_285
      · have h := h.2 c_21
        by_cases c_24 : sw_4 = (nI 3)
        · have h := h.1 c_24
          rw [c_24]
          refine lv_tableIn (tgt := 286) hx hb dX9_isLine_168 (by decide) (by decide) rfl (by decide) ?_
          refine lv_aload_n hx hb dX9_isLine_286 rfl (lv_at hl 0 rfl) ?_
          refine lv_iload_n hx hb dX9_isLine_287 rfl (lv_at hl 1 rfl) ?_
          refine lv_iconst (v := (nI 1)) hx hb dX9_isLine_288 (by decide) ?_
          refine lv_iadd hx hb dX9_isLine_289 ?_
          refine lv_iconst (v := (nI 0)) hx hb dX9_isLine_290 (by decide) ?_
          refine lv_iconst (v := (nI 2)) hx hb dX9_isLine_291 (by decide) ?_
          refine go_i (run_V g C hP hS (c0 := 0) (As := [.int (a1 + (nI 1)), .int (nI 0), .int (nI 2)]) (rest := []) (c_X9_isNumber hi S_2 (a1 + (nI 1)) (nI 0) (nI 2) _ h) cal_X9_isNumber kML_X9_99 (by decide) rfl cfX9 ⟨rfl, rfl, Nat.le_of_ble_eq_true rfl, Nat.le_of_ble_eq_true rfl⟩ rfl rfl hl.1 (Nat.le_of_ble_eq_true rfl) dX9_isLine_292) hS (fun r_25 S_26 H locs h hP hS => ?_)
          obtain ⟨hbr_25, h⟩ := h
          exact s_rz C hP hS (nar_b hbr_25) ⟨hbr_25, h⟩ dX9_isLine_295
        · have h := h.2 c_24
          by_cases c_27 : sw_4 = (nI 4)
          · have h := h.1 c_27
            rw [c_27]
            refine lv_tableIn (tgt := 296) hx hb dX9_isLine_168 (by decide) (by decide) rfl (by decide) ?_
            refine lv_aload_n hx hb dX9_isLine_296 rfl (lv_at hl 0 rfl) ?_
            refine lv_iload_n hx hb dX9_isLine_297 rfl (lv_at hl 1 rfl) ?_
            refine lv_iconst (v := (nI 1)) hx hb dX9_isLine_298 (by decide) ?_
            refine lv_iadd hx hb dX9_isLine_299 ?_
            refine lv_iconst (v := (nI 0)) hx hb dX9_isLine_300 (by decide) ?_
            refine lv_bipush (v := (nI 99)) hx hb dX9_isLine_301 (by decide) ?_
            refine go_i (run_V g C hP hS (c0 := 0) (As := [.int (a1 + (nI 1)), .int (nI 0), .int (nI 99)]) (rest := []) (c_X9_isNumber hi S_2 (a1 + (nI 1)) (nI 0) (nI 99) _ h) cal_X9_isNumber kML_X9_99 (by decide) rfl cfX9 ⟨rfl, rfl, Nat.le_of_ble_eq_true rfl, Nat.le_of_ble_eq_true rfl⟩ rfl rfl hl.1 (Nat.le_of_ble_eq_true rfl) dX9_isLine_303) hS (fun r_28 S_29 H locs h hP hS => ?_)
            obtain ⟨hbr_28, h⟩ := h
            exact s_rz C hP hS (nar_b hbr_28) ⟨hbr_28, h⟩ dX9_isLine_306
          · have h := h.2 c_27
            by_cases c_30 : sw_4 = (nI 5)
            · have h := h.1 c_30
              rw [c_30]
              refine lv_tableIn (tgt := 307) hx hb dX9_isLine_168 (by decide) (by decide) rfl (by decide) ?_
              refine lv_aload_n hx hb dX9_isLine_307 rfl (lv_at hl 0 rfl) ?_
              refine lv_iload_n hx hb dX9_isLine_308 rfl (lv_at hl 1 rfl) ?_
              refine lv_iconst (v := (nI 1)) hx hb dX9_isLine_309 (by decide) ?_
              refine lv_iadd hx hb dX9_isLine_310 ?_
              refine go_i (run_V g C hP hS (c0 := 0) (As := [.int (a1 + (nI 1))]) (rest := []) (c_X9_areHours hi S_2 (a1 + (nI 1)) _ h) cal_X9_areHours kML_X9_120 (by decide) rfl cfX9 ⟨rfl, rfl, Nat.le_of_ble_eq_true rfl, Nat.le_of_ble_eq_true rfl⟩ rfl rfl hl.1 (Nat.le_of_ble_eq_true rfl) dX9_isLine_311) hS (fun r_31 S_32 H locs h hP hS => ?_)
              obtain ⟨hbr_31, h⟩ := h
              exact s_rz C hP hS (nar_b hbr_31) ⟨hbr_31, h⟩ dX9_isLine_314
            · have h := h.2 c_30
              by_cases c_33 : sw_4 = (nI 6)
              · have h := h.1 c_33
                rw [c_33]
                refine lv_tableIn (tgt := 315) hx hb dX9_isLine_168 (by decide) (by decide) rfl (by decide) ?_
                refine lv_aload_n hx hb dX9_isLine_315 rfl (lv_at hl 0 rfl) ?_
                refine lv_iload_n hx hb dX9_isLine_316 rfl (lv_at hl 1 rfl) ?_
                refine lv_iconst (v := (nI 1)) hx hb dX9_isLine_317 (by decide) ?_
                refine lv_iadd hx hb dX9_isLine_318 ?_
                refine lv_iconst (v := (nI 0)) hx hb dX9_isLine_319 (by decide) ?_
                refine lv_bipush (v := (nI 9)) hx hb dX9_isLine_320 (by decide) ?_
                refine go_i (run_V g C hP hS (c0 := 0) (As := [.int (a1 + (nI 1)), .int (nI 0), .int (nI 9)]) (rest := []) (c_X9_isNumber hi S_2 (a1 + (nI 1)) (nI 0) (nI 9) _ h) cal_X9_isNumber kML_X9_99 (by decide) rfl cfX9 ⟨rfl, rfl, Nat.le_of_ble_eq_true rfl, Nat.le_of_ble_eq_true rfl⟩ rfl rfl hl.1 (Nat.le_of_ble_eq_true rfl) dX9_isLine_322) hS (fun r_34 S_35 H locs h hP hS => ?_)
                obtain ⟨hbr_34, h⟩ := h
                exact s_rz C hP hS (nar_b hbr_34) ⟨hbr_34, h⟩ dX9_isLine_325
              · have h := h.2 c_33
                by_cases c_36 : sw_4 = (nI 7)
                · have h := h.1 c_36
                  rw [c_36]
                  refine lv_tableIn (tgt := 326) hx hb dX9_isLine_168 (by decide) (by decide) rfl (by decide) ?_
                  refine lv_iconst (v := (nI 1)) hx hb dX9_isLine_326 (by decide) ?_
                  exact s_rz C hP hS (nar_b (Or.inr rfl)) ⟨(Or.inr rfl), h⟩ dX9_isLine_327
                · have h := h.2 c_36
                  by_cases c_37 : sw_4 = (nI 8)
                  · have h := h.1 c_37
                    rw [c_37]
                    refine lv_tableIn (tgt := 328) hx hb dX9_isLine_168 (by decide) (by decide) rfl (by decide) ?_
                    refine lv_aload_n hx hb dX9_isLine_328 rfl (lv_at hl 0 rfl) ?_
                    refine lv_iload_n hx hb dX9_isLine_329 rfl (lv_at hl 1 rfl) ?_
                    refine lv_iconst (v := (nI 1)) hx hb dX9_isLine_330 (by decide) ?_
                    refine lv_iadd hx hb dX9_isLine_331 ?_
                    refine lv_iconst (v := (nI 0)) hx hb dX9_isLine_332 (by decide) ?_
                    refine lv_iconst (v := (nI 5)) hx hb dX9_isLine_333 (by decide) ?_
                    refine go_i (run_V g C hP hS (c0 := 0) (As := [.int (a1 + (nI 1)), .int (nI 0), .int (nI 5)]) (rest := []) (c_X9_isNumber hi S_2 (a1 + (nI 1)) (nI 0) (nI 5) _ h) cal_X9_isNumber kML_X9_99 (by decide) rfl cfX9 ⟨rfl, rfl, Nat.le_of_ble_eq_true rfl, Nat.le_of_ble_eq_true rfl⟩ rfl rfl hl.1 (Nat.le_of_ble_eq_true rfl) dX9_isLine_334) hS (fun r_38 S_39 H locs h hP hS => ?_)
                    obtain ⟨hbr_38, h⟩ := h
                    exact s_rz C hP hS (nar_b hbr_38) ⟨hbr_38, h⟩ dX9_isLine_337
                  · have h := h.2 c_37
                    have c_5_ := tIne c_5 (z := 0) (by decide)
                    have c_18_ := tIne c_18 (z := 1) (by decide)
                    have c_21_ := tIne c_21 (z := 2) (by decide)
                    have c_24_ := tIne c_24 (z := 3) (by decide)
                    have c_27_ := tIne c_27 (z := 4) (by decide)
                    have c_30_ := tIne c_30 (z := 5) (by decide)
                    have c_33_ := tIne c_33 (z := 6) (by decide)
                    have c_36_ := tIne c_36 (z := 7) (by decide)
                    have c_37_ := tIne c_37 (z := 8) (by decide)
                    refine lv_tableOut (tgt := 338) hx hb dX9_isLine_168 (by omega) (by decide) ?_
                    refine lv_aload_n hx hb dX9_isLine_338 rfl (lv_at hl 0 rfl) ?_
                    refine go_i (run_V g C hP hS (c0 := 0) (As := []) (rest := []) (c_X9_fails hi S_2 _ h) cal_X9_fails kML_X9_95 (by decide) rfl cfX9 ⟨rfl, rfl, Nat.le_of_ble_eq_true rfl, Nat.le_of_ble_eq_true rfl⟩ rfl rfl hl.1 (Nat.le_of_ble_eq_true rfl) dX9_isLine_339) hS (fun r_40 S_41 H locs h hP hS => ?_)
                    obtain ⟨hbr_40, h⟩ := h
                    exact s_rz C hP hS (nar_b hbr_40) ⟨hbr_40, h⟩ dX9_isLine_342
def q_X9_isLine_145 (a1 : Int32) (k : Int32 → St → Prop) (S : St) (x2 : Int32) (t0 : Int32) : Prop := (x2 = (-1 : Int32) → (q_X9_isLine_161 a1 k S t0 a1)) ∧ (¬ x2 = (-1 : Int32) → (q_X9_isLine_161 a1 k S x2 a1))
set_option maxRecDepth 100000 in
set_option maxHeartbeats 4000000 in
theorem b_X9_isLine_145 {p : Program} {l : Launch} {e : Env} {s : State} {m : MethodId} {args : Array Value} {below : List Frame} {meth : Method} {c : Code} {Z : ZT} (hi : injZ 10 Z) (C : Cxt (gM Z) p s m meth c args yX9_isLine cX9_isLine 4 (Option.some .boolean)) {a1 : Int32} {k : Int32 → St → Prop}   (S : St) (x2 : Int32) (t0 : Int32) (H : Heap) (locs : List Loc) (ls : Array Slot) (hP : va_P Z.1 vwCl (wl shM 10 Z S) H) (hS : va_S (aa 10 Z) s.heap H locs) (hl : lv_has ls 4 [(0, .ref (Z.2.2.1 0)), (1, .int a1), (2, .int x2)]) (h : q_X9_isLine_145 a1 k S x2 t0) : W p l e (rmk 4 86) s m args below meth c H locs 0 0 (Qi below shM 10 Z args s (fun r S' => (r = 0 ∨ r = 1) ∧ k r S')) (F0 m 145 ls [.int t0]) := by
  have g := gokM hi
  have hx := C.1.1
  have hb := C.1.2.1
  unfold q_X9_isLine_145 at h
  refine lv_istore_n (lv' := [(3, .int t0), (0, .ref (Z.2.2.1 0)), (1, .int a1), (2, .int x2)]) hx hb dX9_isLine_145 rfl hl (by decide) rfl (fun ls hl => ?_)
  refine lv_aload_n hx hb dX9_isLine_146 rfl (lv_at hl 1 rfl) ?_
  refine s_gR g C hP 0 18 5 (by decide) rfl rfl cfX9 (by decide) kFL_X9_26 dX9_isLine_147 ?_
  refine lv_iload_n hx hb dX9_isLine_150 rfl (lv_at hl 2 rfl) ?_
  refine lv_iload_n hx hb dX9_isLine_151 rfl (lv_at hl 3 rfl) ?_
  refine lv_iconst (v := (-1 : Int32)) hx hb dX9_isLine_152 (by decide) ?_
  refine lv_icmp_ne (tgt := 160) hx hb dX9_isLine_153 (by decide) (fun c_1 => ?_) (fun c_1 => ?_)
  · have h := h.2 c_1
    refine lv_iload_n hx hb dX9_isLine_160 rfl (lv_at hl 3 rfl) ?_
    exact b_X9_isLine_161 hi C  _ _ _ _ _ _ hP hS (lv_sub hl [1, 2] rfl) h
  · have h := h.1 c_1
    refine lv_iload_n hx hb dX9_isLine_156 rfl (lv_at hl 0 rfl) ?_
    refine lv_goto (tgt := 161) hx hb dX9_isLine_157 (by decide) ?_
    exact b_X9_isLine_161 hi C  _ _ _ _ _ _ hP hS (lv_sub hl [1, 2] rfl) h
def q_X9_isLine_80 (a1 : Int32) (k : Int32 → St → Prop) (S : St) (t0 : Int32) : Prop := ((lg_cmp (S.2 0 13) (lN 4786)) = (nI 0) → (q_X9_isLine_145 a1 k S t0 (nI 5))) ∧ (¬ (lg_cmp (S.2 0 13) (lN 4786)) = (nI 0) → (((lg_cmp (S.2 0 13) (lN 4142521)) = (nI 0) → (q_X9_isLine_145 a1 k S t0 (nI 6))) ∧ (¬ (lg_cmp (S.2 0 13) (lN 4142521)) = (nI 0) → (((lg_cmp (S.2 0 13) (lN 60115)) = (nI 0) → (q_X9_isLine_145 a1 k S t0 (nI 7))) ∧ (¬ (lg_cmp (S.2 0 13) (lN 60115)) = (nI 0) → (((lg_cmp (S.2 0 13) (lN 247664)) = (nI 0) → (q_X9_isLine_145 a1 k S t0 (nI 8))) ∧ (¬ (lg_cmp (S.2 0 13) (lN 247664)) = (nI 0) → (q_X9_isLine_145 a1 k S t0 (-1 : Int32)))))))))
set_option maxRecDepth 100000 in
set_option maxHeartbeats 4000000 in
theorem b_X9_isLine_80 {p : Program} {l : Launch} {e : Env} {s : State} {m : MethodId} {args : Array Value} {below : List Frame} {meth : Method} {c : Code} {Z : ZT} (hi : injZ 10 Z) (C : Cxt (gM Z) p s m meth c args yX9_isLine cX9_isLine 4 (Option.some .boolean)) {a1 : Int32} {k : Int32 → St → Prop}   (S : St) (t0 : Int32) (H : Heap) (locs : List Loc) (ls : Array Slot) (hP : va_P Z.1 vwCl (wl shM 10 Z S) H) (hS : va_S (aa 10 Z) s.heap H locs) (hl : lv_has ls 4 [(0, .ref (Z.2.2.1 0)), (1, .int a1)]) (h : q_X9_isLine_80 a1 k S t0) : W p l e (rmk 4 86) s m args below meth c H locs 0 0 (Qi below shM 10 Z args s (fun r S' => (r = 0 ∨ r = 1) ∧ k r S')) (F0 m 80 ls [.int t0]) := by
  have g := gokM hi
  have hx := C.1.1
  have hb := C.1.2.1
  unfold q_X9_isLine_80 at h
  refine lv_istore_n (lv' := [(2, .int t0), (0, .ref (Z.2.2.1 0)), (1, .int a1)]) hx hb dX9_isLine_80 rfl hl (by decide) rfl (fun ls hl => ?_)
  refine lv_aload_n hx hb dX9_isLine_81 rfl (lv_at hl 1 rfl) ?_
  refine s_gJ g C hP 0 13 (by decide) rfl rfl cfX9 (by decide) kFL_X9_75 dX9_isLine_82 ?_
  refine lv_ldc2 (v := (lN 4786)) hx hb C.1.2.2.2.1 (C.1.2.2.2.2 _ (List.mem_cons_of_mem _ kCO_X9_112)) dX9_isLine_85 ?_
  refine W.lcmp hx hb dX9_isLine_88 ?_
  refine lv_if_ne (tgt := 96) hx hb dX9_isLine_89 (by decide) (fun c_1 => ?_) (fun c_1 => ?_)
  · have h := h.2 c_1
    refine lv_aload_n hx hb dX9_isLine_96 rfl (lv_at hl 1 rfl) ?_
    refine s_gJ g C hP 0 13 (by decide) rfl rfl cfX9 (by decide) kFL_X9_75 dX9_isLine_97 ?_
    refine lv_ldc2 (v := (lN 4142521)) hx hb C.1.2.2.2.1 (C.1.2.2.2.2 _ (List.mem_cons_of_mem _ kCO_X9_114)) dX9_isLine_100 ?_
    refine W.lcmp hx hb dX9_isLine_103 ?_
    refine lv_if_ne (tgt := 112) hx hb dX9_isLine_104 (by decide) (fun c_2 => ?_) (fun c_2 => ?_)
    · have h := h.2 c_2
      refine lv_aload_n hx hb dX9_isLine_112 rfl (lv_at hl 1 rfl) ?_
      refine s_gJ g C hP 0 13 (by decide) rfl rfl cfX9 (by decide) kFL_X9_75 dX9_isLine_113 ?_
      refine lv_ldc2 (v := (lN 60115)) hx hb C.1.2.2.2.1 (C.1.2.2.2.2 _ (List.mem_cons_of_mem _ kCO_X9_116)) dX9_isLine_116 ?_
      refine W.lcmp hx hb dX9_isLine_119 ?_
      refine lv_if_ne (tgt := 128) hx hb dX9_isLine_120 (by decide) (fun c_3 => ?_) (fun c_3 => ?_)
      · have h := h.2 c_3
        refine lv_aload_n hx hb dX9_isLine_128 rfl (lv_at hl 1 rfl) ?_
        refine s_gJ g C hP 0 13 (by decide) rfl rfl cfX9 (by decide) kFL_X9_75 dX9_isLine_129 ?_
        refine lv_ldc2 (v := (lN 247664)) hx hb C.1.2.2.2.1 (C.1.2.2.2.2 _ (List.mem_cons_of_mem _ kCO_X9_118)) dX9_isLine_132 ?_
        refine W.lcmp hx hb dX9_isLine_135 ?_
        refine lv_if_ne (tgt := 144) hx hb dX9_isLine_136 (by decide) (fun c_4 => ?_) (fun c_4 => ?_)
        · have h := h.2 c_4
          refine lv_iconst (v := (-1 : Int32)) hx hb dX9_isLine_144 (by decide) ?_
          exact b_X9_isLine_145 hi C  _ _ _ _ _ _ hP hS (lv_sub hl [1, 2, 0] rfl) h
        · have h := h.1 c_4
          refine lv_bipush (v := (nI 8)) hx hb dX9_isLine_139 (by decide) ?_
          refine lv_goto (tgt := 145) hx hb dX9_isLine_141 (by decide) ?_
          exact b_X9_isLine_145 hi C  _ _ _ _ _ _ hP hS (lv_sub hl [1, 2, 0] rfl) h
      · have h := h.1 c_3
        refine lv_bipush (v := (nI 7)) hx hb dX9_isLine_123 (by decide) ?_
        refine lv_goto (tgt := 145) hx hb dX9_isLine_125 (by decide) ?_
        exact b_X9_isLine_145 hi C  _ _ _ _ _ _ hP hS (lv_sub hl [1, 2, 0] rfl) h
    · have h := h.1 c_2
      refine lv_bipush (v := (nI 6)) hx hb dX9_isLine_107 (by decide) ?_
      refine lv_goto (tgt := 145) hx hb dX9_isLine_109 (by decide) ?_
      exact b_X9_isLine_145 hi C  _ _ _ _ _ _ hP hS (lv_sub hl [1, 2, 0] rfl) h
  · have h := h.1 c_1
    refine lv_iconst (v := (nI 5)) hx hb dX9_isLine_92 (by decide) ?_
    refine lv_goto (tgt := 145) hx hb dX9_isLine_93 (by decide) ?_
    exact b_X9_isLine_145 hi C  _ _ _ _ _ _ hP hS (lv_sub hl [1, 2, 0] rfl) h
def q_X9_isLine (S : St) (a1 : Int32) (k : Int32 → St → Prop) : Prop := q_X9_nextToken S (fun S_1 => (((lg_cmp (S_1.2 0 13) (lN 459652)) = (nI 0) → (q_X9_isLine_80 a1 k S_1 (nI 0))) ∧ (¬ (lg_cmp (S_1.2 0 13) (lN 459652)) = (nI 0) → (((lg_cmp (S_1.2 0 13) (lN 223619)) = (nI 0) → (q_X9_isLine_80 a1 k S_1 (nI 1))) ∧ (¬ (lg_cmp (S_1.2 0 13) (lN 223619)) = (nI 0) → (((lg_cmp (S_1.2 0 13) (lN 10265817)) = (nI 0) → (q_X9_isLine_80 a1 k S_1 (nI 2))) ∧ (¬ (lg_cmp (S_1.2 0 13) (lN 10265817)) = (nI 0) → (((lg_cmp (S_1.2 0 13) (lN 8798)) = (nI 0) → (q_X9_isLine_80 a1 k S_1 (nI 3))) ∧ (¬ (lg_cmp (S_1.2 0 13) (lN 8798)) = (nI 0) → (((lg_cmp (S_1.2 0 13) (lN 10502066)) = (nI 0) → (q_X9_isLine_80 a1 k S_1 (nI 4))) ∧ (¬ (lg_cmp (S_1.2 0 13) (lN 10502066)) = (nI 0) → (q_X9_isLine_80 a1 k S_1 (-1 : Int32)))))))))))))
set_option maxRecDepth 100000 in
set_option maxHeartbeats 4000000 in
theorem c_X9_isLine {l : Launch} {Z : ZT} (hi : injZ 10 Z) (S : St) (a1 : Int32) (k : Int32 → St → Prop) (h : q_X9_isLine S a1 k) : Mi l shM 10 Z (gM Z) yX9_isLine cX9_isLine 4 (Option.some .boolean) (rmk 4 86) [.ref (Z.2.2.1 0), .int a1] S (fun r S' => (r = 0 ∨ r = 1) ∧ k r S') := by
  have g := gokM hi
  refine e_i (by decide) (Nat.le_of_ble_eq_true rfl) (lv := [(0, .ref (Z.2.2.1 0)), (1, .int a1)]) rfl (fun p e s m args below meth c C hP hS ls hl => ?_)
  have hx := C.1.1
  have hb := C.1.2.1
  unfold q_X9_isLine at h
  refine lv_aload_n hx hb dX9_isLine_0 rfl (lv_at hl 0 rfl) ?_
  refine go_v (run_V g C hP hS (c0 := 0) (As := []) (rest := []) (c_X9_nextToken hi S _ h) cal_X9_nextToken kML_X9_92 (by decide) rfl cfX9 ⟨rfl, rfl, Nat.le_of_ble_eq_true rfl, Nat.le_of_ble_eq_true rfl⟩ rfl rfl hl.1 (Nat.le_of_ble_eq_true rfl) dX9_isLine_1) hS (fun S_1 H locs h hP hS => ?_)
  refine lv_aload_n hx hb dX9_isLine_4 rfl (lv_at hl 0 rfl) ?_
  refine s_gJ g C hP 0 13 (by decide) rfl rfl cfX9 (by decide) kFL_X9_75 dX9_isLine_5 ?_
  refine lv_ldc2 (v := (lN 459652)) hx hb C.1.2.2.2.1 (C.1.2.2.2.2 _ (List.mem_cons_of_mem _ kCO_X9_102)) dX9_isLine_8 ?_
  refine W.lcmp hx hb dX9_isLine_11 ?_
  refine lv_if_ne (tgt := 19) hx hb dX9_isLine_12 (by decide) (fun c_2 => ?_) (fun c_2 => ?_)
  · have h := h.2 c_2
    refine lv_aload_n hx hb dX9_isLine_19 rfl (lv_at hl 0 rfl) ?_
    refine s_gJ g C hP 0 13 (by decide) rfl rfl cfX9 (by decide) kFL_X9_75 dX9_isLine_20 ?_
    refine lv_ldc2 (v := (lN 223619)) hx hb C.1.2.2.2.1 (C.1.2.2.2.2 _ (List.mem_cons_of_mem _ kCO_X9_104)) dX9_isLine_23 ?_
    refine W.lcmp hx hb dX9_isLine_26 ?_
    refine lv_if_ne (tgt := 34) hx hb dX9_isLine_27 (by decide) (fun c_3 => ?_) (fun c_3 => ?_)
    · have h := h.2 c_3
      refine lv_aload_n hx hb dX9_isLine_34 rfl (lv_at hl 0 rfl) ?_
      refine s_gJ g C hP 0 13 (by decide) rfl rfl cfX9 (by decide) kFL_X9_75 dX9_isLine_35 ?_
      refine lv_ldc2 (v := (lN 10265817)) hx hb C.1.2.2.2.1 (C.1.2.2.2.2 _ (List.mem_cons_of_mem _ kCO_X9_106)) dX9_isLine_38 ?_
      refine W.lcmp hx hb dX9_isLine_41 ?_
      refine lv_if_ne (tgt := 49) hx hb dX9_isLine_42 (by decide) (fun c_4 => ?_) (fun c_4 => ?_)
      · have h := h.2 c_4
        refine lv_aload_n hx hb dX9_isLine_49 rfl (lv_at hl 0 rfl) ?_
        refine s_gJ g C hP 0 13 (by decide) rfl rfl cfX9 (by decide) kFL_X9_75 dX9_isLine_50 ?_
        refine lv_ldc2 (v := (lN 8798)) hx hb C.1.2.2.2.1 (C.1.2.2.2.2 _ (List.mem_cons_of_mem _ kCO_X9_108)) dX9_isLine_53 ?_
        refine W.lcmp hx hb dX9_isLine_56 ?_
        refine lv_if_ne (tgt := 64) hx hb dX9_isLine_57 (by decide) (fun c_5 => ?_) (fun c_5 => ?_)
        · have h := h.2 c_5
          refine lv_aload_n hx hb dX9_isLine_64 rfl (lv_at hl 0 rfl) ?_
          refine s_gJ g C hP 0 13 (by decide) rfl rfl cfX9 (by decide) kFL_X9_75 dX9_isLine_65 ?_
          refine lv_ldc2 (v := (lN 10502066)) hx hb C.1.2.2.2.1 (C.1.2.2.2.2 _ (List.mem_cons_of_mem _ kCO_X9_110)) dX9_isLine_68 ?_
          refine W.lcmp hx hb dX9_isLine_71 ?_
          refine lv_if_ne (tgt := 79) hx hb dX9_isLine_72 (by decide) (fun c_6 => ?_) (fun c_6 => ?_)
          · have h := h.2 c_6
            refine lv_iconst (v := (-1 : Int32)) hx hb dX9_isLine_79 (by decide) ?_
            exact b_X9_isLine_80 hi C  _ _ _ _ _ hP hS (lv_sub hl [0, 1] rfl) h
          · have h := h.1 c_6
            refine lv_iconst (v := (nI 4)) hx hb dX9_isLine_75 (by decide) ?_
            refine lv_goto (tgt := 80) hx hb dX9_isLine_76 (by decide) ?_
            exact b_X9_isLine_80 hi C  _ _ _ _ _ hP hS (lv_sub hl [0, 1] rfl) h
        · have h := h.1 c_5
          refine lv_iconst (v := (nI 3)) hx hb dX9_isLine_60 (by decide) ?_
          refine lv_goto (tgt := 80) hx hb dX9_isLine_61 (by decide) ?_
          exact b_X9_isLine_80 hi C  _ _ _ _ _ hP hS (lv_sub hl [0, 1] rfl) h
      · have h := h.1 c_4
        refine lv_iconst (v := (nI 2)) hx hb dX9_isLine_45 (by decide) ?_
        refine lv_goto (tgt := 80) hx hb dX9_isLine_46 (by decide) ?_
        exact b_X9_isLine_80 hi C  _ _ _ _ _ hP hS (lv_sub hl [0, 1] rfl) h
    · have h := h.1 c_3
      refine lv_iconst (v := (nI 1)) hx hb dX9_isLine_30 (by decide) ?_
      refine lv_goto (tgt := 80) hx hb dX9_isLine_31 (by decide) ?_
      exact b_X9_isLine_80 hi C  _ _ _ _ _ hP hS (lv_sub hl [0, 1] rfl) h
  · have h := h.1 c_2
    refine lv_iconst (v := (nI 0)) hx hb dX9_isLine_15 (by decide) ?_
    refine lv_goto (tgt := 80) hx hb dX9_isLine_16 (by decide) ?_
    exact b_X9_isLine_80 hi C  _ _ _ _ _ hP hS (lv_sub hl [0, 1] rfl) h
def q_X9_isRead_71 (k : Int32 → St → Prop) (e_12 : St → Int32 → Prop) (S : St) (t0 : Int32) : Prop := e_12 S t0
set_option maxRecDepth 100000 in
set_option maxHeartbeats 4000000 in
theorem b_X9_isRead_71 {p : Program} {l : Launch} {e : Env} {s : State} {m : MethodId} {args : Array Value} {below : List Frame} {meth : Method} {c : Code} {Z : ZT} (hi : injZ 10 Z) (C : Cxt (gM Z) p s m meth c args yX9_isRead cX9_isRead 2 (Option.some .boolean)) {k : Int32 → St → Prop} {e_12 : St → Int32 → Prop}  (he_12 : ∀ (S : St) (x1 : Int32) (H : Heap) (locs : List Loc) (ls : Array Slot), va_P Z.1 vwCl (wl shM 10 Z S) H → va_S (aa 10 Z) s.heap H locs → lv_has ls 2 [(0, .ref (Z.2.2.1 0)), (1, .int x1)] → e_12 S x1 → W p l e (rmk 5 109) s m args below meth c H locs 0 0 (Qi below shM 10 Z args s (fun r S' => (r = 0 ∨ r = 1) ∧ k r S')) (F0 m 12 ls [])) (S : St) (t0 : Int32) (H : Heap) (locs : List Loc) (ls : Array Slot) (hP : va_P Z.1 vwCl (wl shM 10 Z S) H) (hS : va_S (aa 10 Z) s.heap H locs) (hl : lv_has ls 2 [(0, .ref (Z.2.2.1 0))]) (h : q_X9_isRead_71 k e_12 S t0) : W p l e (rmk 5 109) s m args below meth c H locs 0 0 (Qi below shM 10 Z args s (fun r S' => (r = 0 ∨ r = 1) ∧ k r S')) (F0 m 71 ls [.int t0]) := by
  have g := gokM hi
  have hx := C.1.1
  have hb := C.1.2.1
  unfold q_X9_isRead_71 at h
  refine lv_istore_n (lv' := [(1, .int t0), (0, .ref (Z.2.2.1 0))]) hx hb dX9_isRead_71 rfl hl (by decide) rfl (fun ls hl => ?_)
  refine lv_goto (tgt := 12) hx hb dX9_isRead_72 (by decide) ?_
  exact he_12 _ _ _ _ _ hP hS (lv_sub hl [1, 0] rfl) h
def q_X9_isRead_70 (k : Int32 → St → Prop) (e_12 : St → Int32 → Prop) (S : St) : Prop := q_X9_isRead_71 k e_12 S (nI 0)
set_option maxRecDepth 100000 in
set_option maxHeartbeats 4000000 in
theorem b_X9_isRead_70 {p : Program} {l : Launch} {e : Env} {s : State} {m : MethodId} {args : Array Value} {below : List Frame} {meth : Method} {c : Code} {Z : ZT} (hi : injZ 10 Z) (C : Cxt (gM Z) p s m meth c args yX9_isRead cX9_isRead 2 (Option.some .boolean)) {k : Int32 → St → Prop} {e_12 : St → Int32 → Prop}  (he_12 : ∀ (S : St) (x1 : Int32) (H : Heap) (locs : List Loc) (ls : Array Slot), va_P Z.1 vwCl (wl shM 10 Z S) H → va_S (aa 10 Z) s.heap H locs → lv_has ls 2 [(0, .ref (Z.2.2.1 0)), (1, .int x1)] → e_12 S x1 → W p l e (rmk 5 109) s m args below meth c H locs 0 0 (Qi below shM 10 Z args s (fun r S' => (r = 0 ∨ r = 1) ∧ k r S')) (F0 m 12 ls [])) (S : St) (H : Heap) (locs : List Loc) (ls : Array Slot) (hP : va_P Z.1 vwCl (wl shM 10 Z S) H) (hS : va_S (aa 10 Z) s.heap H locs) (hl : lv_has ls 2 [(0, .ref (Z.2.2.1 0))]) (h : q_X9_isRead_70 k e_12 S) : W p l e (rmk 5 109) s m args below meth c H locs 0 0 (Qi below shM 10 Z args s (fun r S' => (r = 0 ∨ r = 1) ∧ k r S')) (F0 m 70 ls []) := by
  have g := gokM hi
  have hx := C.1.1
  have hb := C.1.2.1
  unfold q_X9_isRead_70 at h
  refine lv_iconst (v := (nI 0)) hx hb dX9_isRead_70 (by decide) ?_
  exact b_X9_isRead_71 hi C he_12 _ _ _ _ _ hP hS (lv_sub hl [0] rfl) h
def q_X9_isRead_12 (k : Int32 → St → Prop) : Nat → St → Int32 → Prop := fun n_ => Nat.rec (motive := fun _ => St → Int32 → Prop) (fun _ _ => False) (fun _ ih => fun S x1 => (x1 = (nI 0) → (((lg_cmp (S.2 0 13) (-2 : Int64)) = (nI 0) → (k (nI 1) S)) ∧ (¬ (lg_cmp (S.2 0 13) (-2 : Int64)) = (nI 0) → (q_X9_fails S (fun r_3 S_4 => ((r_3 = (nI 0) → (k (nI 0) S_4)) ∧ (¬ r_3 = (nI 0) → (k (nI 1) S_4)))))))) ∧ (¬ x1 = (nI 0) → (q_X9_isLine S ((nI 7) * (S.1 0 17)) (fun r_6 S_7 => ((r_6 = (nI 0) → (k (nI 0) S_7)) ∧ (¬ r_6 = (nI 0) → (∀ S_9 : St, S_9 = sI S_7 0 17 ((S_7.1 0 17) + (nI 1)) → (q_X9_nextToken S_9 (fun S_10 => (((lg_cmp (S_10.2 0 13) (-3 : Int64)) = (nI 0) → (((nI 10) ≤ (S_10.1 0 17) → (q_X9_isRead_70 k ih S_10)) ∧ (¬ (nI 10) ≤ (S_10.1 0 17) → (q_X9_isRead_71 k ih S_10 (nI 1))))) ∧ (¬ (lg_cmp (S_10.2 0 13) (-3 : Int64)) = (nI 0) → (q_X9_isRead_70 k ih S_10)))))))))))) n_
theorem q_X9_isRead_12_s (k : Int32 → St → Prop) (n_ : Nat) (S : St) (x1 : Int32) : q_X9_isRead_12 k (n_ + 1) S x1 = ((x1 = (nI 0) → (((lg_cmp (S.2 0 13) (-2 : Int64)) = (nI 0) → (k (nI 1) S)) ∧ (¬ (lg_cmp (S.2 0 13) (-2 : Int64)) = (nI 0) → (q_X9_fails S (fun r_3 S_4 => ((r_3 = (nI 0) → (k (nI 0) S_4)) ∧ (¬ r_3 = (nI 0) → (k (nI 1) S_4)))))))) ∧ (¬ x1 = (nI 0) → (q_X9_isLine S ((nI 7) * (S.1 0 17)) (fun r_6 S_7 => ((r_6 = (nI 0) → (k (nI 0) S_7)) ∧ (¬ r_6 = (nI 0) → (∀ S_9 : St, S_9 = sI S_7 0 17 ((S_7.1 0 17) + (nI 1)) → (q_X9_nextToken S_9 (fun S_10 => (((lg_cmp (S_10.2 0 13) (-3 : Int64)) = (nI 0) → (((nI 10) ≤ (S_10.1 0 17) → (q_X9_isRead_70 k (q_X9_isRead_12 k n_) S_10)) ∧ (¬ (nI 10) ≤ (S_10.1 0 17) → (q_X9_isRead_71 k (q_X9_isRead_12 k n_) S_10 (nI 1))))) ∧ (¬ (lg_cmp (S_10.2 0 13) (-3 : Int64)) = (nI 0) → (q_X9_isRead_70 k (q_X9_isRead_12 k n_) S_10)))))))))))) := rfl
set_option maxRecDepth 100000 in
set_option maxHeartbeats 4000000 in
theorem b_X9_isRead_12 {p : Program} {l : Launch} {e : Env} {s : State} {m : MethodId} {args : Array Value} {below : List Frame} {meth : Method} {c : Code} {Z : ZT} (hi : injZ 10 Z) (C : Cxt (gM Z) p s m meth c args yX9_isRead cX9_isRead 2 (Option.some .boolean)) {k : Int32 → St → Prop}   : ∀ (n_ : Nat) (S : St) (x1 : Int32) (H : Heap) (locs : List Loc) (ls : Array Slot), va_P Z.1 vwCl (wl shM 10 Z S) H → va_S (aa 10 Z) s.heap H locs → lv_has ls 2 [(0, .ref (Z.2.2.1 0)), (1, .int x1)] → q_X9_isRead_12 k n_ S x1 → W p l e (rmk 5 109) s m args below meth c H locs 0 0 (Qi below shM 10 Z args s (fun r S' => (r = 0 ∨ r = 1) ∧ k r S')) (F0 m 12 ls []) := by
  have g := gokM hi
  have hx := C.1.1
  have hb := C.1.2.1
  intro n_
  induction n_ with
  | zero => intro S x1 H locs ls hP hS hl h; exact h.elim
  | succ n_ ih =>
    intro S x1 H locs ls hP hS hl h
    rw [q_X9_isRead_12_s] at h
    refine lv_iload_n hx hb dX9_isRead_12 rfl (lv_at hl 1 rfl) ?_
    refine lv_if_eq (tgt := 75) hx hb dX9_isRead_13 (by decide) (fun c_1 => ?_) (fun c_1 => ?_)
    · have h := h.1 c_1
      refine lv_aload_n hx hb dX9_isRead_75 rfl (lv_at hl 0 rfl) ?_
      refine s_gJ g C hP 0 13 (by decide) rfl rfl cfX9 (by decide) kFL_X9_75 dX9_isRead_76 ?_
      refine lv_ldc2 (v := (-2 : Int64)) hx hb C.1.2.2.2.1 (C.1.2.2.2.2 _ (List.mem_cons_of_mem _ kCO_X9_73)) dX9_isRead_79 ?_
      refine W.lcmp hx hb dX9_isRead_82 ?_
      refine lv_if_eq (tgt := 93) hx hb dX9_isRead_83 (by decide) (fun c_2 => ?_) (fun c_2 => ?_)
      · have h := h.1 c_2
        refine lv_iconst (v := (nI 1)) hx hb dX9_isRead_93 (by decide) ?_
        refine lv_goto (tgt := 98) hx hb dX9_isRead_94 (by decide) ?_
        exact s_rz C hP hS (nar_b (Or.inr rfl)) ⟨(Or.inr rfl), h⟩ dX9_isRead_98
      · have h := h.2 c_2
        refine lv_aload_n hx hb dX9_isRead_86 rfl (lv_at hl 0 rfl) ?_
        refine go_i (run_V g C hP hS (c0 := 0) (As := []) (rest := []) (c_X9_fails hi S _ h) cal_X9_fails kML_X9_95 (by decide) rfl cfX9 ⟨rfl, rfl, Nat.le_of_ble_eq_true rfl, Nat.le_of_ble_eq_true rfl⟩ rfl rfl hl.1 (Nat.le_of_ble_eq_true rfl) dX9_isRead_87) hS (fun r_3 S_4 H locs h hP hS => ?_)
        obtain ⟨hbr_3, h⟩ := h
        refine lv_if_eq (tgt := 97) hx hb dX9_isRead_90 (by decide) (fun c_5 => ?_) (fun c_5 => ?_)
        · have h := h.1 c_5
          refine lv_iconst (v := (nI 0)) hx hb dX9_isRead_97 (by decide) ?_
          exact s_rz C hP hS (nar_b (Or.inl rfl)) ⟨(Or.inl rfl), h⟩ dX9_isRead_98
        · have h := h.2 c_5
          refine lv_iconst (v := (nI 1)) hx hb dX9_isRead_93 (by decide) ?_
          refine lv_goto (tgt := 98) hx hb dX9_isRead_94 (by decide) ?_
          exact s_rz C hP hS (nar_b (Or.inr rfl)) ⟨(Or.inr rfl), h⟩ dX9_isRead_98
    · have h := h.2 c_1
      refine lv_aload_n hx hb dX9_isRead_16 rfl (lv_at hl 0 rfl) ?_
      refine lv_bipush (v := (nI 7)) hx hb dX9_isRead_17 (by decide) ?_
      refine lv_aload_n hx hb dX9_isRead_19 rfl (lv_at hl 0 rfl) ?_
      refine s_gI g C hP 0 17 (by decide) rfl rfl cfX9 (by decide) kFL_X9_130 dX9_isRead_20 ?_
      refine lv_imul hx hb dX9_isRead_23 ?_
      refine go_i (run_V g C hP hS (c0 := 0) (As := [.int ((nI 7) * (S.1 0 17))]) (rest := []) (c_X9_isLine hi S ((nI 7) * (S.1 0 17)) _ h) cal_X9_isLine kML_X9_133 (by decide) rfl cfX9 ⟨rfl, rfl, Nat.le_of_ble_eq_true rfl, Nat.le_of_ble_eq_true rfl⟩ rfl rfl hl.1 (Nat.le_of_ble_eq_true rfl) dX9_isRead_24) hS (fun r_6 S_7 H locs h hP hS => ?_)
      obtain ⟨hbr_6, h⟩ := h
      refine lv_if_ne (tgt := 32) hx hb dX9_isRead_27 (by decide) (fun c_8 => ?_) (fun c_8 => ?_)
      · have h := h.2 c_8
        refine lv_aload_n hx hb dX9_isRead_32 rfl (lv_at hl 0 rfl) ?_
        refine lv_dup hx hb dX9_isRead_33 rfl ?_
        refine s_gI g C hP 0 17 (by decide) rfl rfl cfX9 (by decide) kFL_X9_130 dX9_isRead_34 ?_
        refine lv_iconst (v := (nI 1)) hx hb dX9_isRead_37 (by decide) ?_
        refine lv_iadd hx hb dX9_isRead_38 ?_
        refine s_pI g C hP hS 0 17 (by decide) rfl rfl cfX9 (by decide) rfl rfl rfl kFL_X9_130 dX9_isRead_39 (fun H locs hP hS => ?_)
        obtain ⟨S_9, eS_9⟩ : ∃ z_ : St, z_ = sI S_7 0 17 ((S_7.1 0 17) + (nI 1)) := ⟨_, rfl⟩
        rw [← eS_9] at hP
        have h := h S_9 eS_9
        refine lv_aload_n hx hb dX9_isRead_42 rfl (lv_at hl 0 rfl) ?_
        refine go_v (run_V g C hP hS (c0 := 0) (As := []) (rest := []) (c_X9_nextToken hi S_9 _ h) cal_X9_nextToken kML_X9_92 (by decide) rfl cfX9 ⟨rfl, rfl, Nat.le_of_ble_eq_true rfl, Nat.le_of_ble_eq_true rfl⟩ rfl rfl hl.1 (Nat.le_of_ble_eq_true rfl) dX9_isRead_43) hS (fun S_10 H locs h hP hS => ?_)
        refine lv_aload_n hx hb dX9_isRead_46 rfl (lv_at hl 0 rfl) ?_
        refine s_gJ g C hP 0 13 (by decide) rfl rfl cfX9 (by decide) kFL_X9_75 dX9_isRead_47 ?_
        refine lv_ldc2 (v := (-3 : Int64)) hx hb C.1.2.2.2.1 (C.1.2.2.2.2 _ (List.mem_cons_of_mem _ kCO_X9_87)) dX9_isRead_50 ?_
        refine W.lcmp hx hb dX9_isRead_53 ?_
        refine lv_if_ne (tgt := 70) hx hb dX9_isRead_54 (by decide) (fun c_11 => ?_) (fun c_11 => ?_)
        · have h := h.2 c_11
          exact b_X9_isRead_70 hi C ih _ _ _ _ hP hS (lv_sub hl [0] rfl) h
        · have h := h.1 c_11
          refine lv_aload_n hx hb dX9_isRead_57 rfl (lv_at hl 0 rfl) ?_
          refine s_gI g C hP 0 17 (by decide) rfl rfl cfX9 (by decide) kFL_X9_130 dX9_isRead_58 ?_
          refine lv_bipush (v := (nI 10)) hx hb dX9_isRead_61 (by decide) ?_
          refine lv_icmp_ge (tgt := 70) hx hb dX9_isRead_63 (by decide) (fun c_12 => ?_) (fun c_12 => ?_)
          · have h := h.1 c_12
            exact b_X9_isRead_70 hi C ih _ _ _ _ hP hS (lv_sub hl [0] rfl) h
          · have h := h.2 c_12
            refine lv_iconst (v := (nI 1)) hx hb dX9_isRead_66 (by decide) ?_
            refine lv_goto (tgt := 71) hx hb dX9_isRead_67 (by decide) ?_
            exact b_X9_isRead_71 hi C ih _ _ _ _ _ hP hS (lv_sub hl [0] rfl) h
      · have h := h.1 c_8
        refine lv_iconst (v := (nI 0)) hx hb dX9_isRead_30 (by decide) ?_
        exact s_rz C hP hS (nar_b (Or.inl rfl)) ⟨(Or.inl rfl), h⟩ dX9_isRead_31
def q_X9_isRead (S : St) (k : Int32 → St → Prop) : Prop := ∀ S_1 : St, S_1 = sI S 0 11 (nI 0) → (∀ S_2 : St, S_2 = sI S_1 0 17 (nI 0) → (∃ f_12, q_X9_isRead_12 k f_12 S_2 (nI 1)))
set_option maxRecDepth 100000 in
set_option maxHeartbeats 4000000 in
theorem c_X9_isRead {l : Launch} {Z : ZT} (hi : injZ 10 Z) (S : St) (k : Int32 → St → Prop) (h : q_X9_isRead S k) : Mi l shM 10 Z (gM Z) yX9_isRead cX9_isRead 2 (Option.some .boolean) (rmk 5 109) [.ref (Z.2.2.1 0)] S (fun r S' => (r = 0 ∨ r = 1) ∧ k r S') := by
  have g := gokM hi
  refine e_i (by decide) (Nat.le_of_ble_eq_true rfl) (lv := [(0, .ref (Z.2.2.1 0))]) rfl (fun p e s m args below meth c C hP hS ls hl => ?_)
  have hx := C.1.1
  have hb := C.1.2.1
  unfold q_X9_isRead at h
  refine lv_aload_n hx hb dX9_isRead_0 rfl (lv_at hl 0 rfl) ?_
  refine lv_iconst (v := (nI 0)) hx hb dX9_isRead_1 (by decide) ?_
  refine s_pI g C hP hS 0 11 (by decide) rfl rfl cfX9 (by decide) rfl rfl rfl kFL_X9_61 dX9_isRead_2 (fun H locs hP hS => ?_)
  obtain ⟨S_1, eS_1⟩ : ∃ z_ : St, z_ = sI S 0 11 (nI 0) := ⟨_, rfl⟩
  rw [← eS_1] at hP
  have h := h S_1 eS_1
  refine lv_aload_n hx hb dX9_isRead_5 rfl (lv_at hl 0 rfl) ?_
  refine lv_iconst (v := (nI 0)) hx hb dX9_isRead_6 (by decide) ?_
  refine s_pI g C hP hS 0 17 (by decide) rfl rfl cfX9 (by decide) rfl rfl rfl kFL_X9_130 dX9_isRead_7 (fun H locs hP hS => ?_)
  obtain ⟨S_2, eS_2⟩ : ∃ z_ : St, z_ = sI S_1 0 17 (nI 0) := ⟨_, rfl⟩
  rw [← eS_2] at hP
  have h := h S_2 eS_2
  refine lv_iconst (v := (nI 1)) hx hb dX9_isRead_10 (by decide) ?_
  refine lv_istore_n (lv' := [(1, .int (nI 1)), (0, .ref (Z.2.2.1 0))]) hx hb dX9_isRead_11 rfl hl (by decide) rfl (fun ls hl => ?_)
  obtain ⟨f_12, h⟩ := h
  exact b_X9_isRead_12 hi C  f_12 _ _ _ _ _ hP hS (lv_sub hl [1, 0] rfl) h
def q_X9_fault (S : St) (k : Int32 → St → Prop) : Prop := q_X9_isRead S (fun r_1 S_2 => ((r_1 = (nI 0) → (k (S_2.1 0 16) S_2)) ∧ (¬ r_1 = (nI 0) → (k (-1 : Int32) S_2))))
set_option maxRecDepth 100000 in
set_option maxHeartbeats 4000000 in
theorem c_X9_fault {l : Launch} {Z : ZT} (hi : injZ 10 Z) (S : St) (k : Int32 → St → Prop) (h : q_X9_fault S k) : Mi l shM 10 Z (gM Z) yX9_fault cX9_fault 1 (Option.some .int) (rmk 6 130) [.ref (Z.2.2.1 0)] S k := by
  have g := gokM hi
  refine e_i (by decide) (Nat.le_of_ble_eq_true rfl) (lv := [(0, .ref (Z.2.2.1 0))]) rfl (fun p e s m args below meth c C hP hS ls hl => ?_)
  have hx := C.1.1
  have hb := C.1.2.1
  unfold q_X9_fault at h
  refine lv_aload_n hx hb dX9_fault_0 rfl (lv_at hl 0 rfl) ?_
  refine go_i (run_V g C hP hS (c0 := 0) (As := []) (rest := []) (c_X9_isRead hi S _ h) cal_X9_isRead kML_X9_136 (by decide) rfl cfX9 ⟨rfl, rfl, Nat.le_of_ble_eq_true rfl, Nat.le_of_ble_eq_true rfl⟩ rfl rfl hl.1 (Nat.le_of_ble_eq_true rfl) dX9_fault_1) hS (fun r_1 S_2 H locs h hP hS => ?_)
  obtain ⟨hbr_1, h⟩ := h
  refine lv_if_eq (tgt := 11) hx hb dX9_fault_4 (by decide) (fun c_3 => ?_) (fun c_3 => ?_)
  · have h := h.1 c_3
    refine lv_aload_n hx hb dX9_fault_11 rfl (lv_at hl 0 rfl) ?_
    refine s_gI g C hP 0 16 (by decide) rfl rfl cfX9 (by decide) kFL_X9_89 dX9_fault_12 ?_
    exact s_ri C hP hS h dX9_fault_15
  · have h := h.2 c_3
    refine lv_iconst (v := (-1 : Int32)) hx hb dX9_fault_7 (by decide) ?_
    refine lv_goto (tgt := 15) hx hb dX9_fault_8 (by decide) ?_
    exact s_ri C hP hS h dX9_fault_15
def q_X9_putWind_3 (a1 : Int32) (a2 : Int32) (a3 : Int32) (a4 : Int32) (a5 : Int32) (k : St → Prop) : Nat → St → Int32 → Prop := fun n_ => Nat.rec (motive := fun _ => St → Int32 → Prop) (fun _ _ => False) (fun _ ih => fun S x6 => (a3 < x6 → (k S)) ∧ (¬ a3 < x6 → (vp_in (((nI 24) * a1) + ((nI 2) * x6)) 96 ∧ (∀ S_3 : St, S_3 = sI S 1 (((nI 24) * a1) + ((nI 2) * x6)).toNatClampNeg a4 → (vp_in ((((nI 24) * a1) + ((nI 2) * x6)) + (nI 1)) 96 ∧ (∀ S_5 : St, S_5 = sI S_3 1 ((((nI 24) * a1) + ((nI 2) * x6)) + (nI 1)).toNatClampNeg a5 → (∀ x6_6 : Int32, x6_6 = x6 + (nI 1) → (ih S_5 x6_6)))))))) n_
theorem q_X9_putWind_3_s (a1 : Int32) (a2 : Int32) (a3 : Int32) (a4 : Int32) (a5 : Int32) (k : St → Prop) (n_ : Nat) (S : St) (x6 : Int32) : q_X9_putWind_3 a1 a2 a3 a4 a5 k (n_ + 1) S x6 = ((a3 < x6 → (k S)) ∧ (¬ a3 < x6 → (vp_in (((nI 24) * a1) + ((nI 2) * x6)) 96 ∧ (∀ S_3 : St, S_3 = sI S 1 (((nI 24) * a1) + ((nI 2) * x6)).toNatClampNeg a4 → (vp_in ((((nI 24) * a1) + ((nI 2) * x6)) + (nI 1)) 96 ∧ (∀ S_5 : St, S_5 = sI S_3 1 ((((nI 24) * a1) + ((nI 2) * x6)) + (nI 1)).toNatClampNeg a5 → (∀ x6_6 : Int32, x6_6 = x6 + (nI 1) → ((q_X9_putWind_3 a1 a2 a3 a4 a5 k n_) S_5 x6_6)))))))) := rfl
set_option maxRecDepth 100000 in
set_option maxHeartbeats 4000000 in
theorem b_X9_putWind_3 {p : Program} {l : Launch} {e : Env} {s : State} {m : MethodId} {args : Array Value} {below : List Frame} {meth : Method} {c : Code} {Z : ZT} (hi : injZ 10 Z) (C : Cxt (gM Z) p s m meth c args yX9_putWind cX9_putWind 7 none) {a1 : Int32} {a2 : Int32} {a3 : Int32} {a4 : Int32} {a5 : Int32} {k : St → Prop}   : ∀ (n_ : Nat) (S : St) (x6 : Int32) (H : Heap) (locs : List Loc) (ls : Array Slot), va_P Z.1 vwCl (wl shM 10 Z S) H → va_S (aa 10 Z) s.heap H locs → lv_has ls 7 [(0, .ref (Z.2.2.1 0)), (1, .int a1), (3, .int a3), (4, .int a4), (5, .int a5), (6, .int x6)] → q_X9_putWind_3 a1 a2 a3 a4 a5 k n_ S x6 → W p l e (rmk 0 0) s m args below meth c H locs 0 0 (Qv below shM 10 Z args s k) (F0 m 3 ls []) := by
  have g := gokM hi
  have hx := C.1.1
  have hb := C.1.2.1
  intro n_
  induction n_ with
  | zero => intro S x6 H locs ls hP hS hl h; exact h.elim
  | succ n_ ih =>
    intro S x6 H locs ls hP hS hl h
    rw [q_X9_putWind_3_s] at h
    refine lv_iload hx hb dX9_putWind_3 (lv_at hl 5 rfl) ?_
    refine lv_iload_n hx hb dX9_putWind_5 rfl (lv_at hl 2 rfl) ?_
    refine lv_icmp_gt (tgt := 49) hx hb dX9_putWind_6 (by decide) (fun c_1 => ?_) (fun c_1 => ?_)
    · have h := h.1 c_1
      exact s_rv C hP hS h dX9_putWind_49
    · have h := h.2 c_1
      refine lv_aload_n hx hb dX9_putWind_9 rfl (lv_at hl 0 rfl) ?_
      refine s_gR g C hP 0 0 1 (by decide) rfl rfl cfX9 (by decide) kFL_X9_7 dX9_putWind_10 ?_
      refine lv_bipush (v := (nI 24)) hx hb dX9_putWind_13 (by decide) ?_
      refine lv_iload_n hx hb dX9_putWind_15 rfl (lv_at hl 1 rfl) ?_
      refine lv_imul hx hb dX9_putWind_16 ?_
      refine lv_iconst (v := (nI 2)) hx hb dX9_putWind_17 (by decide) ?_
      refine lv_iload hx hb dX9_putWind_18 (lv_at hl 5 rfl) ?_
      refine lv_imul hx hb dX9_putWind_20 ?_
      refine lv_iadd hx hb dX9_putWind_21 ?_
      refine lv_iload hx hb dX9_putWind_22 (lv_at hl 3 rfl) ?_
      have hv_2 := h.1
      have h := h.2
      refine s_stI g C hP hS 1 (by decide) rfl hv_2 dX9_putWind_24 (fun H locs hP hS => ?_)
      obtain ⟨S_3, eS_3⟩ : ∃ z_ : St, z_ = sI S 1 (((nI 24) * a1) + ((nI 2) * x6)).toNatClampNeg a4 := ⟨_, rfl⟩
      rw [← eS_3] at hP
      have h := h S_3 eS_3
      refine lv_aload_n hx hb dX9_putWind_25 rfl (lv_at hl 0 rfl) ?_
      refine s_gR g C hP 0 0 1 (by decide) rfl rfl cfX9 (by decide) kFL_X9_7 dX9_putWind_26 ?_
      refine lv_bipush (v := (nI 24)) hx hb dX9_putWind_29 (by decide) ?_
      refine lv_iload_n hx hb dX9_putWind_31 rfl (lv_at hl 1 rfl) ?_
      refine lv_imul hx hb dX9_putWind_32 ?_
      refine lv_iconst (v := (nI 2)) hx hb dX9_putWind_33 (by decide) ?_
      refine lv_iload hx hb dX9_putWind_34 (lv_at hl 5 rfl) ?_
      refine lv_imul hx hb dX9_putWind_36 ?_
      refine lv_iadd hx hb dX9_putWind_37 ?_
      refine lv_iconst (v := (nI 1)) hx hb dX9_putWind_38 (by decide) ?_
      refine lv_iadd hx hb dX9_putWind_39 ?_
      refine lv_iload hx hb dX9_putWind_40 (lv_at hl 4 rfl) ?_
      have hv_4 := h.1
      have h := h.2
      refine s_stI g C hP hS 1 (by decide) rfl hv_4 dX9_putWind_42 (fun H locs hP hS => ?_)
      obtain ⟨S_5, eS_5⟩ : ∃ z_ : St, z_ = sI S_3 1 ((((nI 24) * a1) + ((nI 2) * x6)) + (nI 1)).toNatClampNeg a5 := ⟨_, rfl⟩
      rw [← eS_5] at hP
      have h := h S_5 eS_5
      obtain ⟨x6_6, ex6_6⟩ : ∃ y_ : Int32, y_ = x6 + (nI 1) := ⟨_, rfl⟩
      have h := h x6_6 ex6_6
      refine lv_iinc (v := x6_6) (lv' := [(6, .int x6_6), (0, .ref (Z.2.2.1 0)), (1, .int a1), (3, .int a3), (4, .int a4), (5, .int a5)]) hx hb dX9_putWind_43 hl (k := 5) rfl (by rw [ex6_6]; rfl) (by decide) rfl (fun ls hl => ?_)
      refine lv_goto (tgt := 3) hx hb dX9_putWind_46 (by decide) ?_
      exact ih _ _ _ _ _ hP hS (lv_sub hl [1, 2, 3, 4, 5, 0] rfl) h
def q_X9_putWind (S : St) (a1 : Int32) (a2 : Int32) (a3 : Int32) (a4 : Int32) (a5 : Int32) (k : St → Prop) : Prop := ∃ f_3, q_X9_putWind_3 a1 a2 a3 a4 a5 k f_3 S a2
set_option maxRecDepth 100000 in
set_option maxHeartbeats 4000000 in
theorem c_X9_putWind {l : Launch} {Z : ZT} (hi : injZ 10 Z) (S : St) (a1 : Int32) (a2 : Int32) (a3 : Int32) (a4 : Int32) (a5 : Int32) (k : St → Prop) (h : q_X9_putWind S a1 a2 a3 a4 a5 k) : Mv l shM 10 Z (gM Z) yX9_putWind cX9_putWind 7 none (rmk 0 0) [.ref (Z.2.2.1 0), .int a1, .int a2, .int a3, .int a4, .int a5] S k := by
  have g := gokM hi
  refine e_v (by decide) (Nat.le_of_ble_eq_true rfl) (lv := [(0, .ref (Z.2.2.1 0)), (1, .int a1), (2, .int a2), (3, .int a3), (4, .int a4), (5, .int a5)]) rfl (fun p e s m args below meth c C hP hS ls hl => ?_)
  have hx := C.1.1
  have hb := C.1.2.1
  unfold q_X9_putWind at h
  refine lv_iload_n hx hb dX9_putWind_0 rfl (lv_at hl 2 rfl) ?_
  refine lv_istore (lv' := [(6, .int a2), (0, .ref (Z.2.2.1 0)), (1, .int a1), (2, .int a2), (3, .int a3), (4, .int a4), (5, .int a5)]) hx hb dX9_putWind_1 hl (by decide) rfl (fun ls hl => ?_)
  obtain ⟨f_3, h⟩ := h
  exact b_X9_putWind_3 hi C  f_3 _ _ _ _ _ hP hS (lv_sub hl [1, 2, 4, 5, 6, 0] rfl) h
def q_X9_calm_2 (k : St → Prop) : Nat → St → Int32 → Prop := fun n_ => Nat.rec (motive := fun _ => St → Int32 → Prop) (fun _ _ => False) (fun _ ih => fun S x1 => ((nI 4) ≤ x1 → (∀ S_2 : St, S_2 = sI S 0 7 (nI 0) → (∀ S_3 : St, S_3 = sI S_2 0 8 (nI 0) → (k S_3)))) ∧ (¬ (nI 4) ≤ x1 → (q_X9_putWind S x1 (nI 0) (nI 11) (nI 0) (nI 0) (fun S_4 => (∀ x1_5 : Int32, x1_5 = x1 + (nI 1) → (ih S_4 x1_5)))))) n_
theorem q_X9_calm_2_s (k : St → Prop) (n_ : Nat) (S : St) (x1 : Int32) : q_X9_calm_2 k (n_ + 1) S x1 = (((nI 4) ≤ x1 → (∀ S_2 : St, S_2 = sI S 0 7 (nI 0) → (∀ S_3 : St, S_3 = sI S_2 0 8 (nI 0) → (k S_3)))) ∧ (¬ (nI 4) ≤ x1 → (q_X9_putWind S x1 (nI 0) (nI 11) (nI 0) (nI 0) (fun S_4 => (∀ x1_5 : Int32, x1_5 = x1 + (nI 1) → ((q_X9_calm_2 k n_) S_4 x1_5)))))) := rfl
set_option maxRecDepth 100000 in
set_option maxHeartbeats 4000000 in
theorem b_X9_calm_2 {p : Program} {l : Launch} {e : Env} {s : State} {m : MethodId} {args : Array Value} {below : List Frame} {meth : Method} {c : Code} {Z : ZT} (hi : injZ 10 Z) (C : Cxt (gM Z) p s m meth c args yX9_calm cX9_calm 2 none) {k : St → Prop}   : ∀ (n_ : Nat) (S : St) (x1 : Int32) (H : Heap) (locs : List Loc) (ls : Array Slot), va_P Z.1 vwCl (wl shM 10 Z S) H → va_S (aa 10 Z) s.heap H locs → lv_has ls 2 [(0, .ref (Z.2.2.1 0)), (1, .int x1)] → q_X9_calm_2 k n_ S x1 → W p l e (rmk 1 26) s m args below meth c H locs 0 0 (Qv below shM 10 Z args s k) (F0 m 2 ls []) := by
  have g := gokM hi
  have hx := C.1.1
  have hb := C.1.2.1
  intro n_
  induction n_ with
  | zero => intro S x1 H locs ls hP hS hl h; exact h.elim
  | succ n_ ih =>
    intro S x1 H locs ls hP hS hl h
    rw [q_X9_calm_2_s] at h
    refine lv_iload_n hx hb dX9_calm_2 rfl (lv_at hl 1 rfl) ?_
    refine lv_iconst (v := (nI 4)) hx hb dX9_calm_3 (by decide) ?_
    refine lv_icmp_ge (tgt := 23) hx hb dX9_calm_4 (by decide) (fun c_1 => ?_) (fun c_1 => ?_)
    · have h := h.1 c_1
      refine lv_aload_n hx hb dX9_calm_23 rfl (lv_at hl 0 rfl) ?_
      refine lv_iconst (v := (nI 0)) hx hb dX9_calm_24 (by decide) ?_
      refine s_pI g C hP hS 0 7 (by decide) rfl rfl cfX9 (by decide) rfl rfl rfl kFL_X9_143 dX9_calm_25 (fun H locs hP hS => ?_)
      obtain ⟨S_2, eS_2⟩ : ∃ z_ : St, z_ = sI S 0 7 (nI 0) := ⟨_, rfl⟩
      rw [← eS_2] at hP
      have h := h S_2 eS_2
      refine lv_aload_n hx hb dX9_calm_28 rfl (lv_at hl 0 rfl) ?_
      refine lv_iconst (v := (nI 0)) hx hb dX9_calm_29 (by decide) ?_
      refine s_pI g C hP hS 0 8 (by decide) rfl rfl cfX9 (by decide) rfl rfl rfl kFL_X9_146 dX9_calm_30 (fun H locs hP hS => ?_)
      obtain ⟨S_3, eS_3⟩ : ∃ z_ : St, z_ = sI S_2 0 8 (nI 0) := ⟨_, rfl⟩
      rw [← eS_3] at hP
      have h := h S_3 eS_3
      exact s_rv C hP hS h dX9_calm_33
    · have h := h.2 c_1
      refine lv_aload_n hx hb dX9_calm_7 rfl (lv_at hl 0 rfl) ?_
      refine lv_iload_n hx hb dX9_calm_8 rfl (lv_at hl 1 rfl) ?_
      refine lv_iconst (v := (nI 0)) hx hb dX9_calm_9 (by decide) ?_
      refine lv_bipush (v := (nI 11)) hx hb dX9_calm_10 (by decide) ?_
      refine lv_iconst (v := (nI 0)) hx hb dX9_calm_12 (by decide) ?_
      refine lv_iconst (v := (nI 0)) hx hb dX9_calm_13 (by decide) ?_
      refine go_v (run_V g C hP hS (c0 := 0) (As := [.int x1, .int (nI 0), .int (nI 11), .int (nI 0), .int (nI 0)]) (rest := []) (c_X9_putWind hi S x1 (nI 0) (nI 11) (nI 0) (nI 0) _ h) cal_X9_putWind kML_X9_139 (by decide) rfl cfX9 ⟨rfl, rfl, Nat.le_of_ble_eq_true rfl, Nat.le_of_ble_eq_true rfl⟩ rfl rfl hl.1 (Nat.le_of_ble_eq_true rfl) dX9_calm_14) hS (fun S_4 H locs h hP hS => ?_)
      obtain ⟨x1_5, ex1_5⟩ : ∃ y_ : Int32, y_ = x1 + (nI 1) := ⟨_, rfl⟩
      have h := h x1_5 ex1_5
      refine lv_iinc (v := x1_5) (lv' := [(1, .int x1_5), (0, .ref (Z.2.2.1 0))]) hx hb dX9_calm_17 hl (k := 1) rfl (by rw [ex1_5]; rfl) (by decide) rfl (fun ls hl => ?_)
      refine lv_goto (tgt := 2) hx hb dX9_calm_20 (by decide) ?_
      exact ih _ _ _ _ _ hP hS (lv_sub hl [1, 0] rfl) h
def q_X9_calm (S : St) (k : St → Prop) : Prop := ∃ f_2, q_X9_calm_2 k f_2 S (nI 1)
set_option maxRecDepth 100000 in
set_option maxHeartbeats 4000000 in
theorem c_X9_calm {l : Launch} {Z : ZT} (hi : injZ 10 Z) (S : St) (k : St → Prop) (h : q_X9_calm S k) : Mv l shM 10 Z (gM Z) yX9_calm cX9_calm 2 none (rmk 1 26) [.ref (Z.2.2.1 0)] S k := by
  have g := gokM hi
  refine e_v (by decide) (Nat.le_of_ble_eq_true rfl) (lv := [(0, .ref (Z.2.2.1 0))]) rfl (fun p e s m args below meth c C hP hS ls hl => ?_)
  have hx := C.1.1
  have hb := C.1.2.1
  unfold q_X9_calm at h
  refine lv_iconst (v := (nI 1)) hx hb dX9_calm_0 (by decide) ?_
  refine lv_istore_n (lv' := [(1, .int (nI 1)), (0, .ref (Z.2.2.1 0))]) hx hb dX9_calm_1 rfl hl (by decide) rfl (fun ls hl => ?_)
  obtain ⟨f_2, h⟩ := h
  exact b_X9_calm_2 hi C  f_2 _ _ _ _ _ hP hS (lv_sub hl [1, 0] rfl) h
def q_X9_doLine_116 (a1 : Int32) (k : St → Prop) : Nat → St → Int32 → Int32 → Prop := fun n_ => Nat.rec (motive := fun _ => St → Int32 → Int32 → Prop) (fun _ _ _ => False) (fun _ ih => fun S x2 x3 => ((nI 5) ≤ x3 → (k S)) ∧ (¬ (nI 5) ≤ x3 → (vp_in ((a1 + (nI 2)) + x3) 70 ∧ (vp_in (((nI 5) * x2) + x3) 30 ∧ (∀ S_4 : St, S_4 = sI S 2 (((nI 5) * x2) + x3).toNatClampNeg (S.1 5 ((a1 + (nI 2)) + x3).toNatClampNeg) → (∀ x3_5 : Int32, x3_5 = x3 + (nI 1) → (ih S_4 x2 x3_5))))))) n_
theorem q_X9_doLine_116_s (a1 : Int32) (k : St → Prop) (n_ : Nat) (S : St) (x2 : Int32) (x3 : Int32) : q_X9_doLine_116 a1 k (n_ + 1) S x2 x3 = (((nI 5) ≤ x3 → (k S)) ∧ (¬ (nI 5) ≤ x3 → (vp_in ((a1 + (nI 2)) + x3) 70 ∧ (vp_in (((nI 5) * x2) + x3) 30 ∧ (∀ S_4 : St, S_4 = sI S 2 (((nI 5) * x2) + x3).toNatClampNeg (S.1 5 ((a1 + (nI 2)) + x3).toNatClampNeg) → (∀ x3_5 : Int32, x3_5 = x3 + (nI 1) → ((q_X9_doLine_116 a1 k n_) S_4 x2 x3_5))))))) := rfl
set_option maxRecDepth 100000 in
set_option maxHeartbeats 4000000 in
theorem b_X9_doLine_116 {p : Program} {l : Launch} {e : Env} {s : State} {m : MethodId} {args : Array Value} {below : List Frame} {meth : Method} {c : Code} {Z : ZT} (hi : injZ 10 Z) (C : Cxt (gM Z) p s m meth c args yX9_doLine cX9_doLine 4 none) {a1 : Int32} {k : St → Prop}   : ∀ (n_ : Nat) (S : St) (x2 : Int32) (x3 : Int32) (H : Heap) (locs : List Loc) (ls : Array Slot), va_P Z.1 vwCl (wl shM 10 Z S) H → va_S (aa 10 Z) s.heap H locs → lv_has ls 4 [(0, .ref (Z.2.2.1 0)), (1, .int a1), (2, .int x2), (3, .int x3)] → q_X9_doLine_116 a1 k n_ S x2 x3 → W p l e (rmk 2 47) s m args below meth c H locs 0 0 (Qv below shM 10 Z args s k) (F0 m 116 ls []) := by
  have g := gokM hi
  have hx := C.1.1
  have hb := C.1.2.1
  intro n_
  induction n_ with
  | zero => intro S x2 x3 H locs ls hP hS hl h; exact h.elim
  | succ n_ ih =>
    intro S x2 x3 H locs ls hP hS hl h
    rw [q_X9_doLine_116_s] at h
    refine lv_iload_n hx hb dX9_doLine_116 rfl (lv_at hl 3 rfl) ?_
    refine lv_iconst (v := (nI 5)) hx hb dX9_doLine_117 (by decide) ?_
    refine lv_icmp_ge (tgt := 147) hx hb dX9_doLine_118 (by decide) (fun c_1 => ?_) (fun c_1 => ?_)
    · have h := h.1 c_1
      refine lv_goto (tgt := 294) hx hb dX9_doLine_147 (by decide) ?_
      exact s_rv C hP hS h dX9_doLine_294
    · have h := h.2 c_1
      refine lv_aload_n hx hb dX9_doLine_121 rfl (lv_at hl 0 rfl) ?_
      refine s_gR g C hP 0 2 2 (by decide) rfl rfl cfX9 (by decide) kFL_X9_13 dX9_doLine_122 ?_
      refine lv_iconst (v := (nI 5)) hx hb dX9_doLine_125 (by decide) ?_
      refine lv_iload_n hx hb dX9_doLine_126 rfl (lv_at hl 2 rfl) ?_
      refine lv_imul hx hb dX9_doLine_127 ?_
      refine lv_iload_n hx hb dX9_doLine_128 rfl (lv_at hl 3 rfl) ?_
      refine lv_iadd hx hb dX9_doLine_129 ?_
      refine lv_aload_n hx hb dX9_doLine_130 rfl (lv_at hl 0 rfl) ?_
      refine s_gR g C hP 0 18 5 (by decide) rfl rfl cfX9 (by decide) kFL_X9_26 dX9_doLine_131 ?_
      refine lv_iload_n hx hb dX9_doLine_134 rfl (lv_at hl 1 rfl) ?_
      refine lv_iconst (v := (nI 2)) hx hb dX9_doLine_135 (by decide) ?_
      refine lv_iadd hx hb dX9_doLine_136 ?_
      refine lv_iload_n hx hb dX9_doLine_137 rfl (lv_at hl 3 rfl) ?_
      refine lv_iadd hx hb dX9_doLine_138 ?_
      have hv_2 := h.1
      have h := h.2
      refine s_aI g C hP 5 (by decide) rfl hv_2 dX9_doLine_139 ?_
      have hv_3 := h.1
      have h := h.2
      refine s_stI g C hP hS 2 (by decide) rfl hv_3 dX9_doLine_140 (fun H locs hP hS => ?_)
      obtain ⟨S_4, eS_4⟩ : ∃ z_ : St, z_ = sI S 2 (((nI 5) * x2) + x3).toNatClampNeg (S.1 5 ((a1 + (nI 2)) + x3).toNatClampNeg) := ⟨_, rfl⟩
      rw [← eS_4] at hP
      have h := h S_4 eS_4
      obtain ⟨x3_5, ex3_5⟩ : ∃ y_ : Int32, y_ = x3 + (nI 1) := ⟨_, rfl⟩
      have h := h x3_5 ex3_5
      refine lv_iinc (v := x3_5) (lv' := [(3, .int x3_5), (0, .ref (Z.2.2.1 0)), (1, .int a1), (2, .int x2)]) hx hb dX9_doLine_141 hl (k := 3) rfl (by rw [ex3_5]; rfl) (by decide) rfl (fun ls hl => ?_)
      refine lv_goto (tgt := 116) hx hb dX9_doLine_144 (by decide) ?_
      exact ih _ _ _ _ _ _ hP hS (lv_sub hl [1, 2, 3, 0] rfl) h
def q_X9_doLine_203 (a1 : Int32) (k : St → Prop) (e_164 : St → Int32 → Int32 → Prop) (S : St) (x2 : Int32) (x3 : Int32) (t0 : Int32) (t1 : Int32) (t2 : Int32) : Prop := vp_in t2 20 ∧ (∀ S_2 : St, S_2 = sI S 3 t2.toNatClampNeg (t1 - t0) → (∀ x3_3 : Int32, x3_3 = x3 + (nI 1) → (e_164 S_2 x2 x3_3)))
set_option maxRecDepth 100000 in
set_option maxHeartbeats 4000000 in
theorem b_X9_doLine_203 {p : Program} {l : Launch} {e : Env} {s : State} {m : MethodId} {args : Array Value} {below : List Frame} {meth : Method} {c : Code} {Z : ZT} (hi : injZ 10 Z) (C : Cxt (gM Z) p s m meth c args yX9_doLine cX9_doLine 4 none) {a1 : Int32} {k : St → Prop} {e_164 : St → Int32 → Int32 → Prop}  (he_164 : ∀ (S : St) (x2 : Int32) (x3 : Int32) (H : Heap) (locs : List Loc) (ls : Array Slot), va_P Z.1 vwCl (wl shM 10 Z S) H → va_S (aa 10 Z) s.heap H locs → lv_has ls 4 [(0, .ref (Z.2.2.1 0)), (1, .int a1), (2, .int x2), (3, .int x3)] → e_164 S x2 x3 → W p l e (rmk 2 47) s m args below meth c H locs 0 0 (Qv below shM 10 Z args s k) (F0 m 164 ls [])) (S : St) (x2 : Int32) (x3 : Int32) (t0 : Int32) (t1 : Int32) (t2 : Int32) (H : Heap) (locs : List Loc) (ls : Array Slot) (hP : va_P Z.1 vwCl (wl shM 10 Z S) H) (hS : va_S (aa 10 Z) s.heap H locs) (hl : lv_has ls 4 [(0, .ref (Z.2.2.1 0)), (1, .int a1), (2, .int x2), (3, .int x3)]) (h : q_X9_doLine_203 a1 k e_164 S x2 x3 t0 t1 t2) : W p l e (rmk 2 47) s m args below meth c H locs 0 0 (Qv below shM 10 Z args s k) (F0 m 203 ls [.int t0, .int t1, .int t2, .ref (Z.2.2.1 3)]) := by
  have g := gokM hi
  have hx := C.1.1
  have hb := C.1.2.1
  unfold q_X9_doLine_203 at h
  refine lv_isub hx hb dX9_doLine_203 ?_
  have hv_1 := h.1
  have h := h.2
  refine s_stI g C hP hS 3 (by decide) rfl hv_1 dX9_doLine_204 (fun H locs hP hS => ?_)
  obtain ⟨S_2, eS_2⟩ : ∃ z_ : St, z_ = sI S 3 t2.toNatClampNeg (t1 - t0) := ⟨_, rfl⟩
  rw [← eS_2] at hP
  have h := h S_2 eS_2
  obtain ⟨x3_3, ex3_3⟩ : ∃ y_ : Int32, y_ = x3 + (nI 1) := ⟨_, rfl⟩
  have h := h x3_3 ex3_3
  refine lv_iinc (v := x3_3) (lv' := [(3, .int x3_3), (0, .ref (Z.2.2.1 0)), (1, .int a1), (2, .int x2)]) hx hb dX9_doLine_205 hl (k := 3) rfl (by rw [ex3_3]; rfl) (by decide) rfl (fun ls hl => ?_)
  refine lv_goto (tgt := 164) hx hb dX9_doLine_208 (by decide) ?_
  exact he_164 _ _ _ _ _ _ hP hS (lv_sub hl [1, 2, 3, 0] rfl) h
def q_X9_doLine_198 (a1 : Int32) (k : St → Prop) (e_164 : St → Int32 → Int32 → Prop) (S : St) (x2 : Int32) (x3 : Int32) (t0 : Int32) (t1 : Int32) : Prop := q_X9_doLine_203 a1 k e_164 S x2 x3 (nI 1) t0 t1
set_option maxRecDepth 100000 in
set_option maxHeartbeats 4000000 in
theorem b_X9_doLine_198 {p : Program} {l : Launch} {e : Env} {s : State} {m : MethodId} {args : Array Value} {below : List Frame} {meth : Method} {c : Code} {Z : ZT} (hi : injZ 10 Z) (C : Cxt (gM Z) p s m meth c args yX9_doLine cX9_doLine 4 none) {a1 : Int32} {k : St → Prop} {e_164 : St → Int32 → Int32 → Prop}  (he_164 : ∀ (S : St) (x2 : Int32) (x3 : Int32) (H : Heap) (locs : List Loc) (ls : Array Slot), va_P Z.1 vwCl (wl shM 10 Z S) H → va_S (aa 10 Z) s.heap H locs → lv_has ls 4 [(0, .ref (Z.2.2.1 0)), (1, .int a1), (2, .int x2), (3, .int x3)] → e_164 S x2 x3 → W p l e (rmk 2 47) s m args below meth c H locs 0 0 (Qv below shM 10 Z args s k) (F0 m 164 ls [])) (S : St) (x2 : Int32) (x3 : Int32) (t0 : Int32) (t1 : Int32) (H : Heap) (locs : List Loc) (ls : Array Slot) (hP : va_P Z.1 vwCl (wl shM 10 Z S) H) (hS : va_S (aa 10 Z) s.heap H locs) (hl : lv_has ls 4 [(0, .ref (Z.2.2.1 0)), (1, .int a1), (2, .int x2), (3, .int x3)]) (h : q_X9_doLine_198 a1 k e_164 S x2 x3 t0 t1) : W p l e (rmk 2 47) s m args below meth c H locs 0 0 (Qv below shM 10 Z args s k) (F0 m 198 ls [.int t0, .int t1, .ref (Z.2.2.1 3)]) := by
  have g := gokM hi
  have hx := C.1.1
  have hb := C.1.2.1
  unfold q_X9_doLine_198 at h
  refine lv_iconst (v := (nI 1)) hx hb dX9_doLine_198 (by decide) ?_
  refine lv_goto (tgt := 203) hx hb dX9_doLine_199 (by decide) ?_
  exact b_X9_doLine_203 hi C he_164 _ _ _ _ _ _ _ _ _ hP hS (lv_sub hl [0, 1, 2, 3] rfl) h
def q_X9_doLine_164 (a1 : Int32) (k : St → Prop) : Nat → St → Int32 → Int32 → Prop := fun n_ => Nat.rec (motive := fun _ => St → Int32 → Int32 → Prop) (fun _ _ _ => False) (fun _ ih => fun S x2 x3 => ((nI 5) ≤ x3 → (k S)) ∧ (¬ (nI 5) ≤ x3 → (vp_in ((a1 + (nI 2)) + x3) 70 ∧ ((x3 = (nI 2) → (q_X9_doLine_198 a1 k ih S x2 x3 (S.1 5 ((a1 + (nI 2)) + x3).toNatClampNeg) (((nI 5) * x2) + x3))) ∧ (¬ x3 = (nI 2) → ((x3 = (nI 3) → (q_X9_doLine_198 a1 k ih S x2 x3 (S.1 5 ((a1 + (nI 2)) + x3).toNatClampNeg) (((nI 5) * x2) + x3))) ∧ (¬ x3 = (nI 3) → (q_X9_doLine_203 a1 k ih S x2 x3 (nI 0) (S.1 5 ((a1 + (nI 2)) + x3).toNatClampNeg) (((nI 5) * x2) + x3))))))))) n_
theorem q_X9_doLine_164_s (a1 : Int32) (k : St → Prop) (n_ : Nat) (S : St) (x2 : Int32) (x3 : Int32) : q_X9_doLine_164 a1 k (n_ + 1) S x2 x3 = (((nI 5) ≤ x3 → (k S)) ∧ (¬ (nI 5) ≤ x3 → (vp_in ((a1 + (nI 2)) + x3) 70 ∧ ((x3 = (nI 2) → (q_X9_doLine_198 a1 k (q_X9_doLine_164 a1 k n_) S x2 x3 (S.1 5 ((a1 + (nI 2)) + x3).toNatClampNeg) (((nI 5) * x2) + x3))) ∧ (¬ x3 = (nI 2) → ((x3 = (nI 3) → (q_X9_doLine_198 a1 k (q_X9_doLine_164 a1 k n_) S x2 x3 (S.1 5 ((a1 + (nI 2)) + x3).toNatClampNeg) (((nI 5) * x2) + x3))) ∧ (¬ x3 = (nI 3) → (q_X9_doLine_203 a1 k (q_X9_doLine_164 a1 k n_) S x2 x3 (nI 0) (S.1 5 ((a1 + (nI 2)) + x3).toNatClampNeg) (((nI 5) * x2) + x3))))))))) := rfl
set_option maxRecDepth 100000 in
set_option maxHeartbeats 4000000 in
theorem b_X9_doLine_164 {p : Program} {l : Launch} {e : Env} {s : State} {m : MethodId} {args : Array Value} {below : List Frame} {meth : Method} {c : Code} {Z : ZT} (hi : injZ 10 Z) (C : Cxt (gM Z) p s m meth c args yX9_doLine cX9_doLine 4 none) {a1 : Int32} {k : St → Prop}   : ∀ (n_ : Nat) (S : St) (x2 : Int32) (x3 : Int32) (H : Heap) (locs : List Loc) (ls : Array Slot), va_P Z.1 vwCl (wl shM 10 Z S) H → va_S (aa 10 Z) s.heap H locs → lv_has ls 4 [(0, .ref (Z.2.2.1 0)), (1, .int a1), (2, .int x2), (3, .int x3)] → q_X9_doLine_164 a1 k n_ S x2 x3 → W p l e (rmk 2 47) s m args below meth c H locs 0 0 (Qv below shM 10 Z args s k) (F0 m 164 ls []) := by
  have g := gokM hi
  have hx := C.1.1
  have hb := C.1.2.1
  intro n_
  induction n_ with
  | zero => intro S x2 x3 H locs ls hP hS hl h; exact h.elim
  | succ n_ ih =>
    intro S x2 x3 H locs ls hP hS hl h
    rw [q_X9_doLine_164_s] at h
    refine lv_iload_n hx hb dX9_doLine_164 rfl (lv_at hl 3 rfl) ?_
    refine lv_iconst (v := (nI 5)) hx hb dX9_doLine_165 (by decide) ?_
    refine lv_icmp_ge (tgt := 211) hx hb dX9_doLine_166 (by decide) (fun c_1 => ?_) (fun c_1 => ?_)
    · have h := h.1 c_1
      refine lv_goto (tgt := 294) hx hb dX9_doLine_211 (by decide) ?_
      exact s_rv C hP hS h dX9_doLine_294
    · have h := h.2 c_1
      refine lv_aload_n hx hb dX9_doLine_169 rfl (lv_at hl 0 rfl) ?_
      refine s_gR g C hP 0 4 3 (by decide) rfl rfl cfX9 (by decide) kFL_X9_16 dX9_doLine_170 ?_
      refine lv_iconst (v := (nI 5)) hx hb dX9_doLine_173 (by decide) ?_
      refine lv_iload_n hx hb dX9_doLine_174 rfl (lv_at hl 2 rfl) ?_
      refine lv_imul hx hb dX9_doLine_175 ?_
      refine lv_iload_n hx hb dX9_doLine_176 rfl (lv_at hl 3 rfl) ?_
      refine lv_iadd hx hb dX9_doLine_177 ?_
      refine lv_aload_n hx hb dX9_doLine_178 rfl (lv_at hl 0 rfl) ?_
      refine s_gR g C hP 0 18 5 (by decide) rfl rfl cfX9 (by decide) kFL_X9_26 dX9_doLine_179 ?_
      refine lv_iload_n hx hb dX9_doLine_182 rfl (lv_at hl 1 rfl) ?_
      refine lv_iconst (v := (nI 2)) hx hb dX9_doLine_183 (by decide) ?_
      refine lv_iadd hx hb dX9_doLine_184 ?_
      refine lv_iload_n hx hb dX9_doLine_185 rfl (lv_at hl 3 rfl) ?_
      refine lv_iadd hx hb dX9_doLine_186 ?_
      have hv_2 := h.1
      have h := h.2
      refine s_aI g C hP 5 (by decide) rfl hv_2 dX9_doLine_187 ?_
      refine lv_iload_n hx hb dX9_doLine_188 rfl (lv_at hl 3 rfl) ?_
      refine lv_iconst (v := (nI 2)) hx hb dX9_doLine_189 (by decide) ?_
      refine lv_icmp_eq (tgt := 198) hx hb dX9_doLine_190 (by decide) (fun c_3 => ?_) (fun c_3 => ?_)
      · have h := h.1 c_3
        exact b_X9_doLine_198 hi C ih _ _ _ _ _ _ _ _ hP hS (lv_sub hl [0, 1, 2, 3] rfl) h
      · have h := h.2 c_3
        refine lv_iload_n hx hb dX9_doLine_193 rfl (lv_at hl 3 rfl) ?_
        refine lv_iconst (v := (nI 3)) hx hb dX9_doLine_194 (by decide) ?_
        refine lv_icmp_ne (tgt := 202) hx hb dX9_doLine_195 (by decide) (fun c_4 => ?_) (fun c_4 => ?_)
        · have h := h.2 c_4
          refine lv_iconst (v := (nI 0)) hx hb dX9_doLine_202 (by decide) ?_
          exact b_X9_doLine_203 hi C ih _ _ _ _ _ _ _ _ _ hP hS (lv_sub hl [0, 1, 2, 3] rfl) h
        · have h := h.1 c_4
          exact b_X9_doLine_198 hi C ih _ _ _ _ _ _ _ _ hP hS (lv_sub hl [0, 1, 2, 3] rfl) h
def q_X9_doLine_232 (a1 : Int32) (k : St → Prop) : Nat → St → Int32 → Prop := fun n_ => Nat.rec (motive := fun _ => St → Int32 → Prop) (fun _ _ => False) (fun _ ih => fun S x3 => vp_in (a1 + (nI 2)) 70 ∧ (((S.1 5 (a1 + (nI 2)).toNatClampNeg) < x3 → (k S)) ∧ (¬ (S.1 5 (a1 + (nI 2)).toNatClampNeg) < x3 → (∀ S_3 : St, S_3 = sI S 0 7 ((S.1 0 7) ||| ((nI 1) <<< (x3 &&& 31))) → (∀ x3_4 : Int32, x3_4 = x3 + (nI 1) → (ih S_3 x3_4)))))) n_
theorem q_X9_doLine_232_s (a1 : Int32) (k : St → Prop) (n_ : Nat) (S : St) (x3 : Int32) : q_X9_doLine_232 a1 k (n_ + 1) S x3 = (vp_in (a1 + (nI 2)) 70 ∧ (((S.1 5 (a1 + (nI 2)).toNatClampNeg) < x3 → (k S)) ∧ (¬ (S.1 5 (a1 + (nI 2)).toNatClampNeg) < x3 → (∀ S_3 : St, S_3 = sI S 0 7 ((S.1 0 7) ||| ((nI 1) <<< (x3 &&& 31))) → (∀ x3_4 : Int32, x3_4 = x3 + (nI 1) → ((q_X9_doLine_232 a1 k n_) S_3 x3_4)))))) := rfl
set_option maxRecDepth 100000 in
set_option maxHeartbeats 4000000 in
theorem b_X9_doLine_232 {p : Program} {l : Launch} {e : Env} {s : State} {m : MethodId} {args : Array Value} {below : List Frame} {meth : Method} {c : Code} {Z : ZT} (hi : injZ 10 Z) (C : Cxt (gM Z) p s m meth c args yX9_doLine cX9_doLine 4 none) {a1 : Int32} {k : St → Prop}   : ∀ (n_ : Nat) (S : St) (x3 : Int32) (H : Heap) (locs : List Loc) (ls : Array Slot), va_P Z.1 vwCl (wl shM 10 Z S) H → va_S (aa 10 Z) s.heap H locs → lv_has ls 4 [(0, .ref (Z.2.2.1 0)), (1, .int a1), (3, .int x3)] → q_X9_doLine_232 a1 k n_ S x3 → W p l e (rmk 2 47) s m args below meth c H locs 0 0 (Qv below shM 10 Z args s k) (F0 m 232 ls []) := by
  have g := gokM hi
  have hx := C.1.1
  have hb := C.1.2.1
  intro n_
  induction n_ with
  | zero => intro S x3 H locs ls hP hS hl h; exact h.elim
  | succ n_ ih =>
    intro S x3 H locs ls hP hS hl h
    rw [q_X9_doLine_232_s] at h
    refine lv_iload_n hx hb dX9_doLine_232 rfl (lv_at hl 2 rfl) ?_
    refine lv_aload_n hx hb dX9_doLine_233 rfl (lv_at hl 0 rfl) ?_
    refine s_gR g C hP 0 18 5 (by decide) rfl rfl cfX9 (by decide) kFL_X9_26 dX9_doLine_234 ?_
    refine lv_iload_n hx hb dX9_doLine_237 rfl (lv_at hl 1 rfl) ?_
    refine lv_iconst (v := (nI 2)) hx hb dX9_doLine_238 (by decide) ?_
    refine lv_iadd hx hb dX9_doLine_239 ?_
    have hv_1 := h.1
    have h := h.2
    refine s_aI g C hP 5 (by decide) rfl hv_1 dX9_doLine_240 ?_
    refine lv_icmp_gt (tgt := 262) hx hb dX9_doLine_241 (by decide) (fun c_2 => ?_) (fun c_2 => ?_)
    · have h := h.1 c_2
      refine lv_goto (tgt := 294) hx hb dX9_doLine_262 (by decide) ?_
      exact s_rv C hP hS h dX9_doLine_294
    · have h := h.2 c_2
      refine lv_aload_n hx hb dX9_doLine_244 rfl (lv_at hl 0 rfl) ?_
      refine lv_aload_n hx hb dX9_doLine_245 rfl (lv_at hl 0 rfl) ?_
      refine s_gI g C hP 0 7 (by decide) rfl rfl cfX9 (by decide) kFL_X9_143 dX9_doLine_246 ?_
      refine lv_iconst (v := (nI 1)) hx hb dX9_doLine_249 (by decide) ?_
      refine lv_iload_n hx hb dX9_doLine_250 rfl (lv_at hl 2 rfl) ?_
      refine lv_ishl hx hb dX9_doLine_251 ?_
      refine lv_ior hx hb dX9_doLine_252 ?_
      refine s_pI g C hP hS 0 7 (by decide) rfl rfl cfX9 (by decide) rfl rfl rfl kFL_X9_143 dX9_doLine_253 (fun H locs hP hS => ?_)
      obtain ⟨S_3, eS_3⟩ : ∃ z_ : St, z_ = sI S 0 7 ((S.1 0 7) ||| ((nI 1) <<< (x3 &&& 31))) := ⟨_, rfl⟩
      rw [← eS_3] at hP
      have h := h S_3 eS_3
      obtain ⟨x3_4, ex3_4⟩ : ∃ y_ : Int32, y_ = x3 + (nI 1) := ⟨_, rfl⟩
      have h := h x3_4 ex3_4
      refine lv_iinc (v := x3_4) (lv' := [(3, .int x3_4), (0, .ref (Z.2.2.1 0)), (1, .int a1)]) hx hb dX9_doLine_256 hl (k := 2) rfl (by rw [ex3_4]; rfl) (by decide) rfl (fun ls hl => ?_)
      refine lv_goto (tgt := 232) hx hb dX9_doLine_259 (by decide) ?_
      exact ih _ _ _ _ _ hP hS (lv_sub hl [1, 2, 0] rfl) h
def q_X9_doLine (S : St) (a1 : Int32) (k : St → Prop) : Prop := vp_in (a1 + (nI 1)) 70 ∧ (∀ x2_2 : Int32, x2_2 = (S.1 5 (a1 + (nI 1)).toNatClampNeg) → (vp_in a1 70 ∧ (∀ sw_4 : Int32, sw_4 = (S.1 5 a1.toNatClampNeg) → ((sw_4 = (nI 0) → (vp_in (a1 + (nI 2)) 70 ∧ (vp_in (a1 + (nI 3)) 70 ∧ (vp_in (a1 + (nI 4)) 70 ∧ (vp_in (a1 + (nI 5)) 70 ∧ (q_X9_putWind S x2_2 (S.1 5 (a1 + (nI 2)).toNatClampNeg) (S.1 5 (a1 + (nI 3)).toNatClampNeg) (S.1 5 (a1 + (nI 4)).toNatClampNeg) ((S.1 5 (a1 + (nI 5)).toNatClampNeg) - (nI 3)) (fun S_10 => (k S_10)))))))) ∧ (¬ sw_4 = (nI 0) → ((sw_4 = (nI 1) → (∀ S_12 : St, S_12 = sI S 0 1 ((S.1 0 1) ||| ((nI 1) <<< (x2_2 &&& 31))) → (∃ f_116, q_X9_doLine_116 a1 k f_116 S_12 x2_2 (nI 0)))) ∧ (¬ sw_4 = (nI 1) → ((sw_4 = (nI 2) → (∀ S_14 : St, S_14 = sI S 0 3 ((S.1 0 3) ||| ((nI 1) <<< (x2_2 &&& 31))) → (∃ f_164, q_X9_doLine_164 a1 k f_164 S_14 x2_2 (nI 0)))) ∧ (¬ sw_4 = (nI 2) → ((sw_4 = (nI 3) → (∀ S_16 : St, S_16 = sI S 0 5 x2_2 → (k S_16))) ∧ (¬ sw_4 = (nI 3) → ((sw_4 = (nI 4) → (∀ S_18 : St, S_18 = sI S 0 6 x2_2 → (k S_18))) ∧ (¬ sw_4 = (nI 4) → ((sw_4 = (nI 5) → (∃ f_232, q_X9_doLine_232 a1 k f_232 S x2_2)) ∧ (¬ sw_4 = (nI 5) → ((sw_4 = (nI 6) → (∀ S_21 : St, S_21 = sI S 0 8 x2_2 → (k S_21))) ∧ (¬ sw_4 = (nI 6) → ((sw_4 = (nI 7) → (q_X9_calm S (fun S_23 => (k S_23)))) ∧ (¬ sw_4 = (nI 7) → (∀ S_24 : St, S_24 = sI S 0 1 ((S.1 0 1) &&& (((nI 1) <<< (x2_2 &&& 31)) ^^^ (-1 : Int32))) → (k S_24)))))))))))))))))))))
set_option maxRecDepth 100000 in
set_option maxHeartbeats 4000000 in
theorem c_X9_doLine {l : Launch} {Z : ZT} (hi : injZ 10 Z) (S : St) (a1 : Int32) (k : St → Prop) (h : q_X9_doLine S a1 k) : Mv l shM 10 Z (gM Z) yX9_doLine cX9_doLine 4 none (rmk 2 47) [.ref (Z.2.2.1 0), .int a1] S k := by
  have g := gokM hi
  refine e_v (by decide) (Nat.le_of_ble_eq_true rfl) (lv := [(0, .ref (Z.2.2.1 0)), (1, .int a1)]) rfl (fun p e s m args below meth c C hP hS ls hl => ?_)
  have hx := C.1.1
  have hb := C.1.2.1
  unfold q_X9_doLine at h
  refine lv_aload_n hx hb dX9_doLine_0 rfl (lv_at hl 0 rfl) ?_
  refine s_gR g C hP 0 18 5 (by decide) rfl rfl cfX9 (by decide) kFL_X9_26 dX9_doLine_1 ?_
  refine lv_iload_n hx hb dX9_doLine_4 rfl (lv_at hl 1 rfl) ?_
  refine lv_iconst (v := (nI 1)) hx hb dX9_doLine_5 (by decide) ?_
  refine lv_iadd hx hb dX9_doLine_6 ?_
  have hv_1 := h.1
  have h := h.2
  refine s_aI g C hP 5 (by decide) rfl hv_1 dX9_doLine_7 ?_
  refine lv_topi (fun x2_2 ex2_2 => ?_)
  have h := h x2_2 ex2_2
  refine lv_istore_n (lv' := [(2, .int x2_2), (0, .ref (Z.2.2.1 0)), (1, .int a1)]) hx hb dX9_doLine_8 rfl hl (by decide) rfl (fun ls hl => ?_)
  refine lv_aload_n hx hb dX9_doLine_9 rfl (lv_at hl 1 rfl) ?_
  refine s_gR g C hP 0 18 5 (by decide) rfl rfl cfX9 (by decide) kFL_X9_26 dX9_doLine_10 ?_
  refine lv_iload_n hx hb dX9_doLine_13 rfl (lv_at hl 2 rfl) ?_
  have hv_3 := h.1
  have h := h.2
  refine s_aI g C hP 5 (by decide) rfl hv_3 dX9_doLine_14 ?_
  refine lv_topi (fun sw_4 esw_4 => ?_)
  have h := h sw_4 esw_4
  by_cases c_5 : sw_4 = (nI 0)
  · have h := h.1 c_5
    rw [c_5]
    refine lv_tableIn (tgt := 60) hx hb dX9_doLine_15 (by decide) (by decide) rfl (by decide) ?_
    refine lv_aload_n hx hb dX9_doLine_60 rfl (lv_at hl 1 rfl) ?_
    refine lv_iload_n hx hb dX9_doLine_61 rfl (lv_at hl 0 rfl) ?_
    refine lv_aload_n hx hb dX9_doLine_62 rfl (lv_at hl 1 rfl) ?_
    refine s_gR g C hP 0 18 5 (by decide) rfl rfl cfX9 (by decide) kFL_X9_26 dX9_doLine_63 ?_
    refine lv_iload_n hx hb dX9_doLine_66 rfl (lv_at hl 2 rfl) ?_
    refine lv_iconst (v := (nI 2)) hx hb dX9_doLine_67 (by decide) ?_
    refine lv_iadd hx hb dX9_doLine_68 ?_
    have hv_6 := h.1
    have h := h.2
    refine s_aI g C hP 5 (by decide) rfl hv_6 dX9_doLine_69 ?_
    refine lv_aload_n hx hb dX9_doLine_70 rfl (lv_at hl 1 rfl) ?_
    refine s_gR g C hP 0 18 5 (by decide) rfl rfl cfX9 (by decide) kFL_X9_26 dX9_doLine_71 ?_
    refine lv_iload_n hx hb dX9_doLine_74 rfl (lv_at hl 2 rfl) ?_
    refine lv_iconst (v := (nI 3)) hx hb dX9_doLine_75 (by decide) ?_
    refine lv_iadd hx hb dX9_doLine_76 ?_
    have hv_7 := h.1
    have h := h.2
    refine s_aI g C hP 5 (by decide) rfl hv_7 dX9_doLine_77 ?_
    refine lv_aload_n hx hb dX9_doLine_78 rfl (lv_at hl 1 rfl) ?_
    refine s_gR g C hP 0 18 5 (by decide) rfl rfl cfX9 (by decide) kFL_X9_26 dX9_doLine_79 ?_
    refine lv_iload_n hx hb dX9_doLine_82 rfl (lv_at hl 2 rfl) ?_
    refine lv_iconst (v := (nI 4)) hx hb dX9_doLine_83 (by decide) ?_
    refine lv_iadd hx hb dX9_doLine_84 ?_
    have hv_8 := h.1
    have h := h.2
    refine s_aI g C hP 5 (by decide) rfl hv_8 dX9_doLine_85 ?_
    refine lv_aload_n hx hb dX9_doLine_86 rfl (lv_at hl 1 rfl) ?_
    refine s_gR g C hP 0 18 5 (by decide) rfl rfl cfX9 (by decide) kFL_X9_26 dX9_doLine_87 ?_
    refine lv_iload_n hx hb dX9_doLine_90 rfl (lv_at hl 2 rfl) ?_
    refine lv_iconst (v := (nI 5)) hx hb dX9_doLine_91 (by decide) ?_
    refine lv_iadd hx hb dX9_doLine_92 ?_
    have hv_9 := h.1
    have h := h.2
    refine s_aI g C hP 5 (by decide) rfl hv_9 dX9_doLine_93 ?_
    refine lv_iconst (v := (nI 3)) hx hb dX9_doLine_94 (by decide) ?_
    refine lv_isub hx hb dX9_doLine_95 ?_
    refine go_v (run_V g C hP hS (c0 := 0) (As := [.int x2_2, .int (S.1 5 (a1 + (nI 2)).toNatClampNeg), .int (S.1 5 (a1 + (nI 3)).toNatClampNeg), .int (S.1 5 (a1 + (nI 4)).toNatClampNeg), .int ((S.1 5 (a1 + (nI 5)).toNatClampNeg) - (nI 3))]) (rest := []) (c_X9_putWind hi S x2_2 (S.1 5 (a1 + (nI 2)).toNatClampNeg) (S.1 5 (a1 + (nI 3)).toNatClampNeg) (S.1 5 (a1 + (nI 4)).toNatClampNeg) ((S.1 5 (a1 + (nI 5)).toNatClampNeg) - (nI 3)) _ h) cal_X9_putWind kML_X9_139 (by decide) rfl cfX9 ⟨rfl, rfl, Nat.le_of_ble_eq_true rfl, Nat.le_of_ble_eq_true rfl⟩ rfl rfl hl.1 (Nat.le_of_ble_eq_true rfl) dX9_doLine_96) hS (fun S_10 H locs h hP hS => ?_)
    refine lv_goto (tgt := 294) hx hb dX9_doLine_99 (by decide) ?_
    exact s_rv C hP hS h dX9_doLine_294
  · have h := h.2 c_5
    by_cases c_11 : sw_4 = (nI 1)
    · have h := h.1 c_11
      rw [c_11]
      refine lv_tableIn (tgt := 102) hx hb dX9_doLine_15 (by decide) (by decide) rfl (by decide) ?_
      refine lv_aload_n hx hb dX9_doLine_102 rfl (lv_at hl 1 rfl) ?_
      refine lv_aload_n hx hb dX9_doLine_103 rfl (lv_at hl 1 rfl) ?_
      refine s_gI g C hP 0 1 (by decide) rfl rfl cfX9 (by decide) kFL_X9_49 dX9_doLine_104 ?_
      refine lv_iconst (v := (nI 1)) hx hb dX9_doLine_107 (by decide) ?_
      refine lv_iload_n hx hb dX9_doLine_108 rfl (lv_at hl 0 rfl) ?_
      refine lv_ishl hx hb dX9_doLine_109 ?_
      refine lv_ior hx hb dX9_doLine_110 ?_
      refine s_pI g C hP hS 0 1 (by decide) rfl rfl cfX9 (by decide) rfl rfl rfl kFL_X9_49 dX9_doLine_111 (fun H locs hP hS => ?_)
      obtain ⟨S_12, eS_12⟩ : ∃ z_ : St, z_ = sI S 0 1 ((S.1 0 1) ||| ((nI 1) <<< (x2_2 &&& 31))) := ⟨_, rfl⟩
      rw [← eS_12] at hP
      have h := h S_12 eS_12
      refine lv_iconst (v := (nI 0)) hx hb dX9_doLine_114 (by decide) ?_
      refine lv_istore_n (lv' := [(3, .int (nI 0)), (2, .int x2_2), (0, .ref (Z.2.2.1 0)), (1, .int a1)]) hx hb dX9_doLine_115 rfl hl (by decide) rfl (fun ls hl => ?_)
      obtain ⟨f_116, h⟩ := h
      exact b_X9_doLine_116 hi C  f_116 _ _ _ _ _ _ hP hS (lv_sub hl [2, 3, 1, 0] rfl) h
    · have h := h.2 c_11
      by_cases c_13 : sw_4 = (nI 2)
      · have h := h.1 c_13
        rw [c_13]
        refine lv_tableIn (tgt := 150) hx hb dX9_doLine_15 (by decide) (by decide) rfl (by decide) ?_
        refine lv_aload_n hx hb dX9_doLine_150 rfl (lv_at hl 1 rfl) ?_
        refine lv_aload_n hx hb dX9_doLine_151 rfl (lv_at hl 1 rfl) ?_
        refine s_gI g C hP 0 3 (by decide) rfl rfl cfX9 (by decide) kFL_X9_149 dX9_doLine_152 ?_
        refine lv_iconst (v := (nI 1)) hx hb dX9_doLine_155 (by decide) ?_
        refine lv_iload_n hx hb dX9_doLine_156 rfl (lv_at hl 0 rfl) ?_
        refine lv_ishl hx hb dX9_doLine_157 ?_
        refine lv_ior hx hb dX9_doLine_158 ?_
        refine s_pI g C hP hS 0 3 (by decide) rfl rfl cfX9 (by decide) rfl rfl rfl kFL_X9_149 dX9_doLine_159 (fun H locs hP hS => ?_)
        obtain ⟨S_14, eS_14⟩ : ∃ z_ : St, z_ = sI S 0 3 ((S.1 0 3) ||| ((nI 1) <<< (x2_2 &&& 31))) := ⟨_, rfl⟩
        rw [← eS_14] at hP
        have h := h S_14 eS_14
        refine lv_iconst (v := (nI 0)) hx hb dX9_doLine_162 (by decide) ?_
        refine lv_istore_n (lv' := [(3, .int (nI 0)), (2, .int x2_2), (0, .ref (Z.2.2.1 0)), (1, .int a1)]) hx hb dX9_doLine_163 rfl hl (by decide) rfl (fun ls hl => ?_)
        obtain ⟨f_164, h⟩ := h
        exact b_X9_doLine_164 hi C  f_164 _ _ _ _ _ _ hP hS (lv_sub hl [2, 3, 1, 0] rfl) h
      · have h := h.2 c_13
        by_cases c_15 : sw_4 = (nI 3)
        · have h := h.1 c_15
          rw [c_15]
          refine lv_tableIn (tgt := 214) hx hb dX9_doLine_15 (by decide) (by decide) rfl (by decide) ?_
          refine lv_aload_n hx hb dX9_doLine_214 rfl (lv_at hl 1 rfl) ?_
          refine lv_iload_n hx hb dX9_doLine_215 rfl (lv_at hl 0 rfl) ?_
          refine s_pI g C hP hS 0 5 (by decide) rfl rfl cfX9 (by decide) rfl rfl rfl kFL_X9_152 dX9_doLine_216 (fun H locs hP hS => ?_)
          obtain ⟨S_16, eS_16⟩ : ∃ z_ : St, z_ = sI S 0 5 x2_2 := ⟨_, rfl⟩
          rw [← eS_16] at hP
          have h := h S_16 eS_16
          refine lv_goto (tgt := 294) hx hb dX9_doLine_219 (by decide) ?_
          exact s_rv C hP hS h dX9_doLine_294
        · have h := h.2 c_15
          by_cases c_17 : sw_4 = (nI 4)
          · have h := h.1 c_17
            rw [c_17]
            refine lv_tableIn (tgt := 222) hx hb dX9_doLine_15 (by decide) (by decide) rfl (by decide) ?_
            refine lv_aload_n hx hb dX9_doLine_222 rfl (lv_at hl 1 rfl) ?_
            refine lv_iload_n hx hb dX9_doLine_223 rfl (lv_at hl 0 rfl) ?_
            refine s_pI g C hP hS 0 6 (by decide) rfl rfl cfX9 (by decide) rfl rfl rfl kFL_X9_19 dX9_doLine_224 (fun H locs hP hS => ?_)
            obtain ⟨S_18, eS_18⟩ : ∃ z_ : St, z_ = sI S 0 6 x2_2 := ⟨_, rfl⟩
            rw [← eS_18] at hP
            have h := h S_18 eS_18
            refine lv_goto (tgt := 294) hx hb dX9_doLine_227 (by decide) ?_
            exact s_rv C hP hS h dX9_doLine_294
          · have h := h.2 c_17
            by_cases c_19 : sw_4 = (nI 5)
            · have h := h.1 c_19
              rw [c_19]
              refine lv_tableIn (tgt := 230) hx hb dX9_doLine_15 (by decide) (by decide) rfl (by decide) ?_
              refine lv_iload_n hx hb dX9_doLine_230 rfl (lv_at hl 0 rfl) ?_
              refine lv_istore_n (lv' := [(3, .int x2_2), (2, .int x2_2), (0, .ref (Z.2.2.1 0)), (1, .int a1)]) hx hb dX9_doLine_231 rfl hl (by decide) rfl (fun ls hl => ?_)
              obtain ⟨f_232, h⟩ := h
              exact b_X9_doLine_232 hi C  f_232 _ _ _ _ _ hP hS (lv_sub hl [2, 3, 0] rfl) h
            · have h := h.2 c_19
              by_cases c_20 : sw_4 = (nI 6)
              · have h := h.1 c_20
                rw [c_20]
                refine lv_tableIn (tgt := 265) hx hb dX9_doLine_15 (by decide) (by decide) rfl (by decide) ?_
                refine lv_aload_n hx hb dX9_doLine_265 rfl (lv_at hl 1 rfl) ?_
                refine lv_iload_n hx hb dX9_doLine_266 rfl (lv_at hl 0 rfl) ?_
                refine s_pI g C hP hS 0 8 (by decide) rfl rfl cfX9 (by decide) rfl rfl rfl kFL_X9_146 dX9_doLine_267 (fun H locs hP hS => ?_)
                obtain ⟨S_21, eS_21⟩ : ∃ z_ : St, z_ = sI S 0 8 x2_2 := ⟨_, rfl⟩
                rw [← eS_21] at hP
                have h := h S_21 eS_21
                refine lv_goto (tgt := 294) hx hb dX9_doLine_270 (by decide) ?_
                exact s_rv C hP hS h dX9_doLine_294
              · have h := h.2 c_20
                by_cases c_22 : sw_4 = (nI 7)
                · have h := h.1 c_22
                  rw [c_22]
                  refine lv_tableIn (tgt := 273) hx hb dX9_doLine_15 (by decide) (by decide) rfl (by decide) ?_
                  refine lv_aload_n hx hb dX9_doLine_273 rfl (lv_at hl 1 rfl) ?_
                  refine go_v (run_V g C hP hS (c0 := 0) (As := []) (rest := []) (c_X9_calm hi S _ h) cal_X9_calm kML_X9_155 (by decide) rfl cfX9 ⟨rfl, rfl, Nat.le_of_ble_eq_true rfl, Nat.le_of_ble_eq_true rfl⟩ rfl rfl hl.1 (Nat.le_of_ble_eq_true rfl) dX9_doLine_274) hS (fun S_23 H locs h hP hS => ?_)
                  refine lv_goto (tgt := 294) hx hb dX9_doLine_277 (by decide) ?_
                  exact s_rv C hP hS h dX9_doLine_294
                · have h := h.2 c_22
                  have c_5_ := tIne c_5 (z := 0) (by decide)
                  have c_11_ := tIne c_11 (z := 1) (by decide)
                  have c_13_ := tIne c_13 (z := 2) (by decide)
                  have c_15_ := tIne c_15 (z := 3) (by decide)
                  have c_17_ := tIne c_17 (z := 4) (by decide)
                  have c_19_ := tIne c_19 (z := 5) (by decide)
                  have c_20_ := tIne c_20 (z := 6) (by decide)
                  have c_22_ := tIne c_22 (z := 7) (by decide)
                  refine lv_tableOut (tgt := 280) hx hb dX9_doLine_15 (by omega) (by decide) ?_
                  refine lv_aload_n hx hb dX9_doLine_280 rfl (lv_at hl 1 rfl) ?_
                  refine lv_aload_n hx hb dX9_doLine_281 rfl (lv_at hl 1 rfl) ?_
                  refine s_gI g C hP 0 1 (by decide) rfl rfl cfX9 (by decide) kFL_X9_49 dX9_doLine_282 ?_
                  refine lv_iconst (v := (nI 1)) hx hb dX9_doLine_285 (by decide) ?_
                  refine lv_iload_n hx hb dX9_doLine_286 rfl (lv_at hl 0 rfl) ?_
                  refine lv_ishl hx hb dX9_doLine_287 ?_
                  refine lv_iconst (v := (-1 : Int32)) hx hb dX9_doLine_288 (by decide) ?_
                  refine lv_ixor hx hb dX9_doLine_289 ?_
                  refine lv_iand hx hb dX9_doLine_290 ?_
                  refine s_pI g C hP hS 0 1 (by decide) rfl rfl cfX9 (by decide) rfl rfl rfl kFL_X9_49 dX9_doLine_291 (fun H locs hP hS => ?_)
                  obtain ⟨S_24, eS_24⟩ : ∃ z_ : St, z_ = sI S 0 1 ((S.1 0 1) &&& (((nI 1) <<< (x2_2 &&& 31)) ^^^ (-1 : Int32))) := ⟨_, rfl⟩
                  rw [← eS_24] at hP
                  have h := h S_24 eS_24
                  exact s_rv C hP hS h dX9_doLine_294
def q_X9_anew_44 (k : St → Prop) : Nat → St → Int32 → Prop := fun n_ => Nat.rec (motive := fun _ => St → Int32 → Prop) (fun _ _ => False) (fun _ ih => fun S x1 => ((nI 4) ≤ x1 → (k S)) ∧ (¬ (nI 4) ≤ x1 → (vp_in ((nI 5) * x1) 20 ∧ (vp_in ((nI 31) + x1) 1197 ∧ (∀ S_4 : St, S_4 = sI S 6 ((nI 31) + x1).toNatClampNeg (S.1 3 ((nI 5) * x1).toNatClampNeg) → (vp_in (((nI 5) * x1) + (nI 1)) 20 ∧ (vp_in ((nI 35) + x1) 1197 ∧ (∀ S_7 : St, S_7 = sI S_4 6 ((nI 35) + x1).toNatClampNeg (S_4.1 3 (((nI 5) * x1) + (nI 1)).toNatClampNeg) → (vp_in (((nI 5) * x1) + (nI 4)) 20 ∧ (vp_in ((nI 39) + x1) 1197 ∧ (∀ S_10 : St, S_10 = sI S_7 6 ((nI 39) + x1).toNatClampNeg (S_7.1 3 (((nI 5) * x1) + (nI 4)).toNatClampNeg) → (∀ x1_11 : Int32, x1_11 = x1 + (nI 1) → (ih S_10 x1_11))))))))))))) n_
theorem q_X9_anew_44_s (k : St → Prop) (n_ : Nat) (S : St) (x1 : Int32) : q_X9_anew_44 k (n_ + 1) S x1 = (((nI 4) ≤ x1 → (k S)) ∧ (¬ (nI 4) ≤ x1 → (vp_in ((nI 5) * x1) 20 ∧ (vp_in ((nI 31) + x1) 1197 ∧ (∀ S_4 : St, S_4 = sI S 6 ((nI 31) + x1).toNatClampNeg (S.1 3 ((nI 5) * x1).toNatClampNeg) → (vp_in (((nI 5) * x1) + (nI 1)) 20 ∧ (vp_in ((nI 35) + x1) 1197 ∧ (∀ S_7 : St, S_7 = sI S_4 6 ((nI 35) + x1).toNatClampNeg (S_4.1 3 (((nI 5) * x1) + (nI 1)).toNatClampNeg) → (vp_in (((nI 5) * x1) + (nI 4)) 20 ∧ (vp_in ((nI 39) + x1) 1197 ∧ (∀ S_10 : St, S_10 = sI S_7 6 ((nI 39) + x1).toNatClampNeg (S_7.1 3 (((nI 5) * x1) + (nI 4)).toNatClampNeg) → (∀ x1_11 : Int32, x1_11 = x1 + (nI 1) → ((q_X9_anew_44 k n_) S_10 x1_11))))))))))))) := rfl
set_option maxRecDepth 100000 in
set_option maxHeartbeats 4000000 in
theorem b_X9_anew_44 {p : Program} {l : Launch} {e : Env} {s : State} {m : MethodId} {args : Array Value} {below : List Frame} {meth : Method} {c : Code} {Z : ZT} (hi : injZ 10 Z) (C : Cxt (gM Z) p s m meth c args yX9_anew cX9_anew 2 none) {k : St → Prop}   : ∀ (n_ : Nat) (S : St) (x1 : Int32) (H : Heap) (locs : List Loc) (ls : Array Slot), va_P Z.1 vwCl (wl shM 10 Z S) H → va_S (aa 10 Z) s.heap H locs → lv_has ls 2 [(0, .ref (Z.2.2.1 0)), (1, .int x1)] → q_X9_anew_44 k n_ S x1 → W p l e (rmk 1 22) s m args below meth c H locs 0 0 (Qv below shM 10 Z args s k) (F0 m 44 ls []) := by
  have g := gokM hi
  have hx := C.1.1
  have hb := C.1.2.1
  intro n_
  induction n_ with
  | zero => intro S x1 H locs ls hP hS hl h; exact h.elim
  | succ n_ ih =>
    intro S x1 H locs ls hP hS hl h
    rw [q_X9_anew_44_s] at h
    refine lv_iload_n hx hb dX9_anew_44 rfl (lv_at hl 1 rfl) ?_
    refine lv_iconst (v := (nI 4)) hx hb dX9_anew_45 (by decide) ?_
    refine lv_icmp_ge (tgt := 110) hx hb dX9_anew_46 (by decide) (fun c_1 => ?_) (fun c_1 => ?_)
    · have h := h.1 c_1
      exact s_rv C hP hS h dX9_anew_110
    · have h := h.2 c_1
      refine lv_aload_n hx hb dX9_anew_49 rfl (lv_at hl 0 rfl) ?_
      refine s_gR g C hP 0 19 6 (by decide) rfl rfl cfX9 (by decide) kFL_X9_29 dX9_anew_50 ?_
      refine lv_bipush (v := (nI 31)) hx hb dX9_anew_53 (by decide) ?_
      refine lv_iload_n hx hb dX9_anew_55 rfl (lv_at hl 1 rfl) ?_
      refine lv_iadd hx hb dX9_anew_56 ?_
      refine lv_aload_n hx hb dX9_anew_57 rfl (lv_at hl 0 rfl) ?_
      refine s_gR g C hP 0 4 3 (by decide) rfl rfl cfX9 (by decide) kFL_X9_16 dX9_anew_58 ?_
      refine lv_iconst (v := (nI 5)) hx hb dX9_anew_61 (by decide) ?_
      refine lv_iload_n hx hb dX9_anew_62 rfl (lv_at hl 1 rfl) ?_
      refine lv_imul hx hb dX9_anew_63 ?_
      have hv_2 := h.1
      have h := h.2
      refine s_aI g C hP 3 (by decide) rfl hv_2 dX9_anew_64 ?_
      have hv_3 := h.1
      have h := h.2
      refine s_stI g C hP hS 6 (by decide) rfl hv_3 dX9_anew_65 (fun H locs hP hS => ?_)
      obtain ⟨S_4, eS_4⟩ : ∃ z_ : St, z_ = sI S 6 ((nI 31) + x1).toNatClampNeg (S.1 3 ((nI 5) * x1).toNatClampNeg) := ⟨_, rfl⟩
      rw [← eS_4] at hP
      have h := h S_4 eS_4
      refine lv_aload_n hx hb dX9_anew_66 rfl (lv_at hl 0 rfl) ?_
      refine s_gR g C hP 0 19 6 (by decide) rfl rfl cfX9 (by decide) kFL_X9_29 dX9_anew_67 ?_
      refine lv_bipush (v := (nI 35)) hx hb dX9_anew_70 (by decide) ?_
      refine lv_iload_n hx hb dX9_anew_72 rfl (lv_at hl 1 rfl) ?_
      refine lv_iadd hx hb dX9_anew_73 ?_
      refine lv_aload_n hx hb dX9_anew_74 rfl (lv_at hl 0 rfl) ?_
      refine s_gR g C hP 0 4 3 (by decide) rfl rfl cfX9 (by decide) kFL_X9_16 dX9_anew_75 ?_
      refine lv_iconst (v := (nI 5)) hx hb dX9_anew_78 (by decide) ?_
      refine lv_iload_n hx hb dX9_anew_79 rfl (lv_at hl 1 rfl) ?_
      refine lv_imul hx hb dX9_anew_80 ?_
      refine lv_iconst (v := (nI 1)) hx hb dX9_anew_81 (by decide) ?_
      refine lv_iadd hx hb dX9_anew_82 ?_
      have hv_5 := h.1
      have h := h.2
      refine s_aI g C hP 3 (by decide) rfl hv_5 dX9_anew_83 ?_
      have hv_6 := h.1
      have h := h.2
      refine s_stI g C hP hS 6 (by decide) rfl hv_6 dX9_anew_84 (fun H locs hP hS => ?_)
      obtain ⟨S_7, eS_7⟩ : ∃ z_ : St, z_ = sI S_4 6 ((nI 35) + x1).toNatClampNeg (S_4.1 3 (((nI 5) * x1) + (nI 1)).toNatClampNeg) := ⟨_, rfl⟩
      rw [← eS_7] at hP
      have h := h S_7 eS_7
      refine lv_aload_n hx hb dX9_anew_85 rfl (lv_at hl 0 rfl) ?_
      refine s_gR g C hP 0 19 6 (by decide) rfl rfl cfX9 (by decide) kFL_X9_29 dX9_anew_86 ?_
      refine lv_bipush (v := (nI 39)) hx hb dX9_anew_89 (by decide) ?_
      refine lv_iload_n hx hb dX9_anew_91 rfl (lv_at hl 1 rfl) ?_
      refine lv_iadd hx hb dX9_anew_92 ?_
      refine lv_aload_n hx hb dX9_anew_93 rfl (lv_at hl 0 rfl) ?_
      refine s_gR g C hP 0 4 3 (by decide) rfl rfl cfX9 (by decide) kFL_X9_16 dX9_anew_94 ?_
      refine lv_iconst (v := (nI 5)) hx hb dX9_anew_97 (by decide) ?_
      refine lv_iload_n hx hb dX9_anew_98 rfl (lv_at hl 1 rfl) ?_
      refine lv_imul hx hb dX9_anew_99 ?_
      refine lv_iconst (v := (nI 4)) hx hb dX9_anew_100 (by decide) ?_
      refine lv_iadd hx hb dX9_anew_101 ?_
      have hv_8 := h.1
      have h := h.2
      refine s_aI g C hP 3 (by decide) rfl hv_8 dX9_anew_102 ?_
      have hv_9 := h.1
      have h := h.2
      refine s_stI g C hP hS 6 (by decide) rfl hv_9 dX9_anew_103 (fun H locs hP hS => ?_)
      obtain ⟨S_10, eS_10⟩ : ∃ z_ : St, z_ = sI S_7 6 ((nI 39) + x1).toNatClampNeg (S_7.1 3 (((nI 5) * x1) + (nI 4)).toNatClampNeg) := ⟨_, rfl⟩
      rw [← eS_10] at hP
      have h := h S_10 eS_10
      obtain ⟨x1_11, ex1_11⟩ : ∃ y_ : Int32, y_ = x1 + (nI 1) := ⟨_, rfl⟩
      have h := h x1_11 ex1_11
      refine lv_iinc (v := x1_11) (lv' := [(1, .int x1_11), (0, .ref (Z.2.2.1 0))]) hx hb dX9_anew_104 hl (k := 1) rfl (by rw [ex1_11]; rfl) (by decide) rfl (fun ls hl => ?_)
      refine lv_goto (tgt := 44) hx hb dX9_anew_107 (by decide) ?_
      exact ih _ _ _ _ _ hP hS (lv_sub hl [1, 0] rfl) h
def q_X9_anew_35 (k : St → Prop) (e_2 : St → Int32 → Prop) (S : St) (x1 : Int32) (t0 : Int32) (t1 : Int32) : Prop := vp_in t1 1197 ∧ (∀ S_2 : St, S_2 = sI S 6 t1.toNatClampNeg t0 → (∀ x1_3 : Int32, x1_3 = x1 + (nI 1) → (e_2 S_2 x1_3)))
set_option maxRecDepth 100000 in
set_option maxHeartbeats 4000000 in
theorem b_X9_anew_35 {p : Program} {l : Launch} {e : Env} {s : State} {m : MethodId} {args : Array Value} {below : List Frame} {meth : Method} {c : Code} {Z : ZT} (hi : injZ 10 Z) (C : Cxt (gM Z) p s m meth c args yX9_anew cX9_anew 2 none) {k : St → Prop} {e_2 : St → Int32 → Prop}  (he_2 : ∀ (S : St) (x1 : Int32) (H : Heap) (locs : List Loc) (ls : Array Slot), va_P Z.1 vwCl (wl shM 10 Z S) H → va_S (aa 10 Z) s.heap H locs → lv_has ls 2 [(0, .ref (Z.2.2.1 0)), (1, .int x1)] → e_2 S x1 → W p l e (rmk 1 22) s m args below meth c H locs 0 0 (Qv below shM 10 Z args s k) (F0 m 2 ls [])) (S : St) (x1 : Int32) (t0 : Int32) (t1 : Int32) (H : Heap) (locs : List Loc) (ls : Array Slot) (hP : va_P Z.1 vwCl (wl shM 10 Z S) H) (hS : va_S (aa 10 Z) s.heap H locs) (hl : lv_has ls 2 [(0, .ref (Z.2.2.1 0)), (1, .int x1)]) (h : q_X9_anew_35 k e_2 S x1 t0 t1) : W p l e (rmk 1 22) s m args below meth c H locs 0 0 (Qv below shM 10 Z args s k) (F0 m 35 ls [.int t0, .int t1, .ref (Z.2.2.1 6)]) := by
  have g := gokM hi
  have hx := C.1.1
  have hb := C.1.2.1
  unfold q_X9_anew_35 at h
  have hv_1 := h.1
  have h := h.2
  refine s_stI g C hP hS 6 (by decide) rfl hv_1 dX9_anew_35 (fun H locs hP hS => ?_)
  obtain ⟨S_2, eS_2⟩ : ∃ z_ : St, z_ = sI S 6 t1.toNatClampNeg t0 := ⟨_, rfl⟩
  rw [← eS_2] at hP
  have h := h S_2 eS_2
  obtain ⟨x1_3, ex1_3⟩ : ∃ y_ : Int32, y_ = x1 + (nI 1) := ⟨_, rfl⟩
  have h := h x1_3 ex1_3
  refine lv_iinc (v := x1_3) (lv' := [(1, .int x1_3), (0, .ref (Z.2.2.1 0))]) hx hb dX9_anew_36 hl (k := 1) rfl (by rw [ex1_3]; rfl) (by decide) rfl (fun ls hl => ?_)
  refine lv_goto (tgt := 2) hx hb dX9_anew_39 (by decide) ?_
  exact he_2 _ _ _ _ _ hP hS (lv_sub hl [1, 0] rfl) h
def q_X9_anew_2 (k : St → Prop) : Nat → St → Int32 → Prop := fun n_ => Nat.rec (motive := fun _ => St → Int32 → Prop) (fun _ _ => False) (fun _ ih => fun S x1 => ((nI 1197) ≤ x1 → (∃ f_44, q_X9_anew_44 k f_44 S (nI 0))) ∧ (¬ (nI 1197) ≤ x1 → (q_X9_in S x1 (nI 7) (nI 12) (fun r_2 => ((r_2 = (nI 0) → (q_X9_anew_35 k ih S x1 (nI 0) x1)) ∧ (¬ r_2 = (nI 0) → (vp_in x1 1197 ∧ (q_X9_anew_35 k ih S x1 (S.1 6 x1.toNatClampNeg) x1)))))))) n_
theorem q_X9_anew_2_s (k : St → Prop) (n_ : Nat) (S : St) (x1 : Int32) : q_X9_anew_2 k (n_ + 1) S x1 = (((nI 1197) ≤ x1 → (∃ f_44, q_X9_anew_44 k f_44 S (nI 0))) ∧ (¬ (nI 1197) ≤ x1 → (q_X9_in S x1 (nI 7) (nI 12) (fun r_2 => ((r_2 = (nI 0) → (q_X9_anew_35 k (q_X9_anew_2 k n_) S x1 (nI 0) x1)) ∧ (¬ r_2 = (nI 0) → (vp_in x1 1197 ∧ (q_X9_anew_35 k (q_X9_anew_2 k n_) S x1 (S.1 6 x1.toNatClampNeg) x1)))))))) := rfl
set_option maxRecDepth 100000 in
set_option maxHeartbeats 4000000 in
theorem b_X9_anew_2 {p : Program} {l : Launch} {e : Env} {s : State} {m : MethodId} {args : Array Value} {below : List Frame} {meth : Method} {c : Code} {Z : ZT} (hi : injZ 10 Z) (C : Cxt (gM Z) p s m meth c args yX9_anew cX9_anew 2 none) {k : St → Prop}   : ∀ (n_ : Nat) (S : St) (x1 : Int32) (H : Heap) (locs : List Loc) (ls : Array Slot), va_P Z.1 vwCl (wl shM 10 Z S) H → va_S (aa 10 Z) s.heap H locs → lv_has ls 2 [(0, .ref (Z.2.2.1 0)), (1, .int x1)] → q_X9_anew_2 k n_ S x1 → W p l e (rmk 1 22) s m args below meth c H locs 0 0 (Qv below shM 10 Z args s k) (F0 m 2 ls []) := by
  have g := gokM hi
  have hx := C.1.1
  have hb := C.1.2.1
  intro n_
  induction n_ with
  | zero => intro S x1 H locs ls hP hS hl h; exact h.elim
  | succ n_ ih =>
    intro S x1 H locs ls hP hS hl h
    rw [q_X9_anew_2_s] at h
    refine lv_iload_n hx hb dX9_anew_2 rfl (lv_at hl 1 rfl) ?_
    refine lv_sipush (v := (nI 1197)) hx hb dX9_anew_3 (by decide) ?_
    refine lv_icmp_ge (tgt := 42) hx hb dX9_anew_6 (by decide) (fun c_1 => ?_) (fun c_1 => ?_)
    · have h := h.1 c_1
      refine lv_iconst (v := (nI 0)) hx hb dX9_anew_42 (by decide) ?_
      refine lv_istore_n (lv' := [(1, .int (nI 0)), (0, .ref (Z.2.2.1 0))]) hx hb dX9_anew_43 rfl hl (by decide) rfl (fun ls hl => ?_)
      obtain ⟨f_44, h⟩ := h
      exact b_X9_anew_44 hi C  f_44 _ _ _ _ _ hP hS (lv_sub hl [1, 0] rfl) h
    · have h := h.2 c_1
      refine lv_aload_n hx hb dX9_anew_9 rfl (lv_at hl 0 rfl) ?_
      refine s_gR g C hP 0 19 6 (by decide) rfl rfl cfX9 (by decide) kFL_X9_29 dX9_anew_10 ?_
      refine lv_iload_n hx hb dX9_anew_13 rfl (lv_at hl 1 rfl) ?_
      refine lv_iload_n hx hb dX9_anew_14 rfl (lv_at hl 1 rfl) ?_
      refine lv_bipush (v := (nI 7)) hx hb dX9_anew_15 (by decide) ?_
      refine lv_bipush (v := (nI 12)) hx hb dX9_anew_17 (by decide) ?_
      refine go_ip (run_S g C hP hS (As := [.int x1, .int (nI 7), .int (nI 12)]) (rest := [.int x1, .ref (Z.2.2.1 6)]) (c_X9_in hi S x1 (nI 7) (nI 12) _ h) cal_X9_in kML_X9_45 ⟨rfl, rfl, Nat.le_of_ble_eq_true rfl, Nat.le_of_ble_eq_true rfl⟩ rfl rfl hl.1 (Nat.le_of_ble_eq_true rfl) dX9_anew_19) hS (fun r_2 H locs h hP hS => ?_)
      obtain ⟨hbr_2, h⟩ := h
      refine lv_if_eq (tgt := 34) hx hb dX9_anew_22 (by decide) (fun c_3 => ?_) (fun c_3 => ?_)
      · have h := h.1 c_3
        refine lv_iconst (v := (nI 0)) hx hb dX9_anew_34 (by decide) ?_
        exact b_X9_anew_35 hi C ih _ _ _ _ _ _ _ hP hS (lv_sub hl [0, 1] rfl) h
      · have h := h.2 c_3
        refine lv_aload_n hx hb dX9_anew_25 rfl (lv_at hl 0 rfl) ?_
        refine s_gR g C hP 0 19 6 (by decide) rfl rfl cfX9 (by decide) kFL_X9_29 dX9_anew_26 ?_
        refine lv_iload_n hx hb dX9_anew_29 rfl (lv_at hl 1 rfl) ?_
        have hv_4 := h.1
        have h := h.2
        refine s_aI g C hP 6 (by decide) rfl hv_4 dX9_anew_30 ?_
        refine lv_goto (tgt := 35) hx hb dX9_anew_31 (by decide) ?_
        exact b_X9_anew_35 hi C ih _ _ _ _ _ _ _ hP hS (lv_sub hl [0, 1] rfl) h
def q_X9_anew (S : St) (k : St → Prop) : Prop := ∃ f_2, q_X9_anew_2 k f_2 S (nI 0)
set_option maxRecDepth 100000 in
set_option maxHeartbeats 4000000 in
theorem c_X9_anew {l : Launch} {Z : ZT} (hi : injZ 10 Z) (S : St) (k : St → Prop) (h : q_X9_anew S k) : Mv l shM 10 Z (gM Z) yX9_anew cX9_anew 2 none (rmk 1 22) [.ref (Z.2.2.1 0)] S k := by
  have g := gokM hi
  refine e_v (by decide) (Nat.le_of_ble_eq_true rfl) (lv := [(0, .ref (Z.2.2.1 0))]) rfl (fun p e s m args below meth c C hP hS ls hl => ?_)
  have hx := C.1.1
  have hb := C.1.2.1
  unfold q_X9_anew at h
  refine lv_iconst (v := (nI 0)) hx hb dX9_anew_0 (by decide) ?_
  refine lv_istore_n (lv' := [(1, .int (nI 0)), (0, .ref (Z.2.2.1 0))]) hx hb dX9_anew_1 rfl hl (by decide) rfl (fun ls hl => ?_)
  obtain ⟨f_2, h⟩ := h
  exact b_X9_anew_2 hi C  f_2 _ _ _ _ _ hP hS (lv_sub hl [1, 0] rfl) h
def q_X9_begin_2 (k : St → Prop) : Nat → St → Int32 → Prop := fun n_ => Nat.rec (motive := fun _ => St → Int32 → Prop) (fun _ _ => False) (fun _ ih => fun S x1 => ((nI 6) ≤ x1 → (q_X9_anew S (fun S_2 => (k S_2)))) ∧ (¬ (nI 6) ≤ x1 → (vp_in ((nI 7) + x1) 1197 ∧ (∀ S_4 : St, S_4 = sI S 6 ((nI 7) + x1).toNatClampNeg (nI 0) → (∀ x1_5 : Int32, x1_5 = x1 + (nI 1) → (ih S_4 x1_5)))))) n_
theorem q_X9_begin_2_s (k : St → Prop) (n_ : Nat) (S : St) (x1 : Int32) : q_X9_begin_2 k (n_ + 1) S x1 = (((nI 6) ≤ x1 → (q_X9_anew S (fun S_2 => (k S_2)))) ∧ (¬ (nI 6) ≤ x1 → (vp_in ((nI 7) + x1) 1197 ∧ (∀ S_4 : St, S_4 = sI S 6 ((nI 7) + x1).toNatClampNeg (nI 0) → (∀ x1_5 : Int32, x1_5 = x1 + (nI 1) → ((q_X9_begin_2 k n_) S_4 x1_5)))))) := rfl
set_option maxRecDepth 100000 in
set_option maxHeartbeats 4000000 in
theorem b_X9_begin_2 {p : Program} {l : Launch} {e : Env} {s : State} {m : MethodId} {args : Array Value} {below : List Frame} {meth : Method} {c : Code} {Z : ZT} (hi : injZ 10 Z) (C : Cxt (gM Z) p s m meth c args yX9_begin cX9_begin 2 none) {k : St → Prop}   : ∀ (n_ : Nat) (S : St) (x1 : Int32) (H : Heap) (locs : List Loc) (ls : Array Slot), va_P Z.1 vwCl (wl shM 10 Z S) H → va_S (aa 10 Z) s.heap H locs → lv_has ls 2 [(0, .ref (Z.2.2.1 0)), (1, .int x1)] → q_X9_begin_2 k n_ S x1 → W p l e (rmk 2 43) s m args below meth c H locs 0 0 (Qv below shM 10 Z args s k) (F0 m 2 ls []) := by
  have g := gokM hi
  have hx := C.1.1
  have hb := C.1.2.1
  intro n_
  induction n_ with
  | zero => intro S x1 H locs ls hP hS hl h; exact h.elim
  | succ n_ ih =>
    intro S x1 H locs ls hP hS hl h
    rw [q_X9_begin_2_s] at h
    refine lv_iload_n hx hb dX9_begin_2 rfl (lv_at hl 1 rfl) ?_
    refine lv_bipush (v := (nI 6)) hx hb dX9_begin_3 (by decide) ?_
    refine lv_icmp_ge (tgt := 24) hx hb dX9_begin_5 (by decide) (fun c_1 => ?_) (fun c_1 => ?_)
    · have h := h.1 c_1
      refine lv_aload_n hx hb dX9_begin_24 rfl (lv_at hl 0 rfl) ?_
      refine go_v (run_V g C hP hS (c0 := 0) (As := []) (rest := []) (c_X9_anew hi S _ h) cal_X9_anew kML_X9_158 (by decide) rfl cfX9 ⟨rfl, rfl, Nat.le_of_ble_eq_true rfl, Nat.le_of_ble_eq_true rfl⟩ rfl rfl hl.1 (Nat.le_of_ble_eq_true rfl) dX9_begin_25) hS (fun S_2 H locs h hP hS => ?_)
      exact s_rv C hP hS h dX9_begin_28
    · have h := h.2 c_1
      refine lv_aload_n hx hb dX9_begin_8 rfl (lv_at hl 0 rfl) ?_
      refine s_gR g C hP 0 19 6 (by decide) rfl rfl cfX9 (by decide) kFL_X9_29 dX9_begin_9 ?_
      refine lv_bipush (v := (nI 7)) hx hb dX9_begin_12 (by decide) ?_
      refine lv_iload_n hx hb dX9_begin_14 rfl (lv_at hl 1 rfl) ?_
      refine lv_iadd hx hb dX9_begin_15 ?_
      refine lv_iconst (v := (nI 0)) hx hb dX9_begin_16 (by decide) ?_
      have hv_3 := h.1
      have h := h.2
      refine s_stI g C hP hS 6 (by decide) rfl hv_3 dX9_begin_17 (fun H locs hP hS => ?_)
      obtain ⟨S_4, eS_4⟩ : ∃ z_ : St, z_ = sI S 6 ((nI 7) + x1).toNatClampNeg (nI 0) := ⟨_, rfl⟩
      rw [← eS_4] at hP
      have h := h S_4 eS_4
      obtain ⟨x1_5, ex1_5⟩ : ∃ y_ : Int32, y_ = x1 + (nI 1) := ⟨_, rfl⟩
      have h := h x1_5 ex1_5
      refine lv_iinc (v := x1_5) (lv' := [(1, .int x1_5), (0, .ref (Z.2.2.1 0))]) hx hb dX9_begin_18 hl (k := 1) rfl (by rw [ex1_5]; rfl) (by decide) rfl (fun ls hl => ?_)
      refine lv_goto (tgt := 2) hx hb dX9_begin_21 (by decide) ?_
      exact ih _ _ _ _ _ hP hS (lv_sub hl [1, 0] rfl) h
def q_X9_begin (S : St) (k : St → Prop) : Prop := ∃ f_2, q_X9_begin_2 k f_2 S (nI 0)
set_option maxRecDepth 100000 in
set_option maxHeartbeats 4000000 in
theorem c_X9_begin {l : Launch} {Z : ZT} (hi : injZ 10 Z) (S : St) (k : St → Prop) (h : q_X9_begin S k) : Mv l shM 10 Z (gM Z) yX9_begin cX9_begin 2 none (rmk 2 43) [.ref (Z.2.2.1 0)] S k := by
  have g := gokM hi
  refine e_v (by decide) (Nat.le_of_ble_eq_true rfl) (lv := [(0, .ref (Z.2.2.1 0))]) rfl (fun p e s m args below meth c C hP hS ls hl => ?_)
  have hx := C.1.1
  have hb := C.1.2.1
  unfold q_X9_begin at h
  refine lv_iconst (v := (nI 0)) hx hb dX9_begin_0 (by decide) ?_
  refine lv_istore_n (lv' := [(1, .int (nI 0)), (0, .ref (Z.2.2.1 0))]) hx hb dX9_begin_1 rfl hl (by decide) rfl (fun ls hl => ?_)
  obtain ⟨f_2, h⟩ := h
  exact b_X9_begin_2 hi C  f_2 _ _ _ _ _ hP hS (lv_sub hl [1, 0] rfl) h
def q_X9_cliff_12 (k : Int32 → St → Prop) : Nat → St → Int32 → Prop := fun n_ => Nat.rec (motive := fun _ => St → Int32 → Prop) (fun _ _ => False) (fun _ ih => fun S x1 => ((S.1 0 17) ≤ x1 → (∀ S_2 : St, S_2 = sI S 0 9 (nI 0) → (q_X9_begin S_2 (fun S_3 => (∀ S_4 : St, S_4 = sI S_3 9 (nI 0).toNatClampNeg (nI 0) → (∀ S_5 : St, S_5 = sI S_4 9 (nI 1).toNatClampNeg (nI 0) → (k (S_5.1 0 17) S_5))))))) ∧ (¬ (S.1 0 17) ≤ x1 → (q_X9_doLine S ((nI 7) * x1) (fun S_6 => (∀ x1_7 : Int32, x1_7 = x1 + (nI 1) → (ih S_6 x1_7)))))) n_
theorem q_X9_cliff_12_s (k : Int32 → St → Prop) (n_ : Nat) (S : St) (x1 : Int32) : q_X9_cliff_12 k (n_ + 1) S x1 = (((S.1 0 17) ≤ x1 → (∀ S_2 : St, S_2 = sI S 0 9 (nI 0) → (q_X9_begin S_2 (fun S_3 => (∀ S_4 : St, S_4 = sI S_3 9 (nI 0).toNatClampNeg (nI 0) → (∀ S_5 : St, S_5 = sI S_4 9 (nI 1).toNatClampNeg (nI 0) → (k (S_5.1 0 17) S_5))))))) ∧ (¬ (S.1 0 17) ≤ x1 → (q_X9_doLine S ((nI 7) * x1) (fun S_6 => (∀ x1_7 : Int32, x1_7 = x1 + (nI 1) → ((q_X9_cliff_12 k n_) S_6 x1_7)))))) := rfl
set_option maxRecDepth 100000 in
set_option maxHeartbeats 4000000 in
theorem b_X9_cliff_12 {p : Program} {l : Launch} {e : Env} {s : State} {m : MethodId} {args : Array Value} {below : List Frame} {meth : Method} {c : Code} {Z : ZT} (hi : injZ 10 Z) (C : Cxt (gM Z) p s m meth c args yX9_cliff cX9_cliff 2 (Option.some .int)) {k : Int32 → St → Prop}   : ∀ (n_ : Nat) (S : St) (x1 : Int32) (H : Heap) (locs : List Loc) (ls : Array Slot), va_P Z.1 vwCl (wl shM 10 Z S) H → va_S (aa 10 Z) s.heap H locs → lv_has ls 2 [(0, .ref (Z.2.2.1 0)), (1, .int x1)] → q_X9_cliff_12 k n_ S x1 → W p l e (rmk 6 130) s m args below meth c H locs 0 0 (Qi below shM 10 Z args s k) (F0 m 12 ls []) := by
  have g := gokM hi
  have hx := C.1.1
  have hb := C.1.2.1
  intro n_
  induction n_ with
  | zero => intro S x1 H locs ls hP hS hl h; exact h.elim
  | succ n_ ih =>
    intro S x1 H locs ls hP hS hl h
    rw [q_X9_cliff_12_s] at h
    refine lv_iload_n hx hb dX9_cliff_12 rfl (lv_at hl 1 rfl) ?_
    refine lv_aload_n hx hb dX9_cliff_13 rfl (lv_at hl 0 rfl) ?_
    refine s_gI g C hP 0 17 (by decide) rfl rfl cfX9 (by decide) kFL_X9_130 dX9_cliff_14 ?_
    refine lv_icmp_ge (tgt := 34) hx hb dX9_cliff_17 (by decide) (fun c_1 => ?_) (fun c_1 => ?_)
    · have h := h.1 c_1
      refine lv_aload_n hx hb dX9_cliff_34 rfl (lv_at hl 0 rfl) ?_
      refine lv_iconst (v := (nI 0)) hx hb dX9_cliff_35 (by decide) ?_
      refine s_pI g C hP hS 0 9 (by decide) rfl rfl cfX9 (by decide) rfl rfl rfl kFL_X9_56 dX9_cliff_36 (fun H locs hP hS => ?_)
      obtain ⟨S_2, eS_2⟩ : ∃ z_ : St, z_ = sI S 0 9 (nI 0) := ⟨_, rfl⟩
      rw [← eS_2] at hP
      have h := h S_2 eS_2
      refine lv_aload_n hx hb dX9_cliff_39 rfl (lv_at hl 0 rfl) ?_
      refine go_v (run_V g C hP hS (c0 := 0) (As := []) (rest := []) (c_X9_begin hi S_2 _ h) cal_X9_begin kML_X9_42 (by decide) rfl cfX9 ⟨rfl, rfl, Nat.le_of_ble_eq_true rfl, Nat.le_of_ble_eq_true rfl⟩ rfl rfl hl.1 (Nat.le_of_ble_eq_true rfl) dX9_cliff_40) hS (fun S_3 H locs h hP hS => ?_)
      refine lv_aload_n hx hb dX9_cliff_43 rfl (lv_at hl 0 rfl) ?_
      refine s_gR g C hP 0 22 9 (by decide) rfl rfl cfX9 (by decide) kFL_X9_38 dX9_cliff_44 ?_
      refine lv_iconst (v := (nI 0)) hx hb dX9_cliff_47 (by decide) ?_
      refine lv_iconst (v := (nI 0)) hx hb dX9_cliff_48 (by decide) ?_
      refine s_stZ g C hP hS 9 (by decide) rfl (vinL (by decide +kernel)) rfl dX9_cliff_49 (fun H locs hP hS => ?_)
      obtain ⟨S_4, eS_4⟩ : ∃ z_ : St, z_ = sI S_3 9 (nI 0).toNatClampNeg (nI 0) := ⟨_, rfl⟩
      rw [← eS_4] at hP
      have h := h S_4 eS_4
      refine lv_aload_n hx hb dX9_cliff_50 rfl (lv_at hl 0 rfl) ?_
      refine s_gR g C hP 0 22 9 (by decide) rfl rfl cfX9 (by decide) kFL_X9_38 dX9_cliff_51 ?_
      refine lv_iconst (v := (nI 1)) hx hb dX9_cliff_54 (by decide) ?_
      refine lv_iconst (v := (nI 0)) hx hb dX9_cliff_55 (by decide) ?_
      refine s_stZ g C hP hS 9 (by decide) rfl (vinL (by decide +kernel)) rfl dX9_cliff_56 (fun H locs hP hS => ?_)
      obtain ⟨S_5, eS_5⟩ : ∃ z_ : St, z_ = sI S_4 9 (nI 1).toNatClampNeg (nI 0) := ⟨_, rfl⟩
      rw [← eS_5] at hP
      have h := h S_5 eS_5
      refine lv_aload_n hx hb dX9_cliff_57 rfl (lv_at hl 0 rfl) ?_
      refine s_gI g C hP 0 17 (by decide) rfl rfl cfX9 (by decide) kFL_X9_130 dX9_cliff_58 ?_
      exact s_ri C hP hS h dX9_cliff_61
    · have h := h.2 c_1
      refine lv_aload_n hx hb dX9_cliff_20 rfl (lv_at hl 0 rfl) ?_
      refine lv_bipush (v := (nI 7)) hx hb dX9_cliff_21 (by decide) ?_
      refine lv_iload_n hx hb dX9_cliff_23 rfl (lv_at hl 1 rfl) ?_
      refine lv_imul hx hb dX9_cliff_24 ?_
      refine go_v (run_V g C hP hS (c0 := 0) (As := [.int ((nI 7) * x1)]) (rest := []) (c_X9_doLine hi S ((nI 7) * x1) _ h) cal_X9_doLine kML_X9_161 (by decide) rfl cfX9 ⟨rfl, rfl, Nat.le_of_ble_eq_true rfl, Nat.le_of_ble_eq_true rfl⟩ rfl rfl hl.1 (Nat.le_of_ble_eq_true rfl) dX9_cliff_25) hS (fun S_6 H locs h hP hS => ?_)
      obtain ⟨x1_7, ex1_7⟩ : ∃ y_ : Int32, y_ = x1 + (nI 1) := ⟨_, rfl⟩
      have h := h x1_7 ex1_7
      refine lv_iinc (v := x1_7) (lv' := [(1, .int x1_7), (0, .ref (Z.2.2.1 0))]) hx hb dX9_cliff_28 hl (k := 1) rfl (by rw [ex1_7]; rfl) (by decide) rfl (fun ls hl => ?_)
      refine lv_goto (tgt := 12) hx hb dX9_cliff_31 (by decide) ?_
      exact ih _ _ _ _ _ hP hS (lv_sub hl [1, 0] rfl) h
def q_X9_cliff (S : St) (k : Int32 → St → Prop) : Prop := q_X9_isRead S (fun r_1 S_2 => ((r_1 = (nI 0) → (k (-4 : Int32) S_2)) ∧ (¬ r_1 = (nI 0) → (∃ f_12, q_X9_cliff_12 k f_12 S_2 (nI 0)))))
set_option maxRecDepth 100000 in
set_option maxHeartbeats 4000000 in
theorem c_X9_cliff {l : Launch} {Z : ZT} (hi : injZ 10 Z) (S : St) (k : Int32 → St → Prop) (h : q_X9_cliff S k) : Mi l shM 10 Z (gM Z) yX9_cliff cX9_cliff 2 (Option.some .int) (rmk 6 130) [.ref (Z.2.2.1 0)] S k := by
  have g := gokM hi
  refine e_i (by decide) (Nat.le_of_ble_eq_true rfl) (lv := [(0, .ref (Z.2.2.1 0))]) rfl (fun p e s m args below meth c C hP hS ls hl => ?_)
  have hx := C.1.1
  have hb := C.1.2.1
  unfold q_X9_cliff at h
  refine lv_aload_n hx hb dX9_cliff_0 rfl (lv_at hl 0 rfl) ?_
  refine go_i (run_V g C hP hS (c0 := 0) (As := []) (rest := []) (c_X9_isRead hi S _ h) cal_X9_isRead kML_X9_136 (by decide) rfl cfX9 ⟨rfl, rfl, Nat.le_of_ble_eq_true rfl, Nat.le_of_ble_eq_true rfl⟩ rfl rfl hl.1 (Nat.le_of_ble_eq_true rfl) dX9_cliff_1) hS (fun r_1 S_2 H locs h hP hS => ?_)
  obtain ⟨hbr_1, h⟩ := h
  refine lv_if_ne (tgt := 10) hx hb dX9_cliff_4 (by decide) (fun c_3 => ?_) (fun c_3 => ?_)
  · have h := h.2 c_3
    refine lv_iconst (v := (nI 0)) hx hb dX9_cliff_10 (by decide) ?_
    refine lv_istore_n (lv' := [(1, .int (nI 0)), (0, .ref (Z.2.2.1 0))]) hx hb dX9_cliff_11 rfl hl (by decide) rfl (fun ls hl => ?_)
    obtain ⟨f_12, h⟩ := h
    exact b_X9_cliff_12 hi C  f_12 _ _ _ _ _ hP hS (lv_sub hl [1, 0] rfl) h
  · have h := h.1 c_3
    refine lv_bipush (v := (-4 : Int32)) hx hb dX9_cliff_7 (by decide) ?_
    exact s_ri C hP hS h dX9_cliff_9
def q_X9_wind (S : St) (a1 : Int32) (a2 : Int32) (a3 : Int32) (k : Int32 → Prop) : Prop := q_X9_isHeight S a1 (fun r_1 => ((r_1 = (nI 0) → (k (-2 : Int32))) ∧ (¬ r_1 = (nI 0) → (q_X9_isHour S a2 (fun r_3 => ((r_3 = (nI 0) → (k (-2 : Int32))) ∧ (¬ r_3 = (nI 0) → ((a3 = (nI 0) → (vp_in (((nI 24) * a1) + ((nI 2) * a2)) 96 ∧ (k (S.1 1 (((nI 24) * a1) + ((nI 2) * a2)).toNatClampNeg)))) ∧ (¬ a3 = (nI 0) → ((a3 = (nI 1) → (vp_in ((((nI 24) * a1) + ((nI 2) * a2)) + (nI 1)) 96 ∧ (k ((S.1 1 ((((nI 24) * a1) + ((nI 2) * a2)) + (nI 1)).toNatClampNeg) + (nI 3))))) ∧ (¬ a3 = (nI 1) → (k (-3 : Int32)))))))))))))
set_option maxRecDepth 100000 in
set_option maxHeartbeats 4000000 in
theorem c_X9_wind {l : Launch} {Z : ZT} (hi : injZ 10 Z) (S : St) (a1 : Int32) (a2 : Int32) (a3 : Int32) (k : Int32 → Prop) (h : q_X9_wind S a1 a2 a3 k) : Mi l shM 10 Z (gM Z) yX9_wind cX9_wind 4 (Option.some .int) (rmk 2 42) [.ref (Z.2.2.1 0), .int a1, .int a2, .int a3] S (fun r S' => S' = S ∧ k r) := by
  have g := gokM hi
  refine e_i (by decide) (Nat.le_of_ble_eq_true rfl) (lv := [(0, .ref (Z.2.2.1 0)), (1, .int a1), (2, .int a2), (3, .int a3)]) rfl (fun p e s m args below meth c C hP hS ls hl => ?_)
  have hx := C.1.1
  have hb := C.1.2.1
  unfold q_X9_wind at h
  refine lv_iload_n hx hb dX9_wind_0 rfl (lv_at hl 1 rfl) ?_
  refine go_ip (run_S g C hP hS (As := [.int a1]) (rest := []) (c_X9_isHeight hi S a1 _ h) cal_X9_isHeight kML_X9_165 ⟨rfl, rfl, Nat.le_of_ble_eq_true rfl, Nat.le_of_ble_eq_true rfl⟩ rfl rfl hl.1 (Nat.le_of_ble_eq_true rfl) dX9_wind_1) hS (fun r_1 H locs h hP hS => ?_)
  obtain ⟨hbr_1, h⟩ := h
  refine lv_if_eq (tgt := 14) hx hb dX9_wind_4 (by decide) (fun c_2 => ?_) (fun c_2 => ?_)
  · have h := h.1 c_2
    refine lv_bipush (v := (-2 : Int32)) hx hb dX9_wind_14 (by decide) ?_
    exact s_ri C hP hS ⟨rfl, h⟩ dX9_wind_16
  · have h := h.2 c_2
    refine lv_iload_n hx hb dX9_wind_7 rfl (lv_at hl 2 rfl) ?_
    refine go_ip (run_S g C hP hS (As := [.int a2]) (rest := []) (c_X9_isHour hi S a2 _ h) cal_X9_isHour kML_X9_168 ⟨rfl, rfl, Nat.le_of_ble_eq_true rfl, Nat.le_of_ble_eq_true rfl⟩ rfl rfl hl.1 (Nat.le_of_ble_eq_true rfl) dX9_wind_8) hS (fun r_3 H locs h hP hS => ?_)
    obtain ⟨hbr_3, h⟩ := h
    refine lv_if_ne (tgt := 17) hx hb dX9_wind_11 (by decide) (fun c_4 => ?_) (fun c_4 => ?_)
    · have h := h.2 c_4
      refine lv_iload_n hx hb dX9_wind_17 rfl (lv_at hl 3 rfl) ?_
      refine lv_if_ne (tgt := 37) hx hb dX9_wind_18 (by decide) (fun c_5 => ?_) (fun c_5 => ?_)
      · have h := h.2 c_5
        refine lv_iload_n hx hb dX9_wind_37 rfl (lv_at hl 3 rfl) ?_
        refine lv_iconst (v := (nI 1)) hx hb dX9_wind_38 (by decide) ?_
        refine lv_icmp_ne (tgt := 62) hx hb dX9_wind_39 (by decide) (fun c_6 => ?_) (fun c_6 => ?_)
        · have h := h.2 c_6
          refine lv_bipush (v := (-3 : Int32)) hx hb dX9_wind_62 (by decide) ?_
          exact s_ri C hP hS ⟨rfl, h⟩ dX9_wind_64
        · have h := h.1 c_6
          refine lv_aload_n hx hb dX9_wind_42 rfl (lv_at hl 0 rfl) ?_
          refine s_gR g C hP 0 0 1 (by decide) rfl rfl cfX9 (by decide) kFL_X9_7 dX9_wind_43 ?_
          refine lv_bipush (v := (nI 24)) hx hb dX9_wind_46 (by decide) ?_
          refine lv_iload_n hx hb dX9_wind_48 rfl (lv_at hl 1 rfl) ?_
          refine lv_imul hx hb dX9_wind_49 ?_
          refine lv_iconst (v := (nI 2)) hx hb dX9_wind_50 (by decide) ?_
          refine lv_iload_n hx hb dX9_wind_51 rfl (lv_at hl 2 rfl) ?_
          refine lv_imul hx hb dX9_wind_52 ?_
          refine lv_iadd hx hb dX9_wind_53 ?_
          refine lv_iconst (v := (nI 1)) hx hb dX9_wind_54 (by decide) ?_
          refine lv_iadd hx hb dX9_wind_55 ?_
          have hv_7 := h.1
          have h := h.2
          refine s_aI g C hP 1 (by decide) rfl hv_7 dX9_wind_56 ?_
          refine lv_iconst (v := (nI 3)) hx hb dX9_wind_57 (by decide) ?_
          refine lv_iadd hx hb dX9_wind_58 ?_
          refine lv_goto (tgt := 64) hx hb dX9_wind_59 (by decide) ?_
          exact s_ri C hP hS ⟨rfl, h⟩ dX9_wind_64
      · have h := h.1 c_5
        refine lv_aload_n hx hb dX9_wind_21 rfl (lv_at hl 0 rfl) ?_
        refine s_gR g C hP 0 0 1 (by decide) rfl rfl cfX9 (by decide) kFL_X9_7 dX9_wind_22 ?_
        refine lv_bipush (v := (nI 24)) hx hb dX9_wind_25 (by decide) ?_
        refine lv_iload_n hx hb dX9_wind_27 rfl (lv_at hl 1 rfl) ?_
        refine lv_imul hx hb dX9_wind_28 ?_
        refine lv_iconst (v := (nI 2)) hx hb dX9_wind_29 (by decide) ?_
        refine lv_iload_n hx hb dX9_wind_30 rfl (lv_at hl 2 rfl) ?_
        refine lv_imul hx hb dX9_wind_31 ?_
        refine lv_iadd hx hb dX9_wind_32 ?_
        have hv_8 := h.1
        have h := h.2
        refine s_aI g C hP 1 (by decide) rfl hv_8 dX9_wind_33 ?_
        refine lv_goto (tgt := 64) hx hb dX9_wind_34 (by decide) ?_
        exact s_ri C hP hS ⟨rfl, h⟩ dX9_wind_64
    · have h := h.1 c_4
      refine lv_bipush (v := (-2 : Int32)) hx hb dX9_wind_14 (by decide) ?_
      exact s_ri C hP hS ⟨rfl, h⟩ dX9_wind_16
def q_X9_shoal (S : St) (a1 : Int32) (a2 : Int32) (k : Int32 → Prop) : Prop := q_X9_in S a1 (nI 0) (nI 3) (fun r_1 => ((r_1 = (nI 0) → (k (-2 : Int32))) ∧ (¬ r_1 = (nI 0) → (q_X9_has S (S.1 0 3) a1 (fun r_3 => ((r_3 = (nI 0) → (k (-2 : Int32))) ∧ (¬ r_3 = (nI 0) → ((a2 = (nI 0) → (vp_in ((nI 31) + a1) 1197 ∧ (k ((S.1 6 ((nI 31) + a1).toNatClampNeg) + (nI 100))))) ∧ (¬ a2 = (nI 0) → ((a2 = (nI 1) → (vp_in ((nI 35) + a1) 1197 ∧ (k ((S.1 6 ((nI 35) + a1).toNatClampNeg) + (nI 100))))) ∧ (¬ a2 = (nI 1) → ((a2 = (nI 2) → (vp_in ((nI 39) + a1) 1197 ∧ (k (S.1 6 ((nI 39) + a1).toNatClampNeg)))) ∧ (¬ a2 = (nI 2) → (k (-3 : Int32)))))))))))))))
set_option maxRecDepth 100000 in
set_option maxHeartbeats 4000000 in
theorem c_X9_shoal {l : Launch} {Z : ZT} (hi : injZ 10 Z) (S : St) (a1 : Int32) (a2 : Int32) (k : Int32 → Prop) (h : q_X9_shoal S a1 a2 k) : Mi l shM 10 Z (gM Z) yX9_shoal cX9_shoal 3 (Option.some .int) (rmk 1 22) [.ref (Z.2.2.1 0), .int a1, .int a2] S (fun r S' => S' = S ∧ k r) := by
  have g := gokM hi
  refine e_i (by decide) (Nat.le_of_ble_eq_true rfl) (lv := [(0, .ref (Z.2.2.1 0)), (1, .int a1), (2, .int a2)]) rfl (fun p e s m args below meth c C hP hS ls hl => ?_)
  have hx := C.1.1
  have hb := C.1.2.1
  unfold q_X9_shoal at h
  refine lv_iload_n hx hb dX9_shoal_0 rfl (lv_at hl 1 rfl) ?_
  refine lv_iconst (v := (nI 0)) hx hb dX9_shoal_1 (by decide) ?_
  refine lv_iconst (v := (nI 3)) hx hb dX9_shoal_2 (by decide) ?_
  refine go_ip (run_S g C hP hS (As := [.int a1, .int (nI 0), .int (nI 3)]) (rest := []) (c_X9_in hi S a1 (nI 0) (nI 3) _ h) cal_X9_in kML_X9_45 ⟨rfl, rfl, Nat.le_of_ble_eq_true rfl, Nat.le_of_ble_eq_true rfl⟩ rfl rfl hl.1 (Nat.le_of_ble_eq_true rfl) dX9_shoal_3) hS (fun r_1 H locs h hP hS => ?_)
  obtain ⟨hbr_1, h⟩ := h
  refine lv_if_eq (tgt := 20) hx hb dX9_shoal_6 (by decide) (fun c_2 => ?_) (fun c_2 => ?_)
  · have h := h.1 c_2
    refine lv_bipush (v := (-2 : Int32)) hx hb dX9_shoal_20 (by decide) ?_
    exact s_ri C hP hS ⟨rfl, h⟩ dX9_shoal_22
  · have h := h.2 c_2
    refine lv_aload_n hx hb dX9_shoal_9 rfl (lv_at hl 0 rfl) ?_
    refine s_gI g C hP 0 3 (by decide) rfl rfl cfX9 (by decide) kFL_X9_149 dX9_shoal_10 ?_
    refine lv_iload_n hx hb dX9_shoal_13 rfl (lv_at hl 1 rfl) ?_
    refine go_ip (run_S g C hP hS (As := [.int (S.1 0 3), .int a1]) (rest := []) (c_X9_has hi S (S.1 0 3) a1 _ h) cal_X9_has kML_X9_52 ⟨rfl, rfl, Nat.le_of_ble_eq_true rfl, Nat.le_of_ble_eq_true rfl⟩ rfl rfl hl.1 (Nat.le_of_ble_eq_true rfl) dX9_shoal_14) hS (fun r_3 H locs h hP hS => ?_)
    obtain ⟨hbr_3, h⟩ := h
    refine lv_if_ne (tgt := 23) hx hb dX9_shoal_17 (by decide) (fun c_4 => ?_) (fun c_4 => ?_)
    · have h := h.2 c_4
      refine lv_iload_n hx hb dX9_shoal_23 rfl (lv_at hl 2 rfl) ?_
      refine lv_if_ne (tgt := 42) hx hb dX9_shoal_24 (by decide) (fun c_5 => ?_) (fun c_5 => ?_)
      · have h := h.2 c_5
        refine lv_iload_n hx hb dX9_shoal_42 rfl (lv_at hl 2 rfl) ?_
        refine lv_iconst (v := (nI 1)) hx hb dX9_shoal_43 (by decide) ?_
        refine lv_icmp_ne (tgt := 62) hx hb dX9_shoal_44 (by decide) (fun c_6 => ?_) (fun c_6 => ?_)
        · have h := h.2 c_6
          refine lv_iload_n hx hb dX9_shoal_62 rfl (lv_at hl 2 rfl) ?_
          refine lv_iconst (v := (nI 2)) hx hb dX9_shoal_63 (by decide) ?_
          refine lv_icmp_ne (tgt := 79) hx hb dX9_shoal_64 (by decide) (fun c_7 => ?_) (fun c_7 => ?_)
          · have h := h.2 c_7
            refine lv_bipush (v := (-3 : Int32)) hx hb dX9_shoal_79 (by decide) ?_
            exact s_ri C hP hS ⟨rfl, h⟩ dX9_shoal_81
          · have h := h.1 c_7
            refine lv_aload_n hx hb dX9_shoal_67 rfl (lv_at hl 0 rfl) ?_
            refine s_gR g C hP 0 19 6 (by decide) rfl rfl cfX9 (by decide) kFL_X9_29 dX9_shoal_68 ?_
            refine lv_bipush (v := (nI 39)) hx hb dX9_shoal_71 (by decide) ?_
            refine lv_iload_n hx hb dX9_shoal_73 rfl (lv_at hl 1 rfl) ?_
            refine lv_iadd hx hb dX9_shoal_74 ?_
            have hv_8 := h.1
            have h := h.2
            refine s_aI g C hP 6 (by decide) rfl hv_8 dX9_shoal_75 ?_
            refine lv_goto (tgt := 81) hx hb dX9_shoal_76 (by decide) ?_
            exact s_ri C hP hS ⟨rfl, h⟩ dX9_shoal_81
        · have h := h.1 c_6
          refine lv_aload_n hx hb dX9_shoal_47 rfl (lv_at hl 0 rfl) ?_
          refine s_gR g C hP 0 19 6 (by decide) rfl rfl cfX9 (by decide) kFL_X9_29 dX9_shoal_48 ?_
          refine lv_bipush (v := (nI 35)) hx hb dX9_shoal_51 (by decide) ?_
          refine lv_iload_n hx hb dX9_shoal_53 rfl (lv_at hl 1 rfl) ?_
          refine lv_iadd hx hb dX9_shoal_54 ?_
          have hv_9 := h.1
          have h := h.2
          refine s_aI g C hP 6 (by decide) rfl hv_9 dX9_shoal_55 ?_
          refine lv_bipush (v := (nI 100)) hx hb dX9_shoal_56 (by decide) ?_
          refine lv_iadd hx hb dX9_shoal_58 ?_
          refine lv_goto (tgt := 81) hx hb dX9_shoal_59 (by decide) ?_
          exact s_ri C hP hS ⟨rfl, h⟩ dX9_shoal_81
      · have h := h.1 c_5
        refine lv_aload_n hx hb dX9_shoal_27 rfl (lv_at hl 0 rfl) ?_
        refine s_gR g C hP 0 19 6 (by decide) rfl rfl cfX9 (by decide) kFL_X9_29 dX9_shoal_28 ?_
        refine lv_bipush (v := (nI 31)) hx hb dX9_shoal_31 (by decide) ?_
        refine lv_iload_n hx hb dX9_shoal_33 rfl (lv_at hl 1 rfl) ?_
        refine lv_iadd hx hb dX9_shoal_34 ?_
        have hv_10 := h.1
        have h := h.2
        refine s_aI g C hP 6 (by decide) rfl hv_10 dX9_shoal_35 ?_
        refine lv_bipush (v := (nI 100)) hx hb dX9_shoal_36 (by decide) ?_
        refine lv_iadd hx hb dX9_shoal_38 ?_
        refine lv_goto (tgt := 81) hx hb dX9_shoal_39 (by decide) ?_
        exact s_ri C hP hS ⟨rfl, h⟩ dX9_shoal_81
    · have h := h.1 c_4
      refine lv_bipush (v := (-2 : Int32)) hx hb dX9_shoal_20 (by decide) ?_
      exact s_ri C hP hS ⟨rfl, h⟩ dX9_shoal_22
def q_X9_ask (S : St) (a1 : Int32) (a2 : Int32) (k : Int32 → St → Prop) : Prop := q_X9_isKite S a1 (fun r_1 => ((r_1 = (nI 0) → (k (-2 : Int32) S)) ∧ (¬ r_1 = (nI 0) → (q_X9_in S a2 (nI 0) (nI 3) (fun r_3 => ((r_3 = (nI 0) → (k (-3 : Int32) S)) ∧ (¬ r_3 = (nI 0) → (vp_in ((nI 7) + a1) 1197 ∧ (∀ x3_6 : Int32, x3_6 = (S.1 6 ((nI 7) + a1).toNatClampNeg) → (vp_in ((nI 7) + a1) 1197 ∧ (∀ S_8 : St, S_8 = sI S 6 ((nI 7) + a1).toNatClampNeg a2 → (k x3_6 S_8))))))))))))
set_option maxRecDepth 100000 in
set_option maxHeartbeats 4000000 in
theorem c_X9_ask {l : Launch} {Z : ZT} (hi : injZ 10 Z) (S : St) (a1 : Int32) (a2 : Int32) (k : Int32 → St → Prop) (h : q_X9_ask S a1 a2 k) : Mi l shM 10 Z (gM Z) yX9_ask cX9_ask 4 (Option.some .int) (rmk 2 43) [.ref (Z.2.2.1 0), .int a1, .int a2] S k := by
  have g := gokM hi
  refine e_i (by decide) (Nat.le_of_ble_eq_true rfl) (lv := [(0, .ref (Z.2.2.1 0)), (1, .int a1), (2, .int a2)]) rfl (fun p e s m args below meth c C hP hS ls hl => ?_)
  have hx := C.1.1
  have hb := C.1.2.1
  unfold q_X9_ask at h
  refine lv_aload_n hx hb dX9_ask_0 rfl (lv_at hl 0 rfl) ?_
  refine lv_iload_n hx hb dX9_ask_1 rfl (lv_at hl 1 rfl) ?_
  refine go_ip (run_V g C hP hS (c0 := 0) (As := [.int a1]) (rest := []) (c_X9_isKite hi S a1 _ h) cal_X9_isKite kML_X9_171 (by decide) rfl cfX9 ⟨rfl, rfl, Nat.le_of_ble_eq_true rfl, Nat.le_of_ble_eq_true rfl⟩ rfl rfl hl.1 (Nat.le_of_ble_eq_true rfl) dX9_ask_2) hS (fun r_1 H locs h hP hS => ?_)
  obtain ⟨hbr_1, h⟩ := h
  refine lv_if_ne (tgt := 11) hx hb dX9_ask_5 (by decide) (fun c_2 => ?_) (fun c_2 => ?_)
  · have h := h.2 c_2
    refine lv_iload_n hx hb dX9_ask_11 rfl (lv_at hl 2 rfl) ?_
    refine lv_iconst (v := (nI 0)) hx hb dX9_ask_12 (by decide) ?_
    refine lv_iconst (v := (nI 3)) hx hb dX9_ask_13 (by decide) ?_
    refine go_ip (run_S g C hP hS (As := [.int a2, .int (nI 0), .int (nI 3)]) (rest := []) (c_X9_in hi S a2 (nI 0) (nI 3) _ h) cal_X9_in kML_X9_45 ⟨rfl, rfl, Nat.le_of_ble_eq_true rfl, Nat.le_of_ble_eq_true rfl⟩ rfl rfl hl.1 (Nat.le_of_ble_eq_true rfl) dX9_ask_14) hS (fun r_3 H locs h hP hS => ?_)
    obtain ⟨hbr_3, h⟩ := h
    refine lv_if_ne (tgt := 23) hx hb dX9_ask_17 (by decide) (fun c_4 => ?_) (fun c_4 => ?_)
    · have h := h.2 c_4
      refine lv_aload_n hx hb dX9_ask_23 rfl (lv_at hl 0 rfl) ?_
      refine s_gR g C hP 0 19 6 (by decide) rfl rfl cfX9 (by decide) kFL_X9_29 dX9_ask_24 ?_
      refine lv_bipush (v := (nI 7)) hx hb dX9_ask_27 (by decide) ?_
      refine lv_iload_n hx hb dX9_ask_29 rfl (lv_at hl 1 rfl) ?_
      refine lv_iadd hx hb dX9_ask_30 ?_
      have hv_5 := h.1
      have h := h.2
      refine s_aI g C hP 6 (by decide) rfl hv_5 dX9_ask_31 ?_
      refine lv_topi (fun x3_6 ex3_6 => ?_)
      have h := h x3_6 ex3_6
      refine lv_istore_n (lv' := [(3, .int x3_6), (0, .ref (Z.2.2.1 0)), (1, .int a1), (2, .int a2)]) hx hb dX9_ask_32 rfl hl (by decide) rfl (fun ls hl => ?_)
      refine lv_aload_n hx hb dX9_ask_33 rfl (lv_at hl 1 rfl) ?_
      refine s_gR g C hP 0 19 6 (by decide) rfl rfl cfX9 (by decide) kFL_X9_29 dX9_ask_34 ?_
      refine lv_bipush (v := (nI 7)) hx hb dX9_ask_37 (by decide) ?_
      refine lv_iload_n hx hb dX9_ask_39 rfl (lv_at hl 2 rfl) ?_
      refine lv_iadd hx hb dX9_ask_40 ?_
      refine lv_iload_n hx hb dX9_ask_41 rfl (lv_at hl 3 rfl) ?_
      have hv_7 := h.1
      have h := h.2
      refine s_stI g C hP hS 6 (by decide) rfl hv_7 dX9_ask_42 (fun H locs hP hS => ?_)
      obtain ⟨S_8, eS_8⟩ : ∃ z_ : St, z_ = sI S 6 ((nI 7) + a1).toNatClampNeg a2 := ⟨_, rfl⟩
      rw [← eS_8] at hP
      have h := h S_8 eS_8
      refine lv_iload_n hx hb dX9_ask_43 rfl (lv_at hl 0 rfl) ?_
      exact s_ri C hP hS h dX9_ask_44
    · have h := h.1 c_4
      refine lv_bipush (v := (-3 : Int32)) hx hb dX9_ask_20 (by decide) ?_
      exact s_ri C hP hS h dX9_ask_22
  · have h := h.1 c_2
    refine lv_bipush (v := (-2 : Int32)) hx hb dX9_ask_8 (by decide) ?_
    exact s_ri C hP hS h dX9_ask_10
def q_X9_xOf (S : St) (a1 : Int32) (a2 : Int32) (a3 : Int32) (k : Int32 → Prop) : Prop := vp_in ((nI 5) * a1) 30 ∧ (vp_in ((((nI 24) * a2) + ((nI 2) * a3)) + (nI 1)) 96 ∧ (vp_in (((nI 5) * a1) + (nI 2)) 30 ∧ (k ((S.1 2 ((nI 5) * a1).toNatClampNeg) + (((S.1 1 ((((nI 24) * a2) + ((nI 2) * a3)) + (nI 1)).toNatClampNeg) * (S.1 2 (((nI 5) * a1) + (nI 2)).toNatClampNeg)) / (nI 3))))))
set_option maxRecDepth 100000 in
set_option maxHeartbeats 4000000 in
theorem c_X9_xOf {l : Launch} {Z : ZT} (hi : injZ 10 Z) (S : St) (a1 : Int32) (a2 : Int32) (a3 : Int32) (k : Int32 → Prop) (h : q_X9_xOf S a1 a2 a3 k) : Mi l shM 10 Z (gM Z) yX9_xOf cX9_xOf 4 (Option.some .int) (rmk 0 0) [.ref (Z.2.2.1 0), .int a1, .int a2, .int a3] S (fun r S' => S' = S ∧ k r) := by
  have g := gokM hi
  refine e_i (by decide) (Nat.le_of_ble_eq_true rfl) (lv := [(0, .ref (Z.2.2.1 0)), (1, .int a1), (2, .int a2), (3, .int a3)]) rfl (fun p e s m args below meth c C hP hS ls hl => ?_)
  have hx := C.1.1
  have hb := C.1.2.1
  unfold q_X9_xOf at h
  refine lv_aload_n hx hb dX9_xOf_0 rfl (lv_at hl 0 rfl) ?_
  refine s_gR g C hP 0 2 2 (by decide) rfl rfl cfX9 (by decide) kFL_X9_13 dX9_xOf_1 ?_
  refine lv_iconst (v := (nI 5)) hx hb dX9_xOf_4 (by decide) ?_
  refine lv_iload_n hx hb dX9_xOf_5 rfl (lv_at hl 1 rfl) ?_
  refine lv_imul hx hb dX9_xOf_6 ?_
  have hv_1 := h.1
  have h := h.2
  refine s_aI g C hP 2 (by decide) rfl hv_1 dX9_xOf_7 ?_
  refine lv_aload_n hx hb dX9_xOf_8 rfl (lv_at hl 0 rfl) ?_
  refine s_gR g C hP 0 0 1 (by decide) rfl rfl cfX9 (by decide) kFL_X9_7 dX9_xOf_9 ?_
  refine lv_bipush (v := (nI 24)) hx hb dX9_xOf_12 (by decide) ?_
  refine lv_iload_n hx hb dX9_xOf_14 rfl (lv_at hl 2 rfl) ?_
  refine lv_imul hx hb dX9_xOf_15 ?_
  refine lv_iconst (v := (nI 2)) hx hb dX9_xOf_16 (by decide) ?_
  refine lv_iload_n hx hb dX9_xOf_17 rfl (lv_at hl 3 rfl) ?_
  refine lv_imul hx hb dX9_xOf_18 ?_
  refine lv_iadd hx hb dX9_xOf_19 ?_
  refine lv_iconst (v := (nI 1)) hx hb dX9_xOf_20 (by decide) ?_
  refine lv_iadd hx hb dX9_xOf_21 ?_
  have hv_2 := h.1
  have h := h.2
  refine s_aI g C hP 1 (by decide) rfl hv_2 dX9_xOf_22 ?_
  refine lv_aload_n hx hb dX9_xOf_23 rfl (lv_at hl 0 rfl) ?_
  refine s_gR g C hP 0 2 2 (by decide) rfl rfl cfX9 (by decide) kFL_X9_13 dX9_xOf_24 ?_
  refine lv_iconst (v := (nI 5)) hx hb dX9_xOf_27 (by decide) ?_
  refine lv_iload_n hx hb dX9_xOf_28 rfl (lv_at hl 1 rfl) ?_
  refine lv_imul hx hb dX9_xOf_29 ?_
  refine lv_iconst (v := (nI 2)) hx hb dX9_xOf_30 (by decide) ?_
  refine lv_iadd hx hb dX9_xOf_31 ?_
  have hv_3 := h.1
  have h := h.2
  refine s_aI g C hP 2 (by decide) rfl hv_3 dX9_xOf_32 ?_
  refine lv_imul hx hb dX9_xOf_33 ?_
  refine lv_iconst (v := (nI 3)) hx hb dX9_xOf_34 (by decide) ?_
  refine lv_idiv hx hb dX9_xOf_35 (by decide) ?_
  refine lv_iadd hx hb dX9_xOf_36 ?_
  exact s_ri C hP hS ⟨rfl, h⟩ dX9_xOf_37
def q_X9_yOf (S : St) (a1 : Int32) (a2 : Int32) (k : Int32 → Prop) : Prop := vp_in (((nI 5) * a1) + (nI 2)) 30 ∧ (k ((S.1 2 (((nI 5) * a1) + (nI 2)).toNatClampNeg) - a2))
set_option maxRecDepth 100000 in
set_option maxHeartbeats 4000000 in
theorem c_X9_yOf {l : Launch} {Z : ZT} (hi : injZ 10 Z) (S : St) (a1 : Int32) (a2 : Int32) (k : Int32 → Prop) (h : q_X9_yOf S a1 a2 k) : Mi l shM 10 Z (gM Z) yX9_yOf cX9_yOf 3 (Option.some .int) (rmk 0 0) [.ref (Z.2.2.1 0), .int a1, .int a2] S (fun r S' => S' = S ∧ k r) := by
  have g := gokM hi
  refine e_i (by decide) (Nat.le_of_ble_eq_true rfl) (lv := [(0, .ref (Z.2.2.1 0)), (1, .int a1), (2, .int a2)]) rfl (fun p e s m args below meth c C hP hS ls hl => ?_)
  have hx := C.1.1
  have hb := C.1.2.1
  unfold q_X9_yOf at h
  refine lv_aload_n hx hb dX9_yOf_0 rfl (lv_at hl 0 rfl) ?_
  refine s_gR g C hP 0 2 2 (by decide) rfl rfl cfX9 (by decide) kFL_X9_13 dX9_yOf_1 ?_
  refine lv_iconst (v := (nI 5)) hx hb dX9_yOf_4 (by decide) ?_
  refine lv_iload_n hx hb dX9_yOf_5 rfl (lv_at hl 1 rfl) ?_
  refine lv_imul hx hb dX9_yOf_6 ?_
  refine lv_iconst (v := (nI 2)) hx hb dX9_yOf_7 (by decide) ?_
  refine lv_iadd hx hb dX9_yOf_8 ?_
  have hv_1 := h.1
  have h := h.2
  refine s_aI g C hP 2 (by decide) rfl hv_1 dX9_yOf_9 ?_
  refine lv_iload_n hx hb dX9_yOf_10 rfl (lv_at hl 2 rfl) ?_
  refine lv_isub hx hb dX9_yOf_11 ?_
  exact s_ri C hP hS ⟨rfl, h⟩ dX9_yOf_12
def q_X9_isInSea (S : St) (a1 : Int32) (a2 : Int32) (a3 : Int32) (k : Int32 → Prop) : Prop := q_X9_xOf S a1 a2 a3 (fun r_1 => (q_X9_in S r_1 (nI 0) (nI 9) (fun r_2 => ((r_2 = (nI 0) → (k (nI 0))) ∧ (¬ r_2 = (nI 0) → (q_X9_yOf S a1 a2 (fun r_4 => (q_X9_in S r_4 (nI 1) (nI 6) (fun r_5 => ((r_5 = (nI 0) → (k (nI 0))) ∧ (¬ r_5 = (nI 0) → (k (nI 1)))))))))))))
set_option maxRecDepth 100000 in
set_option maxHeartbeats 4000000 in
theorem c_X9_isInSea {l : Launch} {Z : ZT} (hi : injZ 10 Z) (S : St) (a1 : Int32) (a2 : Int32) (a3 : Int32) (k : Int32 → Prop) (h : q_X9_isInSea S a1 a2 a3 k) : Mi l shM 10 Z (gM Z) yX9_isInSea cX9_isInSea 4 (Option.some .boolean) (rmk 1 23) [.ref (Z.2.2.1 0), .int a1, .int a2, .int a3] S (fun r S' => S' = S ∧ (r = 0 ∨ r = 1) ∧ k r) := by
  have g := gokM hi
  refine e_i (by decide) (Nat.le_of_ble_eq_true rfl) (lv := [(0, .ref (Z.2.2.1 0)), (1, .int a1), (2, .int a2), (3, .int a3)]) rfl (fun p e s m args below meth c C hP hS ls hl => ?_)
  have hx := C.1.1
  have hb := C.1.2.1
  unfold q_X9_isInSea at h
  refine lv_aload_n hx hb dX9_isInSea_0 rfl (lv_at hl 0 rfl) ?_
  refine lv_iload_n hx hb dX9_isInSea_1 rfl (lv_at hl 1 rfl) ?_
  refine lv_iload_n hx hb dX9_isInSea_2 rfl (lv_at hl 2 rfl) ?_
  refine lv_iload_n hx hb dX9_isInSea_3 rfl (lv_at hl 3 rfl) ?_
  refine go_ip (run_V g C hP hS (c0 := 0) (As := [.int a1, .int a2, .int a3]) (rest := []) (c_X9_xOf hi S a1 a2 a3 _ h) cal_X9_xOf kML_X9_174 (by decide) rfl cfX9 ⟨rfl, rfl, Nat.le_of_ble_eq_true rfl, Nat.le_of_ble_eq_true rfl⟩ rfl rfl hl.1 (Nat.le_of_ble_eq_true rfl) dX9_isInSea_4) hS (fun r_1 H locs h hP hS => ?_)
  refine lv_iconst (v := (nI 0)) hx hb dX9_isInSea_7 (by decide) ?_
  refine lv_bipush (v := (nI 9)) hx hb dX9_isInSea_8 (by decide) ?_
  refine go_ip (run_S g C hP hS (As := [.int r_1, .int (nI 0), .int (nI 9)]) (rest := []) (c_X9_in hi S r_1 (nI 0) (nI 9) _ h) cal_X9_in kML_X9_45 ⟨rfl, rfl, Nat.le_of_ble_eq_true rfl, Nat.le_of_ble_eq_true rfl⟩ rfl rfl hl.1 (Nat.le_of_ble_eq_true rfl) dX9_isInSea_10) hS (fun r_2 H locs h hP hS => ?_)
  obtain ⟨hbr_2, h⟩ := h
  refine lv_if_eq (tgt := 35) hx hb dX9_isInSea_13 (by decide) (fun c_3 => ?_) (fun c_3 => ?_)
  · have h := h.1 c_3
    refine lv_iconst (v := (nI 0)) hx hb dX9_isInSea_35 (by decide) ?_
    exact s_rz C hP hS (nar_b (Or.inl rfl)) ⟨rfl, ⟨(Or.inl rfl), h⟩⟩ dX9_isInSea_36
  · have h := h.2 c_3
    refine lv_aload_n hx hb dX9_isInSea_16 rfl (lv_at hl 0 rfl) ?_
    refine lv_iload_n hx hb dX9_isInSea_17 rfl (lv_at hl 1 rfl) ?_
    refine lv_iload_n hx hb dX9_isInSea_18 rfl (lv_at hl 2 rfl) ?_
    refine go_ip (run_V g C hP hS (c0 := 0) (As := [.int a1, .int a2]) (rest := []) (c_X9_yOf hi S a1 a2 _ h) cal_X9_yOf kML_X9_178 (by decide) rfl cfX9 ⟨rfl, rfl, Nat.le_of_ble_eq_true rfl, Nat.le_of_ble_eq_true rfl⟩ rfl rfl hl.1 (Nat.le_of_ble_eq_true rfl) dX9_isInSea_19) hS (fun r_4 H locs h hP hS => ?_)
    refine lv_iconst (v := (nI 1)) hx hb dX9_isInSea_22 (by decide) ?_
    refine lv_bipush (v := (nI 6)) hx hb dX9_isInSea_23 (by decide) ?_
    refine go_ip (run_S g C hP hS (As := [.int r_4, .int (nI 1), .int (nI 6)]) (rest := []) (c_X9_in hi S r_4 (nI 1) (nI 6) _ h) cal_X9_in kML_X9_45 ⟨rfl, rfl, Nat.le_of_ble_eq_true rfl, Nat.le_of_ble_eq_true rfl⟩ rfl rfl hl.1 (Nat.le_of_ble_eq_true rfl) dX9_isInSea_25) hS (fun r_5 H locs h hP hS => ?_)
    obtain ⟨hbr_5, h⟩ := h
    refine lv_if_eq (tgt := 35) hx hb dX9_isInSea_28 (by decide) (fun c_6 => ?_) (fun c_6 => ?_)
    · have h := h.1 c_6
      refine lv_iconst (v := (nI 0)) hx hb dX9_isInSea_35 (by decide) ?_
      exact s_rz C hP hS (nar_b (Or.inl rfl)) ⟨rfl, ⟨(Or.inl rfl), h⟩⟩ dX9_isInSea_36
    · have h := h.2 c_6
      refine lv_iconst (v := (nI 1)) hx hb dX9_isInSea_31 (by decide) ?_
      refine lv_goto (tgt := 36) hx hb dX9_isInSea_32 (by decide) ?_
      exact s_rz C hP hS (nar_b (Or.inr rfl)) ⟨rfl, ⟨(Or.inr rfl), h⟩⟩ dX9_isInSea_36
def q_X9_hasLift (S : St) (a1 : Int32) (a2 : Int32) (a3 : Int32) (k : Int32 → Prop) : Prop := vp_in (((nI 5) * a1) + (nI 1)) 30 ∧ (vp_in (((nI 24) * a2) + ((nI 2) * a3)) 96 ∧ (vp_in (((nI 5) * a1) + (nI 3)) 30 ∧ ((((S.1 2 (((nI 5) * a1) + (nI 1)).toNatClampNeg) * (S.1 1 (((nI 24) * a2) + ((nI 2) * a3)).toNatClampNeg)) < (S.1 2 (((nI 5) * a1) + (nI 3)).toNatClampNeg) → (k (nI 0))) ∧ (¬ ((S.1 2 (((nI 5) * a1) + (nI 1)).toNatClampNeg) * (S.1 1 (((nI 24) * a2) + ((nI 2) * a3)).toNatClampNeg)) < (S.1 2 (((nI 5) * a1) + (nI 3)).toNatClampNeg) → (k (nI 1))))))
set_option maxRecDepth 100000 in
set_option maxHeartbeats 4000000 in
theorem c_X9_hasLift {l : Launch} {Z : ZT} (hi : injZ 10 Z) (S : St) (a1 : Int32) (a2 : Int32) (a3 : Int32) (k : Int32 → Prop) (h : q_X9_hasLift S a1 a2 a3 k) : Mi l shM 10 Z (gM Z) yX9_hasLift cX9_hasLift 4 (Option.some .boolean) (rmk 0 0) [.ref (Z.2.2.1 0), .int a1, .int a2, .int a3] S (fun r S' => S' = S ∧ (r = 0 ∨ r = 1) ∧ k r) := by
  have g := gokM hi
  refine e_i (by decide) (Nat.le_of_ble_eq_true rfl) (lv := [(0, .ref (Z.2.2.1 0)), (1, .int a1), (2, .int a2), (3, .int a3)]) rfl (fun p e s m args below meth c C hP hS ls hl => ?_)
  have hx := C.1.1
  have hb := C.1.2.1
  unfold q_X9_hasLift at h
  refine lv_aload_n hx hb dX9_hasLift_0 rfl (lv_at hl 0 rfl) ?_
  refine s_gR g C hP 0 2 2 (by decide) rfl rfl cfX9 (by decide) kFL_X9_13 dX9_hasLift_1 ?_
  refine lv_iconst (v := (nI 5)) hx hb dX9_hasLift_4 (by decide) ?_
  refine lv_iload_n hx hb dX9_hasLift_5 rfl (lv_at hl 1 rfl) ?_
  refine lv_imul hx hb dX9_hasLift_6 ?_
  refine lv_iconst (v := (nI 1)) hx hb dX9_hasLift_7 (by decide) ?_
  refine lv_iadd hx hb dX9_hasLift_8 ?_
  have hv_1 := h.1
  have h := h.2
  refine s_aI g C hP 2 (by decide) rfl hv_1 dX9_hasLift_9 ?_
  refine lv_aload_n hx hb dX9_hasLift_10 rfl (lv_at hl 0 rfl) ?_
  refine s_gR g C hP 0 0 1 (by decide) rfl rfl cfX9 (by decide) kFL_X9_7 dX9_hasLift_11 ?_
  refine lv_bipush (v := (nI 24)) hx hb dX9_hasLift_14 (by decide) ?_
  refine lv_iload_n hx hb dX9_hasLift_16 rfl (lv_at hl 2 rfl) ?_
  refine lv_imul hx hb dX9_hasLift_17 ?_
  refine lv_iconst (v := (nI 2)) hx hb dX9_hasLift_18 (by decide) ?_
  refine lv_iload_n hx hb dX9_hasLift_19 rfl (lv_at hl 3 rfl) ?_
  refine lv_imul hx hb dX9_hasLift_20 ?_
  refine lv_iadd hx hb dX9_hasLift_21 ?_
  have hv_2 := h.1
  have h := h.2
  refine s_aI g C hP 1 (by decide) rfl hv_2 dX9_hasLift_22 ?_
  refine lv_imul hx hb dX9_hasLift_23 ?_
  refine lv_aload_n hx hb dX9_hasLift_24 rfl (lv_at hl 0 rfl) ?_
  refine s_gR g C hP 0 2 2 (by decide) rfl rfl cfX9 (by decide) kFL_X9_13 dX9_hasLift_25 ?_
  refine lv_iconst (v := (nI 5)) hx hb dX9_hasLift_28 (by decide) ?_
  refine lv_iload_n hx hb dX9_hasLift_29 rfl (lv_at hl 1 rfl) ?_
  refine lv_imul hx hb dX9_hasLift_30 ?_
  refine lv_iconst (v := (nI 3)) hx hb dX9_hasLift_31 (by decide) ?_
  refine lv_iadd hx hb dX9_hasLift_32 ?_
  have hv_3 := h.1
  have h := h.2
  refine s_aI g C hP 2 (by decide) rfl hv_3 dX9_hasLift_33 ?_
  refine lv_icmp_lt (tgt := 41) hx hb dX9_hasLift_34 (by decide) (fun c_4 => ?_) (fun c_4 => ?_)
  · have h := h.1 c_4
    refine lv_iconst (v := (nI 0)) hx hb dX9_hasLift_41 (by decide) ?_
    exact s_rz C hP hS (nar_b (Or.inl rfl)) ⟨rfl, ⟨(Or.inl rfl), h⟩⟩ dX9_hasLift_42
  · have h := h.2 c_4
    refine lv_iconst (v := (nI 1)) hx hb dX9_hasLift_37 (by decide) ?_
    refine lv_goto (tgt := 42) hx hb dX9_hasLift_38 (by decide) ?_
    exact s_rz C hP hS (nar_b (Or.inr rfl)) ⟨rfl, ⟨(Or.inr rfl), h⟩⟩ dX9_hasLift_42
def q_X9_doTangle (S : St) (a1 : Int32) (a2 : Int32) (a3 : Int32) (a4 : Int32) (k : Int32 → Prop) : Prop := vp_in ((nI 5) * a1) 30 ∧ (vp_in ((nI 5) * a2) 30 ∧ (∀ x5_3 : Int32, x5_3 = ((S.1 2 ((nI 5) * a1).toNatClampNeg) - (S.1 2 ((nI 5) * a2).toNatClampNeg)) → (q_X9_xOf S a1 a3 a4 (fun r_4 => (q_X9_xOf S a2 a3 a4 (fun r_5 => (∀ x6_6 : Int32, x6_6 = (r_4 - r_5) → ((x5_3 = (nI 0) → (k (nI 1))) ∧ (¬ x5_3 = (nI 0) → (((nI 0) ≤ x5_3 → (((nI 0) < x6_6 → (k (nI 0))) ∧ (¬ (nI 0) < x6_6 → (k (nI 1))))) ∧ (¬ (nI 0) ≤ x5_3 → ((x6_6 < (nI 0) → (k (nI 0))) ∧ (¬ x6_6 < (nI 0) → (k (nI 1)))))))))))))))
set_option maxRecDepth 100000 in
set_option maxHeartbeats 4000000 in
theorem c_X9_doTangle {l : Launch} {Z : ZT} (hi : injZ 10 Z) (S : St) (a1 : Int32) (a2 : Int32) (a3 : Int32) (a4 : Int32) (k : Int32 → Prop) (h : q_X9_doTangle S a1 a2 a3 a4 k) : Mi l shM 10 Z (gM Z) yX9_doTangle cX9_doTangle 7 (Option.some .boolean) (rmk 1 23) [.ref (Z.2.2.1 0), .int a1, .int a2, .int a3, .int a4] S (fun r S' => S' = S ∧ (r = 0 ∨ r = 1) ∧ k r) := by
  have g := gokM hi
  refine e_i (by decide) (Nat.le_of_ble_eq_true rfl) (lv := [(0, .ref (Z.2.2.1 0)), (1, .int a1), (2, .int a2), (3, .int a3), (4, .int a4)]) rfl (fun p e s m args below meth c C hP hS ls hl => ?_)
  have hx := C.1.1
  have hb := C.1.2.1
  unfold q_X9_doTangle at h
  refine lv_aload_n hx hb dX9_doTangle_0 rfl (lv_at hl 0 rfl) ?_
  refine s_gR g C hP 0 2 2 (by decide) rfl rfl cfX9 (by decide) kFL_X9_13 dX9_doTangle_1 ?_
  refine lv_iconst (v := (nI 5)) hx hb dX9_doTangle_4 (by decide) ?_
  refine lv_iload_n hx hb dX9_doTangle_5 rfl (lv_at hl 1 rfl) ?_
  refine lv_imul hx hb dX9_doTangle_6 ?_
  have hv_1 := h.1
  have h := h.2
  refine s_aI g C hP 2 (by decide) rfl hv_1 dX9_doTangle_7 ?_
  refine lv_aload_n hx hb dX9_doTangle_8 rfl (lv_at hl 0 rfl) ?_
  refine s_gR g C hP 0 2 2 (by decide) rfl rfl cfX9 (by decide) kFL_X9_13 dX9_doTangle_9 ?_
  refine lv_iconst (v := (nI 5)) hx hb dX9_doTangle_12 (by decide) ?_
  refine lv_iload_n hx hb dX9_doTangle_13 rfl (lv_at hl 2 rfl) ?_
  refine lv_imul hx hb dX9_doTangle_14 ?_
  have hv_2 := h.1
  have h := h.2
  refine s_aI g C hP 2 (by decide) rfl hv_2 dX9_doTangle_15 ?_
  refine lv_isub hx hb dX9_doTangle_16 ?_
  refine lv_topi (fun x5_3 ex5_3 => ?_)
  have h := h x5_3 ex5_3
  refine lv_istore (lv' := [(5, .int x5_3), (0, .ref (Z.2.2.1 0)), (1, .int a1), (2, .int a2), (3, .int a3), (4, .int a4)]) hx hb dX9_doTangle_17 hl (by decide) rfl (fun ls hl => ?_)
  refine lv_aload_n hx hb dX9_doTangle_19 rfl (lv_at hl 1 rfl) ?_
  refine lv_iload_n hx hb dX9_doTangle_20 rfl (lv_at hl 2 rfl) ?_
  refine lv_iload_n hx hb dX9_doTangle_21 rfl (lv_at hl 4 rfl) ?_
  refine lv_iload hx hb dX9_doTangle_22 (lv_at hl 5 rfl) ?_
  refine go_ip (run_V g C hP hS (c0 := 0) (As := [.int a1, .int a3, .int a4]) (rest := []) (c_X9_xOf hi S a1 a3 a4 _ h) cal_X9_xOf kML_X9_174 (by decide) rfl cfX9 ⟨rfl, rfl, Nat.le_of_ble_eq_true rfl, Nat.le_of_ble_eq_true rfl⟩ rfl rfl hl.1 (Nat.le_of_ble_eq_true rfl) dX9_doTangle_24) hS (fun r_4 H locs h hP hS => ?_)
  refine lv_aload_n hx hb dX9_doTangle_27 rfl (lv_at hl 1 rfl) ?_
  refine lv_iload_n hx hb dX9_doTangle_28 rfl (lv_at hl 3 rfl) ?_
  refine lv_iload_n hx hb dX9_doTangle_29 rfl (lv_at hl 4 rfl) ?_
  refine lv_iload hx hb dX9_doTangle_30 (lv_at hl 5 rfl) ?_
  refine go_ip (run_V g C hP hS (c0 := 0) (As := [.int a2, .int a3, .int a4]) (rest := [.int r_4]) (c_X9_xOf hi S a2 a3 a4 _ h) cal_X9_xOf kML_X9_174 (by decide) rfl cfX9 ⟨rfl, rfl, Nat.le_of_ble_eq_true rfl, Nat.le_of_ble_eq_true rfl⟩ rfl rfl hl.1 (Nat.le_of_ble_eq_true rfl) dX9_doTangle_32) hS (fun r_5 H locs h hP hS => ?_)
  refine lv_isub hx hb dX9_doTangle_35 ?_
  refine lv_topi (fun x6_6 ex6_6 => ?_)
  have h := h x6_6 ex6_6
  refine lv_istore (lv' := [(6, .int x6_6), (5, .int x5_3), (0, .ref (Z.2.2.1 0)), (1, .int a1), (2, .int a2), (3, .int a3), (4, .int a4)]) hx hb dX9_doTangle_36 hl (by decide) rfl (fun ls hl => ?_)
  refine lv_iload hx hb dX9_doTangle_38 (lv_at hl 1 rfl) ?_
  refine lv_if_eq (tgt := 61) hx hb dX9_doTangle_40 (by decide) (fun c_7 => ?_) (fun c_7 => ?_)
  · have h := h.1 c_7
    refine lv_iconst (v := (nI 1)) hx hb dX9_doTangle_61 (by decide) ?_
    refine lv_goto (tgt := 66) hx hb dX9_doTangle_62 (by decide) ?_
    exact s_rz C hP hS (nar_b (Or.inr rfl)) ⟨rfl, ⟨(Or.inr rfl), h⟩⟩ dX9_doTangle_66
  · have h := h.2 c_7
    refine lv_iload hx hb dX9_doTangle_43 (lv_at hl 1 rfl) ?_
    refine lv_if_ge (tgt := 56) hx hb dX9_doTangle_45 (by decide) (fun c_8 => ?_) (fun c_8 => ?_)
    · have h := h.1 c_8
      refine lv_iload hx hb dX9_doTangle_56 (lv_at hl 0 rfl) ?_
      refine lv_if_gt (tgt := 65) hx hb dX9_doTangle_58 (by decide) (fun c_9 => ?_) (fun c_9 => ?_)
      · have h := h.1 c_9
        refine lv_iconst (v := (nI 0)) hx hb dX9_doTangle_65 (by decide) ?_
        exact s_rz C hP hS (nar_b (Or.inl rfl)) ⟨rfl, ⟨(Or.inl rfl), h⟩⟩ dX9_doTangle_66
      · have h := h.2 c_9
        refine lv_iconst (v := (nI 1)) hx hb dX9_doTangle_61 (by decide) ?_
        refine lv_goto (tgt := 66) hx hb dX9_doTangle_62 (by decide) ?_
        exact s_rz C hP hS (nar_b (Or.inr rfl)) ⟨rfl, ⟨(Or.inr rfl), h⟩⟩ dX9_doTangle_66
    · have h := h.2 c_8
      refine lv_iload hx hb dX9_doTangle_48 (lv_at hl 0 rfl) ?_
      refine lv_if_lt (tgt := 65) hx hb dX9_doTangle_50 (by decide) (fun c_10 => ?_) (fun c_10 => ?_)
      · have h := h.1 c_10
        refine lv_iconst (v := (nI 0)) hx hb dX9_doTangle_65 (by decide) ?_
        exact s_rz C hP hS (nar_b (Or.inl rfl)) ⟨rfl, ⟨(Or.inl rfl), h⟩⟩ dX9_doTangle_66
      · have h := h.2 c_10
        refine lv_goto (tgt := 61) hx hb dX9_doTangle_53 (by decide) ?_
        refine lv_iconst (v := (nI 1)) hx hb dX9_doTangle_61 (by decide) ?_
        refine lv_goto (tgt := 66) hx hb dX9_doTangle_62 (by decide) ?_
        exact s_rz C hP hS (nar_b (Or.inr rfl)) ⟨rfl, ⟨(Or.inr rfl), h⟩⟩ dX9_doTangle_66
def q_X9_givesWay_64 (a1 : Int32) (a2 : Int32) (S : St) (k : Int32 → Prop) (t0 : Int32) : Prop := ((nI 0) ≤ t0 → (k a2)) ∧ (¬ (nI 0) ≤ t0 → (k a1))
set_option maxRecDepth 100000 in
set_option maxHeartbeats 4000000 in
theorem b_X9_givesWay_64 {p : Program} {l : Launch} {e : Env} {s : State} {m : MethodId} {args : Array Value} {below : List Frame} {meth : Method} {c : Code} {Z : ZT} (hi : injZ 10 Z) (C : Cxt (gM Z) p s m meth c args yX9_givesWay cX9_givesWay 4 (Option.some .int)) {a1 : Int32} {a2 : Int32} {S : St} {k : Int32 → Prop}   (t0 : Int32) (H : Heap) (locs : List Loc) (ls : Array Slot) (hP : va_P Z.1 vwCl (wl shM 10 Z S) H) (hS : va_S (aa 10 Z) s.heap H locs) (hl : lv_has ls 4 [(1, .int a1), (2, .int a2)]) (h : q_X9_givesWay_64 a1 a2 S k t0) : W p l e (rmk 0 0) s m args below meth c H locs 0 0 (Qi below shM 10 Z args s (fun r S' => S' = S ∧ k r)) (F0 m 64 ls [.int t0]) := by
  have g := gokM hi
  have hx := C.1.1
  have hb := C.1.2.1
  unfold q_X9_givesWay_64 at h
  refine lv_istore_n (lv' := [(3, .int t0), (1, .int a1), (2, .int a2)]) hx hb dX9_givesWay_64 rfl hl (by decide) rfl (fun ls hl => ?_)
  refine lv_iload_n hx hb dX9_givesWay_65 rfl (lv_at hl 0 rfl) ?_
  refine lv_if_ge (tgt := 73) hx hb dX9_givesWay_66 (by decide) (fun c_1 => ?_) (fun c_1 => ?_)
  · have h := h.1 c_1
    refine lv_iload_n hx hb dX9_givesWay_73 rfl (lv_at hl 2 rfl) ?_
    exact s_ri C hP hS ⟨rfl, h⟩ dX9_givesWay_74
  · have h := h.2 c_1
    refine lv_iload_n hx hb dX9_givesWay_69 rfl (lv_at hl 1 rfl) ?_
    refine lv_goto (tgt := 74) hx hb dX9_givesWay_70 (by decide) ?_
    exact s_ri C hP hS ⟨rfl, h⟩ dX9_givesWay_74
def q_X9_givesWay (S : St) (a1 : Int32) (a2 : Int32) (k : Int32 → Prop) : Prop := ((S.1 0 5) = (nI 0) → (vp_in (((nI 5) * a1) + (nI 1)) 30 ∧ (vp_in (((nI 5) * a2) + (nI 1)) 30 ∧ (q_X9_givesWay_64 a1 a2 S k ((S.1 2 (((nI 5) * a1) + (nI 1)).toNatClampNeg) - (S.1 2 (((nI 5) * a2) + (nI 1)).toNatClampNeg)))))) ∧ (¬ (S.1 0 5) = (nI 0) → (((S.1 0 5) = (nI 1) → (vp_in (((nI 5) * a2) + (nI 4)) 30 ∧ (vp_in (((nI 5) * a1) + (nI 4)) 30 ∧ (q_X9_givesWay_64 a1 a2 S k ((S.1 2 (((nI 5) * a2) + (nI 4)).toNatClampNeg) - (S.1 2 (((nI 5) * a1) + (nI 4)).toNatClampNeg)))))) ∧ (¬ (S.1 0 5) = (nI 1) → (q_X9_givesWay_64 a1 a2 S k (nI 0)))))
set_option maxRecDepth 100000 in
set_option maxHeartbeats 4000000 in
theorem c_X9_givesWay {l : Launch} {Z : ZT} (hi : injZ 10 Z) (S : St) (a1 : Int32) (a2 : Int32) (k : Int32 → Prop) (h : q_X9_givesWay S a1 a2 k) : Mi l shM 10 Z (gM Z) yX9_givesWay cX9_givesWay 4 (Option.some .int) (rmk 0 0) [.ref (Z.2.2.1 0), .int a1, .int a2] S (fun r S' => S' = S ∧ k r) := by
  have g := gokM hi
  refine e_i (by decide) (Nat.le_of_ble_eq_true rfl) (lv := [(0, .ref (Z.2.2.1 0)), (1, .int a1), (2, .int a2)]) rfl (fun p e s m args below meth c C hP hS ls hl => ?_)
  have hx := C.1.1
  have hb := C.1.2.1
  unfold q_X9_givesWay at h
  refine lv_aload_n hx hb dX9_givesWay_0 rfl (lv_at hl 0 rfl) ?_
  refine s_gI g C hP 0 5 (by decide) rfl rfl cfX9 (by decide) kFL_X9_152 dX9_givesWay_1 ?_
  refine lv_if_ne (tgt := 31) hx hb dX9_givesWay_4 (by decide) (fun c_1 => ?_) (fun c_1 => ?_)
  · have h := h.2 c_1
    refine lv_aload_n hx hb dX9_givesWay_31 rfl (lv_at hl 0 rfl) ?_
    refine s_gI g C hP 0 5 (by decide) rfl rfl cfX9 (by decide) kFL_X9_152 dX9_givesWay_32 ?_
    refine lv_iconst (v := (nI 1)) hx hb dX9_givesWay_35 (by decide) ?_
    refine lv_icmp_ne (tgt := 63) hx hb dX9_givesWay_36 (by decide) (fun c_2 => ?_) (fun c_2 => ?_)
    · have h := h.2 c_2
      refine lv_iconst (v := (nI 0)) hx hb dX9_givesWay_63 (by decide) ?_
      exact b_X9_givesWay_64 hi C  _ _ _ _ hP hS (lv_sub hl [1, 2] rfl) h
    · have h := h.1 c_2
      refine lv_aload_n hx hb dX9_givesWay_39 rfl (lv_at hl 0 rfl) ?_
      refine s_gR g C hP 0 2 2 (by decide) rfl rfl cfX9 (by decide) kFL_X9_13 dX9_givesWay_40 ?_
      refine lv_iconst (v := (nI 5)) hx hb dX9_givesWay_43 (by decide) ?_
      refine lv_iload_n hx hb dX9_givesWay_44 rfl (lv_at hl 2 rfl) ?_
      refine lv_imul hx hb dX9_givesWay_45 ?_
      refine lv_iconst (v := (nI 4)) hx hb dX9_givesWay_46 (by decide) ?_
      refine lv_iadd hx hb dX9_givesWay_47 ?_
      have hv_3 := h.1
      have h := h.2
      refine s_aI g C hP 2 (by decide) rfl hv_3 dX9_givesWay_48 ?_
      refine lv_aload_n hx hb dX9_givesWay_49 rfl (lv_at hl 0 rfl) ?_
      refine s_gR g C hP 0 2 2 (by decide) rfl rfl cfX9 (by decide) kFL_X9_13 dX9_givesWay_50 ?_
      refine lv_iconst (v := (nI 5)) hx hb dX9_givesWay_53 (by decide) ?_
      refine lv_iload_n hx hb dX9_givesWay_54 rfl (lv_at hl 1 rfl) ?_
      refine lv_imul hx hb dX9_givesWay_55 ?_
      refine lv_iconst (v := (nI 4)) hx hb dX9_givesWay_56 (by decide) ?_
      refine lv_iadd hx hb dX9_givesWay_57 ?_
      have hv_4 := h.1
      have h := h.2
      refine s_aI g C hP 2 (by decide) rfl hv_4 dX9_givesWay_58 ?_
      refine lv_isub hx hb dX9_givesWay_59 ?_
      refine lv_goto (tgt := 64) hx hb dX9_givesWay_60 (by decide) ?_
      exact b_X9_givesWay_64 hi C  _ _ _ _ hP hS (lv_sub hl [1, 2] rfl) h
  · have h := h.1 c_1
    refine lv_aload_n hx hb dX9_givesWay_7 rfl (lv_at hl 0 rfl) ?_
    refine s_gR g C hP 0 2 2 (by decide) rfl rfl cfX9 (by decide) kFL_X9_13 dX9_givesWay_8 ?_
    refine lv_iconst (v := (nI 5)) hx hb dX9_givesWay_11 (by decide) ?_
    refine lv_iload_n hx hb dX9_givesWay_12 rfl (lv_at hl 1 rfl) ?_
    refine lv_imul hx hb dX9_givesWay_13 ?_
    refine lv_iconst (v := (nI 1)) hx hb dX9_givesWay_14 (by decide) ?_
    refine lv_iadd hx hb dX9_givesWay_15 ?_
    have hv_5 := h.1
    have h := h.2
    refine s_aI g C hP 2 (by decide) rfl hv_5 dX9_givesWay_16 ?_
    refine lv_aload_n hx hb dX9_givesWay_17 rfl (lv_at hl 0 rfl) ?_
    refine s_gR g C hP 0 2 2 (by decide) rfl rfl cfX9 (by decide) kFL_X9_13 dX9_givesWay_18 ?_
    refine lv_iconst (v := (nI 5)) hx hb dX9_givesWay_21 (by decide) ?_
    refine lv_iload_n hx hb dX9_givesWay_22 rfl (lv_at hl 2 rfl) ?_
    refine lv_imul hx hb dX9_givesWay_23 ?_
    refine lv_iconst (v := (nI 1)) hx hb dX9_givesWay_24 (by decide) ?_
    refine lv_iadd hx hb dX9_givesWay_25 ?_
    have hv_6 := h.1
    have h := h.2
    refine s_aI g C hP 2 (by decide) rfl hv_6 dX9_givesWay_26 ?_
    refine lv_isub hx hb dX9_givesWay_27 ?_
    refine lv_goto (tgt := 64) hx hb dX9_givesWay_28 (by decide) ?_
    exact b_X9_givesWay_64 hi C  _ _ _ _ hP hS (lv_sub hl [1, 2] rfl) h
def q_X9_findUp_283 (a1 : Int32) (k : St → Prop) (e_168 : St → Int32 → Prop) (e_179 : St → Int32 → Int32 → Prop) (S : St) (x3 : Int32) (x4 : Int32) : Prop := ∀ x4_1 : Int32, x4_1 = x4 + (nI 1) → (e_179 S x3 x4_1)
set_option maxRecDepth 100000 in
set_option maxHeartbeats 4000000 in
theorem b_X9_findUp_283 {p : Program} {l : Launch} {e : Env} {s : State} {m : MethodId} {args : Array Value} {below : List Frame} {meth : Method} {c : Code} {Z : ZT} (hi : injZ 10 Z) (C : Cxt (gM Z) p s m meth c args yX9_findUp cX9_findUp 7 none) {a1 : Int32} {k : St → Prop} {e_168 : St → Int32 → Prop} {e_179 : St → Int32 → Int32 → Prop}  (he_168 : ∀ (S : St) (x3 : Int32) (H : Heap) (locs : List Loc) (ls : Array Slot), va_P Z.1 vwCl (wl shM 10 Z S) H → va_S (aa 10 Z) s.heap H locs → lv_has ls 7 [(0, .ref (Z.2.2.1 0)), (1, .int a1), (3, .int x3)] → e_168 S x3 → W p l e (rmk 2 49) s m args below meth c H locs 0 0 (Qv below shM 10 Z args s k) (F0 m 168 ls [])) (he_179 : ∀ (S : St) (x3 : Int32) (x4 : Int32) (H : Heap) (locs : List Loc) (ls : Array Slot), va_P Z.1 vwCl (wl shM 10 Z S) H → va_S (aa 10 Z) s.heap H locs → lv_has ls 7 [(0, .ref (Z.2.2.1 0)), (1, .int a1), (3, .int x3), (4, .int x4)] → e_179 S x3 x4 → W p l e (rmk 2 49) s m args below meth c H locs 0 0 (Qv below shM 10 Z args s k) (F0 m 179 ls [])) (S : St) (x3 : Int32) (x4 : Int32) (H : Heap) (locs : List Loc) (ls : Array Slot) (hP : va_P Z.1 vwCl (wl shM 10 Z S) H) (hS : va_S (aa 10 Z) s.heap H locs) (hl : lv_has ls 7 [(0, .ref (Z.2.2.1 0)), (1, .int a1), (3, .int x3), (4, .int x4)]) (h : q_X9_findUp_283 a1 k e_168 e_179 S x3 x4) : W p l e (rmk 2 49) s m args below meth c H locs 0 0 (Qv below shM 10 Z args s k) (F0 m 283 ls []) := by
  have g := gokM hi
  have hx := C.1.1
  have hb := C.1.2.1
  unfold q_X9_findUp_283 at h
  obtain ⟨x4_1, ex4_1⟩ : ∃ y_ : Int32, y_ = x4 + (nI 1) := ⟨_, rfl⟩
  have h := h x4_1 ex4_1
  refine lv_iinc (v := x4_1) (lv' := [(4, .int x4_1), (0, .ref (Z.2.2.1 0)), (1, .int a1), (3, .int x3)]) hx hb dX9_findUp_283 hl (k := 3) rfl (by rw [ex4_1]; rfl) (by decide) rfl (fun ls hl => ?_)
  refine lv_goto (tgt := 179) hx hb dX9_findUp_286 (by decide) ?_
  exact he_179 _ _ _ _ _ _ hP hS (lv_sub hl [1, 2, 3, 0] rfl) h
def q_X9_findUp_179 (a1 : Int32) (k : St → Prop) (e_168 : St → Int32 → Prop) : Nat → St → Int32 → Int32 → Prop := fun n_ => Nat.rec (motive := fun _ => St → Int32 → Int32 → Prop) (fun _ _ _ => False) (fun _ ih => fun S x3 x4 => ((nI 6) ≤ x4 → (∀ x3_2 : Int32, x3_2 = x3 + (nI 1) → (e_168 S x3_2))) ∧ (¬ (nI 6) ≤ x4 → (vp_in ((nI 7) + x3) 1197 ∧ (∀ x5_4 : Int32, x5_4 = (S.1 6 ((nI 7) + x3).toNatClampNeg) → (vp_in ((nI 1) + x3) 1197 ∧ (((S.1 6 ((nI 1) + x3).toNatClampNeg) = (nI 1) → (vp_in ((nI 1) + x4) 1197 ∧ (((S.1 6 ((nI 1) + x4).toNatClampNeg) = (nI 1) → (vp_in ((nI 7) + x4) 1197 ∧ ((x5_4 = (S.1 6 ((nI 7) + x4).toNatClampNeg) → (q_X9_doTangle S x3 x4 x5_4 a1 (fun r_11 => ((r_11 = (nI 0) → (q_X9_findUp_283 a1 k e_168 ih S x3 x4)) ∧ (¬ r_11 = (nI 0) → (q_X9_givesWay S x3 x4 (fun r_13 => (vp_in ((nI 1) + r_13) 1197 ∧ (∀ S_15 : St, S_15 = sI S 6 ((nI 1) + r_13).toNatClampNeg (nI 0) → (vp_in ((nI 25) + r_13) 1197 ∧ (vp_in ((nI 25) + r_13) 1197 ∧ (∀ S_18 : St, S_18 = sI S_15 6 ((nI 25) + r_13).toNatClampNeg ((S_15.1 6 ((nI 25) + r_13).toNatClampNeg) + (nI 1)) → (q_X9_findUp_283 a1 k e_168 ih S_18 x3 x4))))))))))))) ∧ (¬ x5_4 = (S.1 6 ((nI 7) + x4).toNatClampNeg) → (q_X9_findUp_283 a1 k e_168 ih S x3 x4))))) ∧ (¬ (S.1 6 ((nI 1) + x4).toNatClampNeg) = (nI 1) → (q_X9_findUp_283 a1 k e_168 ih S x3 x4))))) ∧ (¬ (S.1 6 ((nI 1) + x3).toNatClampNeg) = (nI 1) → (q_X9_findUp_283 a1 k e_168 ih S x3 x4)))))))) n_
theorem q_X9_findUp_179_s (a1 : Int32) (k : St → Prop) (e_168 : St → Int32 → Prop) (n_ : Nat) (S : St) (x3 : Int32) (x4 : Int32) : q_X9_findUp_179 a1 k e_168 (n_ + 1) S x3 x4 = (((nI 6) ≤ x4 → (∀ x3_2 : Int32, x3_2 = x3 + (nI 1) → (e_168 S x3_2))) ∧ (¬ (nI 6) ≤ x4 → (vp_in ((nI 7) + x3) 1197 ∧ (∀ x5_4 : Int32, x5_4 = (S.1 6 ((nI 7) + x3).toNatClampNeg) → (vp_in ((nI 1) + x3) 1197 ∧ (((S.1 6 ((nI 1) + x3).toNatClampNeg) = (nI 1) → (vp_in ((nI 1) + x4) 1197 ∧ (((S.1 6 ((nI 1) + x4).toNatClampNeg) = (nI 1) → (vp_in ((nI 7) + x4) 1197 ∧ ((x5_4 = (S.1 6 ((nI 7) + x4).toNatClampNeg) → (q_X9_doTangle S x3 x4 x5_4 a1 (fun r_11 => ((r_11 = (nI 0) → (q_X9_findUp_283 a1 k e_168 (q_X9_findUp_179 a1 k e_168 n_) S x3 x4)) ∧ (¬ r_11 = (nI 0) → (q_X9_givesWay S x3 x4 (fun r_13 => (vp_in ((nI 1) + r_13) 1197 ∧ (∀ S_15 : St, S_15 = sI S 6 ((nI 1) + r_13).toNatClampNeg (nI 0) → (vp_in ((nI 25) + r_13) 1197 ∧ (vp_in ((nI 25) + r_13) 1197 ∧ (∀ S_18 : St, S_18 = sI S_15 6 ((nI 25) + r_13).toNatClampNeg ((S_15.1 6 ((nI 25) + r_13).toNatClampNeg) + (nI 1)) → (q_X9_findUp_283 a1 k e_168 (q_X9_findUp_179 a1 k e_168 n_) S_18 x3 x4))))))))))))) ∧ (¬ x5_4 = (S.1 6 ((nI 7) + x4).toNatClampNeg) → (q_X9_findUp_283 a1 k e_168 (q_X9_findUp_179 a1 k e_168 n_) S x3 x4))))) ∧ (¬ (S.1 6 ((nI 1) + x4).toNatClampNeg) = (nI 1) → (q_X9_findUp_283 a1 k e_168 (q_X9_findUp_179 a1 k e_168 n_) S x3 x4))))) ∧ (¬ (S.1 6 ((nI 1) + x3).toNatClampNeg) = (nI 1) → (q_X9_findUp_283 a1 k e_168 (q_X9_findUp_179 a1 k e_168 n_) S x3 x4)))))))) := rfl
set_option maxRecDepth 100000 in
set_option maxHeartbeats 4000000 in
theorem b_X9_findUp_179 {p : Program} {l : Launch} {e : Env} {s : State} {m : MethodId} {args : Array Value} {below : List Frame} {meth : Method} {c : Code} {Z : ZT} (hi : injZ 10 Z) (C : Cxt (gM Z) p s m meth c args yX9_findUp cX9_findUp 7 none) {a1 : Int32} {k : St → Prop} {e_168 : St → Int32 → Prop}  (he_168 : ∀ (S : St) (x3 : Int32) (H : Heap) (locs : List Loc) (ls : Array Slot), va_P Z.1 vwCl (wl shM 10 Z S) H → va_S (aa 10 Z) s.heap H locs → lv_has ls 7 [(0, .ref (Z.2.2.1 0)), (1, .int a1), (3, .int x3)] → e_168 S x3 → W p l e (rmk 2 49) s m args below meth c H locs 0 0 (Qv below shM 10 Z args s k) (F0 m 168 ls [])) : ∀ (n_ : Nat) (S : St) (x3 : Int32) (x4 : Int32) (H : Heap) (locs : List Loc) (ls : Array Slot), va_P Z.1 vwCl (wl shM 10 Z S) H → va_S (aa 10 Z) s.heap H locs → lv_has ls 7 [(0, .ref (Z.2.2.1 0)), (1, .int a1), (3, .int x3), (4, .int x4)] → q_X9_findUp_179 a1 k e_168 n_ S x3 x4 → W p l e (rmk 2 49) s m args below meth c H locs 0 0 (Qv below shM 10 Z args s k) (F0 m 179 ls []) := by
  have g := gokM hi
  have hx := C.1.1
  have hb := C.1.2.1
  intro n_
  induction n_ with
  | zero => intro S x3 x4 H locs ls hP hS hl h; exact h.elim
  | succ n_ ih =>
    intro S x3 x4 H locs ls hP hS hl h
    rw [q_X9_findUp_179_s] at h
    refine lv_iload hx hb dX9_findUp_179 (lv_at hl 3 rfl) ?_
    refine lv_bipush (v := (nI 6)) hx hb dX9_findUp_181 (by decide) ?_
    refine lv_icmp_ge (tgt := 289) hx hb dX9_findUp_183 (by decide) (fun c_1 => ?_) (fun c_1 => ?_)
    · have h := h.1 c_1
      obtain ⟨x3_2, ex3_2⟩ : ∃ y_ : Int32, y_ = x3 + (nI 1) := ⟨_, rfl⟩
      have h := h x3_2 ex3_2
      refine lv_iinc (v := x3_2) (lv' := [(3, .int x3_2), (0, .ref (Z.2.2.1 0)), (1, .int a1), (4, .int x4)]) hx hb dX9_findUp_289 hl (k := 2) rfl (by rw [ex3_2]; rfl) (by decide) rfl (fun ls hl => ?_)
      refine lv_goto (tgt := 168) hx hb dX9_findUp_292 (by decide) ?_
      exact he_168 _ _ _ _ _ hP hS (lv_sub hl [1, 2, 0] rfl) h
    · have h := h.2 c_1
      refine lv_aload_n hx hb dX9_findUp_186 rfl (lv_at hl 0 rfl) ?_
      refine s_gR g C hP 0 19 6 (by decide) rfl rfl cfX9 (by decide) kFL_X9_29 dX9_findUp_187 ?_
      refine lv_bipush (v := (nI 7)) hx hb dX9_findUp_190 (by decide) ?_
      refine lv_iload_n hx hb dX9_findUp_192 rfl (lv_at hl 2 rfl) ?_
      refine lv_iadd hx hb dX9_findUp_193 ?_
      have hv_3 := h.1
      have h := h.2
      refine s_aI g C hP 6 (by decide) rfl hv_3 dX9_findUp_194 ?_
      refine lv_topi (fun x5_4 ex5_4 => ?_)
      have h := h x5_4 ex5_4
      refine lv_istore (lv' := [(5, .int x5_4), (0, .ref (Z.2.2.1 0)), (1, .int a1), (3, .int x3), (4, .int x4)]) hx hb dX9_findUp_195 hl (by decide) rfl (fun ls hl => ?_)
      refine lv_aload_n hx hb dX9_findUp_197 rfl (lv_at hl 1 rfl) ?_
      refine s_gR g C hP 0 19 6 (by decide) rfl rfl cfX9 (by decide) kFL_X9_29 dX9_findUp_198 ?_
      refine lv_iconst (v := (nI 1)) hx hb dX9_findUp_201 (by decide) ?_
      refine lv_iload_n hx hb dX9_findUp_202 rfl (lv_at hl 3 rfl) ?_
      refine lv_iadd hx hb dX9_findUp_203 ?_
      have hv_5 := h.1
      have h := h.2
      refine s_aI g C hP 6 (by decide) rfl hv_5 dX9_findUp_204 ?_
      refine lv_iconst (v := (nI 1)) hx hb dX9_findUp_205 (by decide) ?_
      refine lv_icmp_ne (tgt := 283) hx hb dX9_findUp_206 (by decide) (fun c_6 => ?_) (fun c_6 => ?_)
      · have h := h.2 c_6
        exact b_X9_findUp_283 hi C he_168 ih _ _ _ _ _ _ hP hS (lv_sub hl [1, 2, 3, 4] rfl) h
      · have h := h.1 c_6
        refine lv_aload_n hx hb dX9_findUp_209 rfl (lv_at hl 1 rfl) ?_
        refine s_gR g C hP 0 19 6 (by decide) rfl rfl cfX9 (by decide) kFL_X9_29 dX9_findUp_210 ?_
        refine lv_iconst (v := (nI 1)) hx hb dX9_findUp_213 (by decide) ?_
        refine lv_iload hx hb dX9_findUp_214 (lv_at hl 4 rfl) ?_
        refine lv_iadd hx hb dX9_findUp_216 ?_
        have hv_7 := h.1
        have h := h.2
        refine s_aI g C hP 6 (by decide) rfl hv_7 dX9_findUp_217 ?_
        refine lv_iconst (v := (nI 1)) hx hb dX9_findUp_218 (by decide) ?_
        refine lv_icmp_ne (tgt := 283) hx hb dX9_findUp_219 (by decide) (fun c_8 => ?_) (fun c_8 => ?_)
        · have h := h.2 c_8
          exact b_X9_findUp_283 hi C he_168 ih _ _ _ _ _ _ hP hS (lv_sub hl [1, 2, 3, 4] rfl) h
        · have h := h.1 c_8
          refine lv_iload hx hb dX9_findUp_222 (lv_at hl 0 rfl) ?_
          refine lv_aload_n hx hb dX9_findUp_224 rfl (lv_at hl 1 rfl) ?_
          refine s_gR g C hP 0 19 6 (by decide) rfl rfl cfX9 (by decide) kFL_X9_29 dX9_findUp_225 ?_
          refine lv_bipush (v := (nI 7)) hx hb dX9_findUp_228 (by decide) ?_
          refine lv_iload hx hb dX9_findUp_230 (lv_at hl 4 rfl) ?_
          refine lv_iadd hx hb dX9_findUp_232 ?_
          have hv_9 := h.1
          have h := h.2
          refine s_aI g C hP 6 (by decide) rfl hv_9 dX9_findUp_233 ?_
          refine lv_icmp_ne (tgt := 283) hx hb dX9_findUp_234 (by decide) (fun c_10 => ?_) (fun c_10 => ?_)
          · have h := h.2 c_10
            exact b_X9_findUp_283 hi C he_168 ih _ _ _ _ _ _ hP hS (lv_sub hl [1, 2, 3, 4] rfl) h
          · have h := h.1 c_10
            refine lv_aload_n hx hb dX9_findUp_237 rfl (lv_at hl 1 rfl) ?_
            refine lv_iload_n hx hb dX9_findUp_238 rfl (lv_at hl 3 rfl) ?_
            refine lv_iload hx hb dX9_findUp_239 (lv_at hl 4 rfl) ?_
            refine lv_iload hx hb dX9_findUp_241 (lv_at hl 0 rfl) ?_
            refine lv_iload_n hx hb dX9_findUp_243 rfl (lv_at hl 2 rfl) ?_
            refine go_ip (run_V g C hP hS (c0 := 0) (As := [.int x3, .int x4, .int x5_4, .int a1]) (rest := []) (c_X9_doTangle hi S x3 x4 x5_4 a1 _ h) cal_X9_doTangle kML_X9_188 (by decide) rfl cfX9 ⟨rfl, rfl, Nat.le_of_ble_eq_true rfl, Nat.le_of_ble_eq_true rfl⟩ rfl rfl hl.1 (Nat.le_of_ble_eq_true rfl) dX9_findUp_244) hS (fun r_11 H locs h hP hS => ?_)
            obtain ⟨hbr_11, h⟩ := h
            refine lv_if_eq (tgt := 283) hx hb dX9_findUp_247 (by decide) (fun c_12 => ?_) (fun c_12 => ?_)
            · have h := h.1 c_12
              exact b_X9_findUp_283 hi C he_168 ih _ _ _ _ _ _ hP hS (lv_sub hl [1, 2, 3, 4] rfl) h
            · have h := h.2 c_12
              refine lv_aload_n hx hb dX9_findUp_250 rfl (lv_at hl 1 rfl) ?_
              refine lv_iload_n hx hb dX9_findUp_251 rfl (lv_at hl 3 rfl) ?_
              refine lv_iload hx hb dX9_findUp_252 (lv_at hl 4 rfl) ?_
              refine go_ip (run_V g C hP hS (c0 := 0) (As := [.int x3, .int x4]) (rest := []) (c_X9_givesWay hi S x3 x4 _ h) cal_X9_givesWay kML_X9_192 (by decide) rfl cfX9 ⟨rfl, rfl, Nat.le_of_ble_eq_true rfl, Nat.le_of_ble_eq_true rfl⟩ rfl rfl hl.1 (Nat.le_of_ble_eq_true rfl) dX9_findUp_254) hS (fun r_13 H locs h hP hS => ?_)
              refine lv_istore (lv' := [(6, .int r_13), (5, .int x5_4), (0, .ref (Z.2.2.1 0)), (1, .int a1), (3, .int x3), (4, .int x4)]) hx hb dX9_findUp_257 hl (by decide) rfl (fun ls hl => ?_)
              refine lv_aload_n hx hb dX9_findUp_259 rfl (lv_at hl 2 rfl) ?_
              refine s_gR g C hP 0 19 6 (by decide) rfl rfl cfX9 (by decide) kFL_X9_29 dX9_findUp_260 ?_
              refine lv_iconst (v := (nI 1)) hx hb dX9_findUp_263 (by decide) ?_
              refine lv_iload hx hb dX9_findUp_264 (lv_at hl 0 rfl) ?_
              refine lv_iadd hx hb dX9_findUp_266 ?_
              refine lv_iconst (v := (nI 0)) hx hb dX9_findUp_267 (by decide) ?_
              have hv_14 := h.1
              have h := h.2
              refine s_stI g C hP hS 6 (by decide) rfl hv_14 dX9_findUp_268 (fun H locs hP hS => ?_)
              obtain ⟨S_15, eS_15⟩ : ∃ z_ : St, z_ = sI S 6 ((nI 1) + r_13).toNatClampNeg (nI 0) := ⟨_, rfl⟩
              rw [← eS_15] at hP
              have h := h S_15 eS_15
              refine lv_aload_n hx hb dX9_findUp_269 rfl (lv_at hl 2 rfl) ?_
              refine s_gR g C hP 0 19 6 (by decide) rfl rfl cfX9 (by decide) kFL_X9_29 dX9_findUp_270 ?_
              refine lv_bipush (v := (nI 25)) hx hb dX9_findUp_273 (by decide) ?_
              refine lv_iload hx hb dX9_findUp_275 (lv_at hl 0 rfl) ?_
              refine lv_iadd hx hb dX9_findUp_277 ?_
              refine lv_dup2_11 hx hb dX9_findUp_278 rfl rfl ?_
              have hv_16 := h.1
              have h := h.2
              refine s_aI g C hP 6 (by decide) rfl hv_16 dX9_findUp_279 ?_
              refine lv_iconst (v := (nI 1)) hx hb dX9_findUp_280 (by decide) ?_
              refine lv_iadd hx hb dX9_findUp_281 ?_
              have hv_17 := h.1
              have h := h.2
              refine s_stI g C hP hS 6 (by decide) rfl hv_17 dX9_findUp_282 (fun H locs hP hS => ?_)
              obtain ⟨S_18, eS_18⟩ : ∃ z_ : St, z_ = sI S_15 6 ((nI 25) + r_13).toNatClampNeg ((S_15.1 6 ((nI 25) + r_13).toNatClampNeg) + (nI 1)) := ⟨_, rfl⟩
              rw [← eS_18] at hP
              have h := h S_18 eS_18
              exact b_X9_findUp_283 hi C he_168 ih _ _ _ _ _ _ hP hS (lv_sub hl [2, 3, 4, 5] rfl) h
def q_X9_findUp_168 (a1 : Int32) (k : St → Prop) : Nat → St → Int32 → Prop := fun n_ => Nat.rec (motive := fun _ => St → Int32 → Prop) (fun _ _ => False) (fun _ ih => fun S x3 => ((nI 6) ≤ x3 → (k S)) ∧ (¬ (nI 6) ≤ x3 → (∀ x4_2 : Int32, x4_2 = (x3 + (nI 1)) → (∃ f_179, q_X9_findUp_179 a1 k ih f_179 S x3 x4_2)))) n_
theorem q_X9_findUp_168_s (a1 : Int32) (k : St → Prop) (n_ : Nat) (S : St) (x3 : Int32) : q_X9_findUp_168 a1 k (n_ + 1) S x3 = (((nI 6) ≤ x3 → (k S)) ∧ (¬ (nI 6) ≤ x3 → (∀ x4_2 : Int32, x4_2 = (x3 + (nI 1)) → (∃ f_179, q_X9_findUp_179 a1 k (q_X9_findUp_168 a1 k n_) f_179 S x3 x4_2)))) := rfl
set_option maxRecDepth 100000 in
set_option maxHeartbeats 4000000 in
theorem b_X9_findUp_168 {p : Program} {l : Launch} {e : Env} {s : State} {m : MethodId} {args : Array Value} {below : List Frame} {meth : Method} {c : Code} {Z : ZT} (hi : injZ 10 Z) (C : Cxt (gM Z) p s m meth c args yX9_findUp cX9_findUp 7 none) {a1 : Int32} {k : St → Prop}   : ∀ (n_ : Nat) (S : St) (x3 : Int32) (H : Heap) (locs : List Loc) (ls : Array Slot), va_P Z.1 vwCl (wl shM 10 Z S) H → va_S (aa 10 Z) s.heap H locs → lv_has ls 7 [(0, .ref (Z.2.2.1 0)), (1, .int a1), (3, .int x3)] → q_X9_findUp_168 a1 k n_ S x3 → W p l e (rmk 2 49) s m args below meth c H locs 0 0 (Qv below shM 10 Z args s k) (F0 m 168 ls []) := by
  have g := gokM hi
  have hx := C.1.1
  have hb := C.1.2.1
  intro n_
  induction n_ with
  | zero => intro S x3 H locs ls hP hS hl h; exact h.elim
  | succ n_ ih =>
    intro S x3 H locs ls hP hS hl h
    rw [q_X9_findUp_168_s] at h
    refine lv_iload_n hx hb dX9_findUp_168 rfl (lv_at hl 2 rfl) ?_
    refine lv_bipush (v := (nI 6)) hx hb dX9_findUp_169 (by decide) ?_
    refine lv_icmp_ge (tgt := 295) hx hb dX9_findUp_171 (by decide) (fun c_1 => ?_) (fun c_1 => ?_)
    · have h := h.1 c_1
      exact s_rv C hP hS h dX9_findUp_295
    · have h := h.2 c_1
      refine lv_iload_n hx hb dX9_findUp_174 rfl (lv_at hl 2 rfl) ?_
      refine lv_iconst (v := (nI 1)) hx hb dX9_findUp_175 (by decide) ?_
      refine lv_iadd hx hb dX9_findUp_176 ?_
      refine lv_topi (fun x4_2 ex4_2 => ?_)
      have h := h x4_2 ex4_2
      refine lv_istore (lv' := [(4, .int x4_2), (0, .ref (Z.2.2.1 0)), (1, .int a1), (3, .int x3)]) hx hb dX9_findUp_177 hl (by decide) rfl (fun ls hl => ?_)
      obtain ⟨f_179, h⟩ := h
      exact b_X9_findUp_179 hi C ih f_179 _ _ _ _ _ _ hP hS (lv_sub hl [1, 2, 3, 0] rfl) h
def q_X9_findUp_158 (a1 : Int32) (k : St → Prop) (e_4 : St → Int32 → Int32 → Prop) (S : St) (x3 : Int32) (t0 : Int32) (t1 : Int32) : Prop := ∀ x2_1 : Int32, x2_1 = (t1 + t0) → (∀ x3_2 : Int32, x3_2 = x3 + (nI 1) → (e_4 S x2_1 x3_2))
set_option maxRecDepth 100000 in
set_option maxHeartbeats 4000000 in
theorem b_X9_findUp_158 {p : Program} {l : Launch} {e : Env} {s : State} {m : MethodId} {args : Array Value} {below : List Frame} {meth : Method} {c : Code} {Z : ZT} (hi : injZ 10 Z) (C : Cxt (gM Z) p s m meth c args yX9_findUp cX9_findUp 7 none) {a1 : Int32} {k : St → Prop} {e_4 : St → Int32 → Int32 → Prop}  (he_4 : ∀ (S : St) (x2 : Int32) (x3 : Int32) (H : Heap) (locs : List Loc) (ls : Array Slot), va_P Z.1 vwCl (wl shM 10 Z S) H → va_S (aa 10 Z) s.heap H locs → lv_has ls 7 [(0, .ref (Z.2.2.1 0)), (1, .int a1), (2, .int x2), (3, .int x3)] → e_4 S x2 x3 → W p l e (rmk 2 49) s m args below meth c H locs 0 0 (Qv below shM 10 Z args s k) (F0 m 4 ls [])) (S : St) (x3 : Int32) (t0 : Int32) (t1 : Int32) (H : Heap) (locs : List Loc) (ls : Array Slot) (hP : va_P Z.1 vwCl (wl shM 10 Z S) H) (hS : va_S (aa 10 Z) s.heap H locs) (hl : lv_has ls 7 [(0, .ref (Z.2.2.1 0)), (1, .int a1), (3, .int x3)]) (h : q_X9_findUp_158 a1 k e_4 S x3 t0 t1) : W p l e (rmk 2 49) s m args below meth c H locs 0 0 (Qv below shM 10 Z args s k) (F0 m 158 ls [.int t0, .int t1]) := by
  have g := gokM hi
  have hx := C.1.1
  have hb := C.1.2.1
  unfold q_X9_findUp_158 at h
  refine lv_iadd hx hb dX9_findUp_158 ?_
  refine lv_topi (fun x2_1 ex2_1 => ?_)
  have h := h x2_1 ex2_1
  refine lv_istore_n (lv' := [(2, .int x2_1), (0, .ref (Z.2.2.1 0)), (1, .int a1), (3, .int x3)]) hx hb dX9_findUp_159 rfl hl (by decide) rfl (fun ls hl => ?_)
  obtain ⟨x3_2, ex3_2⟩ : ∃ y_ : Int32, y_ = x3 + (nI 1) := ⟨_, rfl⟩
  have h := h x3_2 ex3_2
  refine lv_iinc (v := x3_2) (lv' := [(3, .int x3_2), (2, .int x2_1), (0, .ref (Z.2.2.1 0)), (1, .int a1)]) hx hb dX9_findUp_160 hl (k := 3) rfl (by rw [ex3_2]; rfl) (by decide) rfl (fun ls hl => ?_)
  refine lv_goto (tgt := 4) hx hb dX9_findUp_163 (by decide) ?_
  exact he_4 _ _ _ _ _ _ hP hS (lv_sub hl [2, 3, 1, 0] rfl) h
def q_X9_findUp_137 (a1 : Int32) (k : St → Prop) (e_4 : St → Int32 → Int32 → Prop) (S : St) (x2 : Int32) (x3 : Int32) (x5 : Int32) (t0 : Int32) (t1 : Int32) : Prop := vp_in t1 1197 ∧ (∀ S_2 : St, S_2 = sI S 6 t1.toNatClampNeg t0 → ((x5 = (nI 0) → (q_X9_findUp_158 a1 k e_4 S_2 x3 (nI 0) x2)) ∧ (¬ x5 = (nI 0) → (vp_in (((nI 5) * x3) + (nI 2)) 30 ∧ (q_X9_findUp_158 a1 k e_4 S_2 x3 (S_2.1 2 (((nI 5) * x3) + (nI 2)).toNatClampNeg) x2)))))
set_option maxRecDepth 100000 in
set_option maxHeartbeats 4000000 in
theorem b_X9_findUp_137 {p : Program} {l : Launch} {e : Env} {s : State} {m : MethodId} {args : Array Value} {below : List Frame} {meth : Method} {c : Code} {Z : ZT} (hi : injZ 10 Z) (C : Cxt (gM Z) p s m meth c args yX9_findUp cX9_findUp 7 none) {a1 : Int32} {k : St → Prop} {e_4 : St → Int32 → Int32 → Prop}  (he_4 : ∀ (S : St) (x2 : Int32) (x3 : Int32) (H : Heap) (locs : List Loc) (ls : Array Slot), va_P Z.1 vwCl (wl shM 10 Z S) H → va_S (aa 10 Z) s.heap H locs → lv_has ls 7 [(0, .ref (Z.2.2.1 0)), (1, .int a1), (2, .int x2), (3, .int x3)] → e_4 S x2 x3 → W p l e (rmk 2 49) s m args below meth c H locs 0 0 (Qv below shM 10 Z args s k) (F0 m 4 ls [])) (S : St) (x2 : Int32) (x3 : Int32) (x5 : Int32) (t0 : Int32) (t1 : Int32) (H : Heap) (locs : List Loc) (ls : Array Slot) (hP : va_P Z.1 vwCl (wl shM 10 Z S) H) (hS : va_S (aa 10 Z) s.heap H locs) (hl : lv_has ls 7 [(0, .ref (Z.2.2.1 0)), (1, .int a1), (2, .int x2), (3, .int x3), (5, .int x5)]) (h : q_X9_findUp_137 a1 k e_4 S x2 x3 x5 t0 t1) : W p l e (rmk 2 49) s m args below meth c H locs 0 0 (Qv below shM 10 Z args s k) (F0 m 137 ls [.int t0, .int t1, .ref (Z.2.2.1 6)]) := by
  have g := gokM hi
  have hx := C.1.1
  have hb := C.1.2.1
  unfold q_X9_findUp_137 at h
  have hv_1 := h.1
  have h := h.2
  refine s_stI g C hP hS 6 (by decide) rfl hv_1 dX9_findUp_137 (fun H locs hP hS => ?_)
  obtain ⟨S_2, eS_2⟩ : ∃ z_ : St, z_ = sI S 6 t1.toNatClampNeg t0 := ⟨_, rfl⟩
  rw [← eS_2] at hP
  have h := h S_2 eS_2
  refine lv_iload_n hx hb dX9_findUp_138 rfl (lv_at hl 2 rfl) ?_
  refine lv_iload hx hb dX9_findUp_139 (lv_at hl 4 rfl) ?_
  refine lv_if_eq (tgt := 157) hx hb dX9_findUp_141 (by decide) (fun c_3 => ?_) (fun c_3 => ?_)
  · have h := h.1 c_3
    refine lv_iconst (v := (nI 0)) hx hb dX9_findUp_157 (by decide) ?_
    exact b_X9_findUp_158 hi C he_4 _ _ _ _ _ _ _ hP hS (lv_sub hl [0, 1, 3] rfl) h
  · have h := h.2 c_3
    refine lv_aload_n hx hb dX9_findUp_144 rfl (lv_at hl 0 rfl) ?_
    refine s_gR g C hP 0 2 2 (by decide) rfl rfl cfX9 (by decide) kFL_X9_13 dX9_findUp_145 ?_
    refine lv_iconst (v := (nI 5)) hx hb dX9_findUp_148 (by decide) ?_
    refine lv_iload_n hx hb dX9_findUp_149 rfl (lv_at hl 3 rfl) ?_
    refine lv_imul hx hb dX9_findUp_150 ?_
    refine lv_iconst (v := (nI 2)) hx hb dX9_findUp_151 (by decide) ?_
    refine lv_iadd hx hb dX9_findUp_152 ?_
    have hv_4 := h.1
    have h := h.2
    refine s_aI g C hP 2 (by decide) rfl hv_4 dX9_findUp_153 ?_
    refine lv_goto (tgt := 158) hx hb dX9_findUp_154 (by decide) ?_
    exact b_X9_findUp_158 hi C he_4 _ _ _ _ _ _ _ hP hS (lv_sub hl [0, 1, 3] rfl) h
def q_X9_findUp_118 (a1 : Int32) (k : St → Prop) (e_4 : St → Int32 → Int32 → Prop) (S : St) (x2 : Int32) (x3 : Int32) (t0 : Int32) : Prop := (t0 = (nI 0) → (q_X9_findUp_137 a1 k e_4 S x2 x3 t0 (nI 0) ((nI 1) + x3))) ∧ (¬ t0 = (nI 0) → (q_X9_findUp_137 a1 k e_4 S x2 x3 t0 (nI 1) ((nI 1) + x3)))
set_option maxRecDepth 100000 in
set_option maxHeartbeats 4000000 in
theorem b_X9_findUp_118 {p : Program} {l : Launch} {e : Env} {s : State} {m : MethodId} {args : Array Value} {below : List Frame} {meth : Method} {c : Code} {Z : ZT} (hi : injZ 10 Z) (C : Cxt (gM Z) p s m meth c args yX9_findUp cX9_findUp 7 none) {a1 : Int32} {k : St → Prop} {e_4 : St → Int32 → Int32 → Prop}  (he_4 : ∀ (S : St) (x2 : Int32) (x3 : Int32) (H : Heap) (locs : List Loc) (ls : Array Slot), va_P Z.1 vwCl (wl shM 10 Z S) H → va_S (aa 10 Z) s.heap H locs → lv_has ls 7 [(0, .ref (Z.2.2.1 0)), (1, .int a1), (2, .int x2), (3, .int x3)] → e_4 S x2 x3 → W p l e (rmk 2 49) s m args below meth c H locs 0 0 (Qv below shM 10 Z args s k) (F0 m 4 ls [])) (S : St) (x2 : Int32) (x3 : Int32) (t0 : Int32) (H : Heap) (locs : List Loc) (ls : Array Slot) (hP : va_P Z.1 vwCl (wl shM 10 Z S) H) (hS : va_S (aa 10 Z) s.heap H locs) (hl : lv_has ls 7 [(0, .ref (Z.2.2.1 0)), (1, .int a1), (2, .int x2), (3, .int x3)]) (h : q_X9_findUp_118 a1 k e_4 S x2 x3 t0) : W p l e (rmk 2 49) s m args below meth c H locs 0 0 (Qv below shM 10 Z args s k) (F0 m 118 ls [.int t0]) := by
  have g := gokM hi
  have hx := C.1.1
  have hb := C.1.2.1
  unfold q_X9_findUp_118 at h
  refine lv_istore (lv' := [(5, .int t0), (0, .ref (Z.2.2.1 0)), (1, .int a1), (2, .int x2), (3, .int x3)]) hx hb dX9_findUp_118 hl (by decide) rfl (fun ls hl => ?_)
  refine lv_aload_n hx hb dX9_findUp_120 rfl (lv_at hl 1 rfl) ?_
  refine s_gR g C hP 0 19 6 (by decide) rfl rfl cfX9 (by decide) kFL_X9_29 dX9_findUp_121 ?_
  refine lv_iconst (v := (nI 1)) hx hb dX9_findUp_124 (by decide) ?_
  refine lv_iload_n hx hb dX9_findUp_125 rfl (lv_at hl 4 rfl) ?_
  refine lv_iadd hx hb dX9_findUp_126 ?_
  refine lv_iload hx hb dX9_findUp_127 (lv_at hl 0 rfl) ?_
  refine lv_if_eq (tgt := 136) hx hb dX9_findUp_129 (by decide) (fun c_1 => ?_) (fun c_1 => ?_)
  · have h := h.1 c_1
    refine lv_iconst (v := (nI 0)) hx hb dX9_findUp_136 (by decide) ?_
    exact b_X9_findUp_137 hi C he_4 _ _ _ _ _ _ _ _ _ hP hS (lv_sub hl [1, 2, 3, 4, 0] rfl) h
  · have h := h.2 c_1
    refine lv_iconst (v := (nI 1)) hx hb dX9_findUp_132 (by decide) ?_
    refine lv_goto (tgt := 137) hx hb dX9_findUp_133 (by decide) ?_
    exact b_X9_findUp_137 hi C he_4 _ _ _ _ _ _ _ _ _ hP hS (lv_sub hl [1, 2, 3, 4, 0] rfl) h
def q_X9_findUp_117 (a1 : Int32) (k : St → Prop) (e_4 : St → Int32 → Int32 → Prop) (S : St) (x2 : Int32) (x3 : Int32) : Prop := q_X9_findUp_118 a1 k e_4 S x2 x3 (nI 0)
set_option maxRecDepth 100000 in
set_option maxHeartbeats 4000000 in
theorem b_X9_findUp_117 {p : Program} {l : Launch} {e : Env} {s : State} {m : MethodId} {args : Array Value} {below : List Frame} {meth : Method} {c : Code} {Z : ZT} (hi : injZ 10 Z) (C : Cxt (gM Z) p s m meth c args yX9_findUp cX9_findUp 7 none) {a1 : Int32} {k : St → Prop} {e_4 : St → Int32 → Int32 → Prop}  (he_4 : ∀ (S : St) (x2 : Int32) (x3 : Int32) (H : Heap) (locs : List Loc) (ls : Array Slot), va_P Z.1 vwCl (wl shM 10 Z S) H → va_S (aa 10 Z) s.heap H locs → lv_has ls 7 [(0, .ref (Z.2.2.1 0)), (1, .int a1), (2, .int x2), (3, .int x3)] → e_4 S x2 x3 → W p l e (rmk 2 49) s m args below meth c H locs 0 0 (Qv below shM 10 Z args s k) (F0 m 4 ls [])) (S : St) (x2 : Int32) (x3 : Int32) (H : Heap) (locs : List Loc) (ls : Array Slot) (hP : va_P Z.1 vwCl (wl shM 10 Z S) H) (hS : va_S (aa 10 Z) s.heap H locs) (hl : lv_has ls 7 [(0, .ref (Z.2.2.1 0)), (1, .int a1), (2, .int x2), (3, .int x3)]) (h : q_X9_findUp_117 a1 k e_4 S x2 x3) : W p l e (rmk 2 49) s m args below meth c H locs 0 0 (Qv below shM 10 Z args s k) (F0 m 117 ls []) := by
  have g := gokM hi
  have hx := C.1.1
  have hb := C.1.2.1
  unfold q_X9_findUp_117 at h
  refine lv_iconst (v := (nI 0)) hx hb dX9_findUp_117 (by decide) ?_
  exact b_X9_findUp_118 hi C he_4 _ _ _ _ _ _ _ hP hS (lv_sub hl [0, 1, 2, 3] rfl) h
def q_X9_findUp_94 (a1 : Int32) (k : St → Prop) (e_4 : St → Int32 → Int32 → Prop) (S : St) (x2 : Int32) (x3 : Int32) : Prop := vp_in (((nI 5) * x3) + (nI 2)) 30 ∧ (((S.1 0 6) < (x2 + (S.1 2 (((nI 5) * x3) + (nI 2)).toNatClampNeg)) → (q_X9_findUp_117 a1 k e_4 S x2 x3)) ∧ (¬ (S.1 0 6) < (x2 + (S.1 2 (((nI 5) * x3) + (nI 2)).toNatClampNeg)) → (q_X9_findUp_118 a1 k e_4 S x2 x3 (nI 1))))
set_option maxRecDepth 100000 in
set_option maxHeartbeats 4000000 in
theorem b_X9_findUp_94 {p : Program} {l : Launch} {e : Env} {s : State} {m : MethodId} {args : Array Value} {below : List Frame} {meth : Method} {c : Code} {Z : ZT} (hi : injZ 10 Z) (C : Cxt (gM Z) p s m meth c args yX9_findUp cX9_findUp 7 none) {a1 : Int32} {k : St → Prop} {e_4 : St → Int32 → Int32 → Prop}  (he_4 : ∀ (S : St) (x2 : Int32) (x3 : Int32) (H : Heap) (locs : List Loc) (ls : Array Slot), va_P Z.1 vwCl (wl shM 10 Z S) H → va_S (aa 10 Z) s.heap H locs → lv_has ls 7 [(0, .ref (Z.2.2.1 0)), (1, .int a1), (2, .int x2), (3, .int x3)] → e_4 S x2 x3 → W p l e (rmk 2 49) s m args below meth c H locs 0 0 (Qv below shM 10 Z args s k) (F0 m 4 ls [])) (S : St) (x2 : Int32) (x3 : Int32) (H : Heap) (locs : List Loc) (ls : Array Slot) (hP : va_P Z.1 vwCl (wl shM 10 Z S) H) (hS : va_S (aa 10 Z) s.heap H locs) (hl : lv_has ls 7 [(0, .ref (Z.2.2.1 0)), (1, .int a1), (2, .int x2), (3, .int x3)]) (h : q_X9_findUp_94 a1 k e_4 S x2 x3) : W p l e (rmk 2 49) s m args below meth c H locs 0 0 (Qv below shM 10 Z args s k) (F0 m 94 ls []) := by
  have g := gokM hi
  have hx := C.1.1
  have hb := C.1.2.1
  unfold q_X9_findUp_94 at h
  refine lv_iload_n hx hb dX9_findUp_94 rfl (lv_at hl 2 rfl) ?_
  refine lv_aload_n hx hb dX9_findUp_95 rfl (lv_at hl 0 rfl) ?_
  refine s_gR g C hP 0 2 2 (by decide) rfl rfl cfX9 (by decide) kFL_X9_13 dX9_findUp_96 ?_
  refine lv_iconst (v := (nI 5)) hx hb dX9_findUp_99 (by decide) ?_
  refine lv_iload_n hx hb dX9_findUp_100 rfl (lv_at hl 3 rfl) ?_
  refine lv_imul hx hb dX9_findUp_101 ?_
  refine lv_iconst (v := (nI 2)) hx hb dX9_findUp_102 (by decide) ?_
  refine lv_iadd hx hb dX9_findUp_103 ?_
  have hv_1 := h.1
  have h := h.2
  refine s_aI g C hP 2 (by decide) rfl hv_1 dX9_findUp_104 ?_
  refine lv_iadd hx hb dX9_findUp_105 ?_
  refine lv_aload_n hx hb dX9_findUp_106 rfl (lv_at hl 0 rfl) ?_
  refine s_gI g C hP 0 6 (by decide) rfl rfl cfX9 (by decide) kFL_X9_19 dX9_findUp_107 ?_
  refine lv_icmp_gt (tgt := 117) hx hb dX9_findUp_110 (by decide) (fun c_2 => ?_) (fun c_2 => ?_)
  · have h := h.1 c_2
    exact b_X9_findUp_117 hi C he_4 _ _ _ _ _ _ hP hS (lv_sub hl [0, 1, 2, 3] rfl) h
  · have h := h.2 c_2
    refine lv_iconst (v := (nI 1)) hx hb dX9_findUp_113 (by decide) ?_
    refine lv_goto (tgt := 118) hx hb dX9_findUp_114 (by decide) ?_
    exact b_X9_findUp_118 hi C he_4 _ _ _ _ _ _ _ hP hS (lv_sub hl [0, 1, 2, 3] rfl) h
def q_X9_findUp_64 (a1 : Int32) (k : St → Prop) (e_4 : St → Int32 → Int32 → Prop) (S : St) (x2 : Int32) (x3 : Int32) (t0 : Int32) : Prop := (t0 = (nI 0) → (q_X9_findUp_117 a1 k e_4 S x2 x3)) ∧ (¬ t0 = (nI 0) → (q_X9_has S (S.1 0 7) a1 (fun r_2 => ((r_2 = (nI 0) → (q_X9_findUp_94 a1 k e_4 S x2 x3)) ∧ (¬ r_2 = (nI 0) → (vp_in ((nI 1) + x3) 1197 ∧ (((S.1 6 ((nI 1) + x3).toNatClampNeg) = (nI 1) → (q_X9_findUp_94 a1 k e_4 S x2 x3)) ∧ (¬ (S.1 6 ((nI 1) + x3).toNatClampNeg) = (nI 1) → (q_X9_findUp_117 a1 k e_4 S x2 x3)))))))))
set_option maxRecDepth 100000 in
set_option maxHeartbeats 4000000 in
theorem b_X9_findUp_64 {p : Program} {l : Launch} {e : Env} {s : State} {m : MethodId} {args : Array Value} {below : List Frame} {meth : Method} {c : Code} {Z : ZT} (hi : injZ 10 Z) (C : Cxt (gM Z) p s m meth c args yX9_findUp cX9_findUp 7 none) {a1 : Int32} {k : St → Prop} {e_4 : St → Int32 → Int32 → Prop}  (he_4 : ∀ (S : St) (x2 : Int32) (x3 : Int32) (H : Heap) (locs : List Loc) (ls : Array Slot), va_P Z.1 vwCl (wl shM 10 Z S) H → va_S (aa 10 Z) s.heap H locs → lv_has ls 7 [(0, .ref (Z.2.2.1 0)), (1, .int a1), (2, .int x2), (3, .int x3)] → e_4 S x2 x3 → W p l e (rmk 2 49) s m args below meth c H locs 0 0 (Qv below shM 10 Z args s k) (F0 m 4 ls [])) (S : St) (x2 : Int32) (x3 : Int32) (t0 : Int32) (H : Heap) (locs : List Loc) (ls : Array Slot) (hP : va_P Z.1 vwCl (wl shM 10 Z S) H) (hS : va_S (aa 10 Z) s.heap H locs) (hl : lv_has ls 7 [(0, .ref (Z.2.2.1 0)), (1, .int a1), (2, .int x2), (3, .int x3)]) (h : q_X9_findUp_64 a1 k e_4 S x2 x3 t0) : W p l e (rmk 2 49) s m args below meth c H locs 0 0 (Qv below shM 10 Z args s k) (F0 m 64 ls [.int t0]) := by
  have g := gokM hi
  have hx := C.1.1
  have hb := C.1.2.1
  unfold q_X9_findUp_64 at h
  refine lv_istore (lv' := [(5, .int t0), (0, .ref (Z.2.2.1 0)), (1, .int a1), (2, .int x2), (3, .int x3)]) hx hb dX9_findUp_64 hl (by decide) rfl (fun ls hl => ?_)
  refine lv_iload hx hb dX9_findUp_66 (lv_at hl 0 rfl) ?_
  refine lv_if_eq (tgt := 117) hx hb dX9_findUp_68 (by decide) (fun c_1 => ?_) (fun c_1 => ?_)
  · have h := h.1 c_1
    exact b_X9_findUp_117 hi C he_4 _ _ _ _ _ _ hP hS (lv_sub hl [1, 2, 3, 4] rfl) h
  · have h := h.2 c_1
    refine lv_aload_n hx hb dX9_findUp_71 rfl (lv_at hl 1 rfl) ?_
    refine s_gI g C hP 0 7 (by decide) rfl rfl cfX9 (by decide) kFL_X9_143 dX9_findUp_72 ?_
    refine lv_iload_n hx hb dX9_findUp_75 rfl (lv_at hl 2 rfl) ?_
    refine go_ip (run_S g C hP hS (As := [.int (S.1 0 7), .int a1]) (rest := []) (c_X9_has hi S (S.1 0 7) a1 _ h) cal_X9_has kML_X9_52 ⟨rfl, rfl, Nat.le_of_ble_eq_true rfl, Nat.le_of_ble_eq_true rfl⟩ rfl rfl hl.1 (Nat.le_of_ble_eq_true rfl) dX9_findUp_76) hS (fun r_2 H locs h hP hS => ?_)
    obtain ⟨hbr_2, h⟩ := h
    refine lv_if_eq (tgt := 94) hx hb dX9_findUp_79 (by decide) (fun c_3 => ?_) (fun c_3 => ?_)
    · have h := h.1 c_3
      exact b_X9_findUp_94 hi C he_4 _ _ _ _ _ _ hP hS (lv_sub hl [1, 2, 3, 4] rfl) h
    · have h := h.2 c_3
      refine lv_aload_n hx hb dX9_findUp_82 rfl (lv_at hl 1 rfl) ?_
      refine s_gR g C hP 0 19 6 (by decide) rfl rfl cfX9 (by decide) kFL_X9_29 dX9_findUp_83 ?_
      refine lv_iconst (v := (nI 1)) hx hb dX9_findUp_86 (by decide) ?_
      refine lv_iload_n hx hb dX9_findUp_87 rfl (lv_at hl 4 rfl) ?_
      refine lv_iadd hx hb dX9_findUp_88 ?_
      have hv_4 := h.1
      have h := h.2
      refine s_aI g C hP 6 (by decide) rfl hv_4 dX9_findUp_89 ?_
      refine lv_iconst (v := (nI 1)) hx hb dX9_findUp_90 (by decide) ?_
      refine lv_icmp_ne (tgt := 117) hx hb dX9_findUp_91 (by decide) (fun c_5 => ?_) (fun c_5 => ?_)
      · have h := h.2 c_5
        exact b_X9_findUp_117 hi C he_4 _ _ _ _ _ _ hP hS (lv_sub hl [1, 2, 3, 4] rfl) h
      · have h := h.1 c_5
        exact b_X9_findUp_94 hi C he_4 _ _ _ _ _ _ hP hS (lv_sub hl [1, 2, 3, 4] rfl) h
def q_X9_findUp_63 (a1 : Int32) (k : St → Prop) (e_4 : St → Int32 → Int32 → Prop) (S : St) (x2 : Int32) (x3 : Int32) : Prop := q_X9_findUp_64 a1 k e_4 S x2 x3 (nI 0)
set_option maxRecDepth 100000 in
set_option maxHeartbeats 4000000 in
theorem b_X9_findUp_63 {p : Program} {l : Launch} {e : Env} {s : State} {m : MethodId} {args : Array Value} {below : List Frame} {meth : Method} {c : Code} {Z : ZT} (hi : injZ 10 Z) (C : Cxt (gM Z) p s m meth c args yX9_findUp cX9_findUp 7 none) {a1 : Int32} {k : St → Prop} {e_4 : St → Int32 → Int32 → Prop}  (he_4 : ∀ (S : St) (x2 : Int32) (x3 : Int32) (H : Heap) (locs : List Loc) (ls : Array Slot), va_P Z.1 vwCl (wl shM 10 Z S) H → va_S (aa 10 Z) s.heap H locs → lv_has ls 7 [(0, .ref (Z.2.2.1 0)), (1, .int a1), (2, .int x2), (3, .int x3)] → e_4 S x2 x3 → W p l e (rmk 2 49) s m args below meth c H locs 0 0 (Qv below shM 10 Z args s k) (F0 m 4 ls [])) (S : St) (x2 : Int32) (x3 : Int32) (H : Heap) (locs : List Loc) (ls : Array Slot) (hP : va_P Z.1 vwCl (wl shM 10 Z S) H) (hS : va_S (aa 10 Z) s.heap H locs) (hl : lv_has ls 7 [(0, .ref (Z.2.2.1 0)), (1, .int a1), (2, .int x2), (3, .int x3)]) (h : q_X9_findUp_63 a1 k e_4 S x2 x3) : W p l e (rmk 2 49) s m args below meth c H locs 0 0 (Qv below shM 10 Z args s k) (F0 m 63 ls []) := by
  have g := gokM hi
  have hx := C.1.1
  have hb := C.1.2.1
  unfold q_X9_findUp_63 at h
  refine lv_iconst (v := (nI 0)) hx hb dX9_findUp_63 (by decide) ?_
  exact b_X9_findUp_64 hi C he_4 _ _ _ _ _ _ _ hP hS (lv_sub hl [0, 1, 2, 3] rfl) h
def q_X9_findUp_4 (a1 : Int32) (k : St → Prop) : Nat → St → Int32 → Int32 → Prop := fun n_ => Nat.rec (motive := fun _ => St → Int32 → Int32 → Prop) (fun _ _ _ => False) (fun _ ih => fun S x2 x3 => ((nI 6) ≤ x3 → (∃ f_168, q_X9_findUp_168 a1 k f_168 S (nI 0))) ∧ (¬ (nI 6) ≤ x3 → (vp_in ((nI 7) + x3) 1197 ∧ (∀ x4_3 : Int32, x4_3 = (S.1 6 ((nI 7) + x3).toNatClampNeg) → (q_X9_has S (S.1 0 1) x3 (fun r_4 => ((r_4 = (nI 0) → (q_X9_findUp_63 a1 k ih S x2 x3)) ∧ (¬ r_4 = (nI 0) → ((x4_3 ≤ (nI 0) → (q_X9_findUp_63 a1 k ih S x2 x3)) ∧ (¬ x4_3 ≤ (nI 0) → (q_X9_hasLift S x3 x4_3 a1 (fun r_7 => ((r_7 = (nI 0) → (q_X9_findUp_63 a1 k ih S x2 x3)) ∧ (¬ r_7 = (nI 0) → (q_X9_isInSea S x3 x4_3 a1 (fun r_9 => ((r_9 = (nI 0) → (q_X9_findUp_63 a1 k ih S x2 x3)) ∧ (¬ r_9 = (nI 0) → (q_X9_findUp_64 a1 k ih S x2 x3 (nI 1)))))))))))))))))))) n_
theorem q_X9_findUp_4_s (a1 : Int32) (k : St → Prop) (n_ : Nat) (S : St) (x2 : Int32) (x3 : Int32) : q_X9_findUp_4 a1 k (n_ + 1) S x2 x3 = (((nI 6) ≤ x3 → (∃ f_168, q_X9_findUp_168 a1 k f_168 S (nI 0))) ∧ (¬ (nI 6) ≤ x3 → (vp_in ((nI 7) + x3) 1197 ∧ (∀ x4_3 : Int32, x4_3 = (S.1 6 ((nI 7) + x3).toNatClampNeg) → (q_X9_has S (S.1 0 1) x3 (fun r_4 => ((r_4 = (nI 0) → (q_X9_findUp_63 a1 k (q_X9_findUp_4 a1 k n_) S x2 x3)) ∧ (¬ r_4 = (nI 0) → ((x4_3 ≤ (nI 0) → (q_X9_findUp_63 a1 k (q_X9_findUp_4 a1 k n_) S x2 x3)) ∧ (¬ x4_3 ≤ (nI 0) → (q_X9_hasLift S x3 x4_3 a1 (fun r_7 => ((r_7 = (nI 0) → (q_X9_findUp_63 a1 k (q_X9_findUp_4 a1 k n_) S x2 x3)) ∧ (¬ r_7 = (nI 0) → (q_X9_isInSea S x3 x4_3 a1 (fun r_9 => ((r_9 = (nI 0) → (q_X9_findUp_63 a1 k (q_X9_findUp_4 a1 k n_) S x2 x3)) ∧ (¬ r_9 = (nI 0) → (q_X9_findUp_64 a1 k (q_X9_findUp_4 a1 k n_) S x2 x3 (nI 1)))))))))))))))))))) := rfl
set_option maxRecDepth 100000 in
set_option maxHeartbeats 4000000 in
theorem b_X9_findUp_4 {p : Program} {l : Launch} {e : Env} {s : State} {m : MethodId} {args : Array Value} {below : List Frame} {meth : Method} {c : Code} {Z : ZT} (hi : injZ 10 Z) (C : Cxt (gM Z) p s m meth c args yX9_findUp cX9_findUp 7 none) {a1 : Int32} {k : St → Prop}   : ∀ (n_ : Nat) (S : St) (x2 : Int32) (x3 : Int32) (H : Heap) (locs : List Loc) (ls : Array Slot), va_P Z.1 vwCl (wl shM 10 Z S) H → va_S (aa 10 Z) s.heap H locs → lv_has ls 7 [(0, .ref (Z.2.2.1 0)), (1, .int a1), (2, .int x2), (3, .int x3)] → q_X9_findUp_4 a1 k n_ S x2 x3 → W p l e (rmk 2 49) s m args below meth c H locs 0 0 (Qv below shM 10 Z args s k) (F0 m 4 ls []) := by
  have g := gokM hi
  have hx := C.1.1
  have hb := C.1.2.1
  intro n_
  induction n_ with
  | zero => intro S x2 x3 H locs ls hP hS hl h; exact h.elim
  | succ n_ ih =>
    intro S x2 x3 H locs ls hP hS hl h
    rw [q_X9_findUp_4_s] at h
    refine lv_iload_n hx hb dX9_findUp_4 rfl (lv_at hl 3 rfl) ?_
    refine lv_bipush (v := (nI 6)) hx hb dX9_findUp_5 (by decide) ?_
    refine lv_icmp_ge (tgt := 166) hx hb dX9_findUp_7 (by decide) (fun c_1 => ?_) (fun c_1 => ?_)
    · have h := h.1 c_1
      refine lv_iconst (v := (nI 0)) hx hb dX9_findUp_166 (by decide) ?_
      refine lv_istore_n (lv' := [(3, .int (nI 0)), (0, .ref (Z.2.2.1 0)), (1, .int a1), (2, .int x2)]) hx hb dX9_findUp_167 rfl hl (by decide) rfl (fun ls hl => ?_)
      obtain ⟨f_168, h⟩ := h
      exact b_X9_findUp_168 hi C  f_168 _ _ _ _ _ hP hS (lv_sub hl [1, 2, 0] rfl) h
    · have h := h.2 c_1
      refine lv_aload_n hx hb dX9_findUp_10 rfl (lv_at hl 0 rfl) ?_
      refine s_gR g C hP 0 19 6 (by decide) rfl rfl cfX9 (by decide) kFL_X9_29 dX9_findUp_11 ?_
      refine lv_bipush (v := (nI 7)) hx hb dX9_findUp_14 (by decide) ?_
      refine lv_iload_n hx hb dX9_findUp_16 rfl (lv_at hl 3 rfl) ?_
      refine lv_iadd hx hb dX9_findUp_17 ?_
      have hv_2 := h.1
      have h := h.2
      refine s_aI g C hP 6 (by decide) rfl hv_2 dX9_findUp_18 ?_
      refine lv_topi (fun x4_3 ex4_3 => ?_)
      have h := h x4_3 ex4_3
      refine lv_istore (lv' := [(4, .int x4_3), (0, .ref (Z.2.2.1 0)), (1, .int a1), (2, .int x2), (3, .int x3)]) hx hb dX9_findUp_19 hl (by decide) rfl (fun ls hl => ?_)
      refine lv_aload_n hx hb dX9_findUp_21 rfl (lv_at hl 1 rfl) ?_
      refine s_gI g C hP 0 1 (by decide) rfl rfl cfX9 (by decide) kFL_X9_49 dX9_findUp_22 ?_
      refine lv_iload_n hx hb dX9_findUp_25 rfl (lv_at hl 4 rfl) ?_
      refine go_ip (run_S g C hP hS (As := [.int (S.1 0 1), .int x3]) (rest := []) (c_X9_has hi S (S.1 0 1) x3 _ h) cal_X9_has kML_X9_52 ⟨rfl, rfl, Nat.le_of_ble_eq_true rfl, Nat.le_of_ble_eq_true rfl⟩ rfl rfl hl.1 (Nat.le_of_ble_eq_true rfl) dX9_findUp_26) hS (fun r_4 H locs h hP hS => ?_)
      obtain ⟨hbr_4, h⟩ := h
      refine lv_if_eq (tgt := 63) hx hb dX9_findUp_29 (by decide) (fun c_5 => ?_) (fun c_5 => ?_)
      · have h := h.1 c_5
        exact b_X9_findUp_63 hi C ih _ _ _ _ _ _ hP hS (lv_sub hl [1, 2, 3, 4] rfl) h
      · have h := h.2 c_5
        refine lv_iload hx hb dX9_findUp_32 (lv_at hl 0 rfl) ?_
        refine lv_if_le (tgt := 63) hx hb dX9_findUp_34 (by decide) (fun c_6 => ?_) (fun c_6 => ?_)
        · have h := h.1 c_6
          exact b_X9_findUp_63 hi C ih _ _ _ _ _ _ hP hS (lv_sub hl [1, 2, 3, 4] rfl) h
        · have h := h.2 c_6
          refine lv_aload_n hx hb dX9_findUp_37 rfl (lv_at hl 1 rfl) ?_
          refine lv_iload_n hx hb dX9_findUp_38 rfl (lv_at hl 4 rfl) ?_
          refine lv_iload hx hb dX9_findUp_39 (lv_at hl 0 rfl) ?_
          refine lv_iload_n hx hb dX9_findUp_41 rfl (lv_at hl 2 rfl) ?_
          refine go_ip (run_V g C hP hS (c0 := 0) (As := [.int x3, .int x4_3, .int a1]) (rest := []) (c_X9_hasLift hi S x3 x4_3 a1 _ h) cal_X9_hasLift kML_X9_182 (by decide) rfl cfX9 ⟨rfl, rfl, Nat.le_of_ble_eq_true rfl, Nat.le_of_ble_eq_true rfl⟩ rfl rfl hl.1 (Nat.le_of_ble_eq_true rfl) dX9_findUp_42) hS (fun r_7 H locs h hP hS => ?_)
          obtain ⟨hbr_7, h⟩ := h
          refine lv_if_eq (tgt := 63) hx hb dX9_findUp_45 (by decide) (fun c_8 => ?_) (fun c_8 => ?_)
          · have h := h.1 c_8
            exact b_X9_findUp_63 hi C ih _ _ _ _ _ _ hP hS (lv_sub hl [1, 2, 3, 4] rfl) h
          · have h := h.2 c_8
            refine lv_aload_n hx hb dX9_findUp_48 rfl (lv_at hl 1 rfl) ?_
            refine lv_iload_n hx hb dX9_findUp_49 rfl (lv_at hl 4 rfl) ?_
            refine lv_iload hx hb dX9_findUp_50 (lv_at hl 0 rfl) ?_
            refine lv_iload_n hx hb dX9_findUp_52 rfl (lv_at hl 2 rfl) ?_
            refine go_ip (run_V g C hP hS (c0 := 0) (As := [.int x3, .int x4_3, .int a1]) (rest := []) (c_X9_isInSea hi S x3 x4_3 a1 _ h) cal_X9_isInSea kML_X9_185 (by decide) rfl cfX9 ⟨rfl, rfl, Nat.le_of_ble_eq_true rfl, Nat.le_of_ble_eq_true rfl⟩ rfl rfl hl.1 (Nat.le_of_ble_eq_true rfl) dX9_findUp_53) hS (fun r_9 H locs h hP hS => ?_)
            obtain ⟨hbr_9, h⟩ := h
            refine lv_if_eq (tgt := 63) hx hb dX9_findUp_56 (by decide) (fun c_10 => ?_) (fun c_10 => ?_)
            · have h := h.1 c_10
              exact b_X9_findUp_63 hi C ih _ _ _ _ _ _ hP hS (lv_sub hl [1, 2, 3, 4] rfl) h
            · have h := h.2 c_10
              refine lv_iconst (v := (nI 1)) hx hb dX9_findUp_59 (by decide) ?_
              refine lv_goto (tgt := 64) hx hb dX9_findUp_60 (by decide) ?_
              exact b_X9_findUp_64 hi C ih _ _ _ _ _ _ _ hP hS (lv_sub hl [1, 2, 3, 4] rfl) h
def q_X9_findUp (S : St) (a1 : Int32) (k : St → Prop) : Prop := ∃ f_4, q_X9_findUp_4 a1 k f_4 S (nI 0) (nI 0)
set_option maxRecDepth 100000 in
set_option maxHeartbeats 4000000 in
theorem c_X9_findUp {l : Launch} {Z : ZT} (hi : injZ 10 Z) (S : St) (a1 : Int32) (k : St → Prop) (h : q_X9_findUp S a1 k) : Mv l shM 10 Z (gM Z) yX9_findUp cX9_findUp 7 none (rmk 2 49) [.ref (Z.2.2.1 0), .int a1] S k := by
  have g := gokM hi
  refine e_v (by decide) (Nat.le_of_ble_eq_true rfl) (lv := [(0, .ref (Z.2.2.1 0)), (1, .int a1)]) rfl (fun p e s m args below meth c C hP hS ls hl => ?_)
  have hx := C.1.1
  have hb := C.1.2.1
  unfold q_X9_findUp at h
  refine lv_iconst (v := (nI 0)) hx hb dX9_findUp_0 (by decide) ?_
  refine lv_istore_n (lv' := [(2, .int (nI 0)), (0, .ref (Z.2.2.1 0)), (1, .int a1)]) hx hb dX9_findUp_1 rfl hl (by decide) rfl (fun ls hl => ?_)
  refine lv_iconst (v := (nI 0)) hx hb dX9_findUp_2 (by decide) ?_
  refine lv_istore_n (lv' := [(3, .int (nI 0)), (2, .int (nI 0)), (0, .ref (Z.2.2.1 0)), (1, .int a1)]) hx hb dX9_findUp_3 rfl hl (by decide) rfl (fun ls hl => ?_)
  obtain ⟨f_4, h⟩ := h
  exact b_X9_findUp_4 hi C  f_4 _ _ _ _ _ _ hP hS (lv_sub hl [2, 3, 1, 0] rfl) h
def q_X9_take_259 (a1 : Int32) (a2 : Int32) (k : St → Prop) (S : St) (x4 : Int32) (t0 : Int32) : Prop := ∀ S_1 : St, S_1 = sI S 6 (nI 43).toNatClampNeg ((S.1 6 (nI 43).toNatClampNeg) + t0) → (vp_in ((nI 13) + a1) 1197 ∧ (vp_in ((nI 13) + a1) 1197 ∧ (∀ S_4 : St, S_4 = sI S_1 6 ((nI 13) + a1).toNatClampNeg ((S_1.1 6 ((nI 13) + a1).toNatClampNeg) + (x4 - t0)) → (k S_4))))
set_option maxRecDepth 100000 in
set_option maxHeartbeats 4000000 in
theorem b_X9_take_259 {p : Program} {l : Launch} {e : Env} {s : State} {m : MethodId} {args : Array Value} {below : List Frame} {meth : Method} {c : Code} {Z : ZT} (hi : injZ 10 Z) (C : Cxt (gM Z) p s m meth c args yX9_take cX9_take 9 none) {a1 : Int32} {a2 : Int32} {k : St → Prop}   (S : St) (x4 : Int32) (t0 : Int32) (H : Heap) (locs : List Loc) (ls : Array Slot) (hP : va_P Z.1 vwCl (wl shM 10 Z S) H) (hS : va_S (aa 10 Z) s.heap H locs) (hl : lv_has ls 9 [(0, .ref (Z.2.2.1 0)), (1, .int a1), (4, .int x4)]) (h : q_X9_take_259 a1 a2 k S x4 t0) : W p l e (rmk 1 23) s m args below meth c H locs 0 0 (Qv below shM 10 Z args s k) (F0 m 259 ls [.int t0]) := by
  have g := gokM hi
  have hx := C.1.1
  have hb := C.1.2.1
  unfold q_X9_take_259 at h
  refine lv_istore (lv' := [(5, .int t0), (0, .ref (Z.2.2.1 0)), (1, .int a1), (4, .int x4)]) hx hb dX9_take_259 hl (by decide) rfl (fun ls hl => ?_)
  refine lv_aload_n hx hb dX9_take_261 rfl (lv_at hl 1 rfl) ?_
  refine s_gR g C hP 0 19 6 (by decide) rfl rfl cfX9 (by decide) kFL_X9_29 dX9_take_262 ?_
  refine lv_bipush (v := (nI 43)) hx hb dX9_take_265 (by decide) ?_
  refine lv_dup2_11 hx hb dX9_take_267 rfl rfl ?_
  refine s_aI g C hP 6 (by decide) rfl (vinL (by decide +kernel)) dX9_take_268 ?_
  refine lv_iload hx hb dX9_take_269 (lv_at hl 0 rfl) ?_
  refine lv_iadd hx hb dX9_take_271 ?_
  refine s_stI g C hP hS 6 (by decide) rfl (vinL (by decide +kernel)) dX9_take_272 (fun H locs hP hS => ?_)
  obtain ⟨S_1, eS_1⟩ : ∃ z_ : St, z_ = sI S 6 (nI 43).toNatClampNeg ((S.1 6 (nI 43).toNatClampNeg) + t0) := ⟨_, rfl⟩
  rw [← eS_1] at hP
  have h := h S_1 eS_1
  refine lv_aload_n hx hb dX9_take_273 rfl (lv_at hl 1 rfl) ?_
  refine s_gR g C hP 0 19 6 (by decide) rfl rfl cfX9 (by decide) kFL_X9_29 dX9_take_274 ?_
  refine lv_bipush (v := (nI 13)) hx hb dX9_take_277 (by decide) ?_
  refine lv_iload_n hx hb dX9_take_279 rfl (lv_at hl 2 rfl) ?_
  refine lv_iadd hx hb dX9_take_280 ?_
  refine lv_dup2_11 hx hb dX9_take_281 rfl rfl ?_
  have hv_2 := h.1
  have h := h.2
  refine s_aI g C hP 6 (by decide) rfl hv_2 dX9_take_282 ?_
  refine lv_iload hx hb dX9_take_283 (lv_at hl 3 rfl) ?_
  refine lv_iload hx hb dX9_take_285 (lv_at hl 0 rfl) ?_
  refine lv_isub hx hb dX9_take_287 ?_
  refine lv_iadd hx hb dX9_take_288 ?_
  have hv_3 := h.1
  have h := h.2
  refine s_stI g C hP hS 6 (by decide) rfl hv_3 dX9_take_289 (fun H locs hP hS => ?_)
  obtain ⟨S_4, eS_4⟩ : ∃ z_ : St, z_ = sI S_1 6 ((nI 13) + a1).toNatClampNeg ((S_1.1 6 ((nI 13) + a1).toNatClampNeg) + (x4 - t0)) := ⟨_, rfl⟩
  rw [← eS_4] at hP
  have h := h S_4 eS_4
  exact s_rv C hP hS h dX9_take_290
def q_X9_take_235 (a1 : Int32) (a2 : Int32) (k : St → Prop) (e_19 : St → Int32 → Int32 → Int32 → Prop) (S : St) (x3 : Int32) (x4 : Int32) (x5 : Int32) : Prop := ∀ x5_1 : Int32, x5_1 = x5 + (nI 1) → (e_19 S x3 x4 x5_1)
set_option maxRecDepth 100000 in
set_option maxHeartbeats 4000000 in
theorem b_X9_take_235 {p : Program} {l : Launch} {e : Env} {s : State} {m : MethodId} {args : Array Value} {below : List Frame} {meth : Method} {c : Code} {Z : ZT} (hi : injZ 10 Z) (C : Cxt (gM Z) p s m meth c args yX9_take cX9_take 9 none) {a1 : Int32} {a2 : Int32} {k : St → Prop} {e_19 : St → Int32 → Int32 → Int32 → Prop}  (he_19 : ∀ (S : St) (x3 : Int32) (x4 : Int32) (x5 : Int32) (H : Heap) (locs : List Loc) (ls : Array Slot), va_P Z.1 vwCl (wl shM 10 Z S) H → va_S (aa 10 Z) s.heap H locs → lv_has ls 9 [(0, .ref (Z.2.2.1 0)), (1, .int a1), (2, .int a2), (3, .int x3), (4, .int x4), (5, .int x5)] → e_19 S x3 x4 x5 → W p l e (rmk 1 23) s m args below meth c H locs 0 0 (Qv below shM 10 Z args s k) (F0 m 19 ls [])) (S : St) (x3 : Int32) (x4 : Int32) (x5 : Int32) (H : Heap) (locs : List Loc) (ls : Array Slot) (hP : va_P Z.1 vwCl (wl shM 10 Z S) H) (hS : va_S (aa 10 Z) s.heap H locs) (hl : lv_has ls 9 [(0, .ref (Z.2.2.1 0)), (1, .int a1), (2, .int a2), (3, .int x3), (4, .int x4), (5, .int x5)]) (h : q_X9_take_235 a1 a2 k e_19 S x3 x4 x5) : W p l e (rmk 1 23) s m args below meth c H locs 0 0 (Qv below shM 10 Z args s k) (F0 m 235 ls []) := by
  have g := gokM hi
  have hx := C.1.1
  have hb := C.1.2.1
  unfold q_X9_take_235 at h
  obtain ⟨x5_1, ex5_1⟩ : ∃ y_ : Int32, y_ = x5 + (nI 1) := ⟨_, rfl⟩
  have h := h x5_1 ex5_1
  refine lv_iinc (v := x5_1) (lv' := [(5, .int x5_1), (0, .ref (Z.2.2.1 0)), (1, .int a1), (2, .int a2), (3, .int x3), (4, .int x4)]) hx hb dX9_take_235 hl (k := 5) rfl (by rw [ex5_1]; rfl) (by decide) rfl (fun ls hl => ?_)
  refine lv_goto (tgt := 19) hx hb dX9_take_238 (by decide) ?_
  exact he_19 _ _ _ _ _ _ _ hP hS (lv_sub hl [1, 2, 3, 4, 5, 0] rfl) h
def q_X9_take_136 (a1 : Int32) (a2 : Int32) (k : St → Prop) (e_19 : St → Int32 → Int32 → Int32 → Prop) (S : St) (x3 : Int32) (x4 : Int32) (x5 : Int32) (t0 : Int32) : Prop := (t0 ≤ (nI 0) → (q_X9_take_235 a1 a2 k e_19 S x3 x4 x5)) ∧ (¬ t0 ≤ (nI 0) → (∀ x8_2 : Int32, x8_2 = ((nI 45) + ((nI 4) * (S.1 6 (nI 44).toNatClampNeg))) → (vp_in x8_2 1197 ∧ (∀ S_4 : St, S_4 = sI S 6 x8_2.toNatClampNeg a1 → (vp_in (x8_2 + (nI 1)) 1197 ∧ (∀ S_6 : St, S_6 = sI S_4 6 (x8_2 + (nI 1)).toNatClampNeg x5 → (vp_in (x8_2 + (nI 2)) 1197 ∧ (∀ S_8 : St, S_8 = sI S_6 6 (x8_2 + (nI 2)).toNatClampNeg a2 → (vp_in (x8_2 + (nI 3)) 1197 ∧ (∀ S_10 : St, S_10 = sI S_8 6 (x8_2 + (nI 3)).toNatClampNeg t0 → (∀ S_11 : St, S_11 = sI S_10 6 (nI 44).toNatClampNeg ((S_10.1 6 (nI 44).toNatClampNeg) + (nI 1)) → (vp_in ((nI 39) + x5) 1197 ∧ (vp_in ((nI 39) + x5) 1197 ∧ (∀ S_14 : St, S_14 = sI S_11 6 ((nI 39) + x5).toNatClampNeg ((S_11.1 6 ((nI 39) + x5).toNatClampNeg) - t0) → (∀ x3_15 : Int32, x3_15 = (x3 - t0) → (∀ x4_16 : Int32, x4_16 = (x4 + t0) → (q_X9_take_235 a1 a2 k e_19 S_14 x3_15 x4_16 x5)))))))))))))))))
set_option maxRecDepth 100000 in
set_option maxHeartbeats 4000000 in
theorem b_X9_take_136 {p : Program} {l : Launch} {e : Env} {s : State} {m : MethodId} {args : Array Value} {below : List Frame} {meth : Method} {c : Code} {Z : ZT} (hi : injZ 10 Z) (C : Cxt (gM Z) p s m meth c args yX9_take cX9_take 9 none) {a1 : Int32} {a2 : Int32} {k : St → Prop} {e_19 : St → Int32 → Int32 → Int32 → Prop}  (he_19 : ∀ (S : St) (x3 : Int32) (x4 : Int32) (x5 : Int32) (H : Heap) (locs : List Loc) (ls : Array Slot), va_P Z.1 vwCl (wl shM 10 Z S) H → va_S (aa 10 Z) s.heap H locs → lv_has ls 9 [(0, .ref (Z.2.2.1 0)), (1, .int a1), (2, .int a2), (3, .int x3), (4, .int x4), (5, .int x5)] → e_19 S x3 x4 x5 → W p l e (rmk 1 23) s m args below meth c H locs 0 0 (Qv below shM 10 Z args s k) (F0 m 19 ls [])) (S : St) (x3 : Int32) (x4 : Int32) (x5 : Int32) (t0 : Int32) (H : Heap) (locs : List Loc) (ls : Array Slot) (hP : va_P Z.1 vwCl (wl shM 10 Z S) H) (hS : va_S (aa 10 Z) s.heap H locs) (hl : lv_has ls 9 [(0, .ref (Z.2.2.1 0)), (1, .int a1), (2, .int a2), (3, .int x3), (4, .int x4), (5, .int x5)]) (h : q_X9_take_136 a1 a2 k e_19 S x3 x4 x5 t0) : W p l e (rmk 1 23) s m args below meth c H locs 0 0 (Qv below shM 10 Z args s k) (F0 m 136 ls [.int t0]) := by
  have g := gokM hi
  have hx := C.1.1
  have hb := C.1.2.1
  unfold q_X9_take_136 at h
  refine lv_istore (lv' := [(7, .int t0), (0, .ref (Z.2.2.1 0)), (1, .int a1), (2, .int a2), (3, .int x3), (4, .int x4), (5, .int x5)]) hx hb dX9_take_136 hl (by decide) rfl (fun ls hl => ?_)
  refine lv_iload hx hb dX9_take_138 (lv_at hl 0 rfl) ?_
  refine lv_if_le (tgt := 235) hx hb dX9_take_140 (by decide) (fun c_1 => ?_) (fun c_1 => ?_)
  · have h := h.1 c_1
    exact b_X9_take_235 hi C he_19 _ _ _ _ _ _ _ hP hS (lv_sub hl [1, 2, 3, 4, 5, 6] rfl) h
  · have h := h.2 c_1
    refine lv_bipush (v := (nI 45)) hx hb dX9_take_143 (by decide) ?_
    refine lv_iconst (v := (nI 4)) hx hb dX9_take_145 (by decide) ?_
    refine lv_aload_n hx hb dX9_take_146 rfl (lv_at hl 1 rfl) ?_
    refine s_gR g C hP 0 19 6 (by decide) rfl rfl cfX9 (by decide) kFL_X9_29 dX9_take_147 ?_
    refine lv_bipush (v := (nI 44)) hx hb dX9_take_150 (by decide) ?_
    refine s_aI g C hP 6 (by decide) rfl (vinL (by decide +kernel)) dX9_take_152 ?_
    refine lv_imul hx hb dX9_take_153 ?_
    refine lv_iadd hx hb dX9_take_154 ?_
    refine lv_topi (fun x8_2 ex8_2 => ?_)
    have h := h x8_2 ex8_2
    refine lv_istore (lv' := [(8, .int x8_2), (7, .int t0), (0, .ref (Z.2.2.1 0)), (1, .int a1), (2, .int a2), (3, .int x3), (4, .int x4), (5, .int x5)]) hx hb dX9_take_155 hl (by decide) rfl (fun ls hl => ?_)
    refine lv_aload_n hx hb dX9_take_157 rfl (lv_at hl 2 rfl) ?_
    refine s_gR g C hP 0 19 6 (by decide) rfl rfl cfX9 (by decide) kFL_X9_29 dX9_take_158 ?_
    refine lv_iload hx hb dX9_take_161 (lv_at hl 0 rfl) ?_
    refine lv_iload_n hx hb dX9_take_163 rfl (lv_at hl 3 rfl) ?_
    have hv_3 := h.1
    have h := h.2
    refine s_stI g C hP hS 6 (by decide) rfl hv_3 dX9_take_164 (fun H locs hP hS => ?_)
    obtain ⟨S_4, eS_4⟩ : ∃ z_ : St, z_ = sI S 6 x8_2.toNatClampNeg a1 := ⟨_, rfl⟩
    rw [← eS_4] at hP
    have h := h S_4 eS_4
    refine lv_aload_n hx hb dX9_take_165 rfl (lv_at hl 2 rfl) ?_
    refine s_gR g C hP 0 19 6 (by decide) rfl rfl cfX9 (by decide) kFL_X9_29 dX9_take_166 ?_
    refine lv_iload hx hb dX9_take_169 (lv_at hl 0 rfl) ?_
    refine lv_iconst (v := (nI 1)) hx hb dX9_take_171 (by decide) ?_
    refine lv_iadd hx hb dX9_take_172 ?_
    refine lv_iload hx hb dX9_take_173 (lv_at hl 7 rfl) ?_
    have hv_5 := h.1
    have h := h.2
    refine s_stI g C hP hS 6 (by decide) rfl hv_5 dX9_take_175 (fun H locs hP hS => ?_)
    obtain ⟨S_6, eS_6⟩ : ∃ z_ : St, z_ = sI S_4 6 (x8_2 + (nI 1)).toNatClampNeg x5 := ⟨_, rfl⟩
    rw [← eS_6] at hP
    have h := h S_6 eS_6
    refine lv_aload_n hx hb dX9_take_176 rfl (lv_at hl 2 rfl) ?_
    refine s_gR g C hP 0 19 6 (by decide) rfl rfl cfX9 (by decide) kFL_X9_29 dX9_take_177 ?_
    refine lv_iload hx hb dX9_take_180 (lv_at hl 0 rfl) ?_
    refine lv_iconst (v := (nI 2)) hx hb dX9_take_182 (by decide) ?_
    refine lv_iadd hx hb dX9_take_183 ?_
    refine lv_iload_n hx hb dX9_take_184 rfl (lv_at hl 4 rfl) ?_
    have hv_7 := h.1
    have h := h.2
    refine s_stI g C hP hS 6 (by decide) rfl hv_7 dX9_take_185 (fun H locs hP hS => ?_)
    obtain ⟨S_8, eS_8⟩ : ∃ z_ : St, z_ = sI S_6 6 (x8_2 + (nI 2)).toNatClampNeg a2 := ⟨_, rfl⟩
    rw [← eS_8] at hP
    have h := h S_8 eS_8
    refine lv_aload_n hx hb dX9_take_186 rfl (lv_at hl 2 rfl) ?_
    refine s_gR g C hP 0 19 6 (by decide) rfl rfl cfX9 (by decide) kFL_X9_29 dX9_take_187 ?_
    refine lv_iload hx hb dX9_take_190 (lv_at hl 0 rfl) ?_
    refine lv_iconst (v := (nI 3)) hx hb dX9_take_192 (by decide) ?_
    refine lv_iadd hx hb dX9_take_193 ?_
    refine lv_iload hx hb dX9_take_194 (lv_at hl 1 rfl) ?_
    have hv_9 := h.1
    have h := h.2
    refine s_stI g C hP hS 6 (by decide) rfl hv_9 dX9_take_196 (fun H locs hP hS => ?_)
    obtain ⟨S_10, eS_10⟩ : ∃ z_ : St, z_ = sI S_8 6 (x8_2 + (nI 3)).toNatClampNeg t0 := ⟨_, rfl⟩
    rw [← eS_10] at hP
    have h := h S_10 eS_10
    refine lv_aload_n hx hb dX9_take_197 rfl (lv_at hl 2 rfl) ?_
    refine s_gR g C hP 0 19 6 (by decide) rfl rfl cfX9 (by decide) kFL_X9_29 dX9_take_198 ?_
    refine lv_bipush (v := (nI 44)) hx hb dX9_take_201 (by decide) ?_
    refine lv_dup2_11 hx hb dX9_take_203 rfl rfl ?_
    refine s_aI g C hP 6 (by decide) rfl (vinL (by decide +kernel)) dX9_take_204 ?_
    refine lv_iconst (v := (nI 1)) hx hb dX9_take_205 (by decide) ?_
    refine lv_iadd hx hb dX9_take_206 ?_
    refine s_stI g C hP hS 6 (by decide) rfl (vinL (by decide +kernel)) dX9_take_207 (fun H locs hP hS => ?_)
    obtain ⟨S_11, eS_11⟩ : ∃ z_ : St, z_ = sI S_10 6 (nI 44).toNatClampNeg ((S_10.1 6 (nI 44).toNatClampNeg) + (nI 1)) := ⟨_, rfl⟩
    rw [← eS_11] at hP
    have h := h S_11 eS_11
    refine lv_aload_n hx hb dX9_take_208 rfl (lv_at hl 2 rfl) ?_
    refine s_gR g C hP 0 19 6 (by decide) rfl rfl cfX9 (by decide) kFL_X9_29 dX9_take_209 ?_
    refine lv_bipush (v := (nI 39)) hx hb dX9_take_212 (by decide) ?_
    refine lv_iload hx hb dX9_take_214 (lv_at hl 7 rfl) ?_
    refine lv_iadd hx hb dX9_take_216 ?_
    refine lv_dup2_11 hx hb dX9_take_217 rfl rfl ?_
    have hv_12 := h.1
    have h := h.2
    refine s_aI g C hP 6 (by decide) rfl hv_12 dX9_take_218 ?_
    refine lv_iload hx hb dX9_take_219 (lv_at hl 1 rfl) ?_
    refine lv_isub hx hb dX9_take_221 ?_
    have hv_13 := h.1
    have h := h.2
    refine s_stI g C hP hS 6 (by decide) rfl hv_13 dX9_take_222 (fun H locs hP hS => ?_)
    obtain ⟨S_14, eS_14⟩ : ∃ z_ : St, z_ = sI S_11 6 ((nI 39) + x5).toNatClampNeg ((S_11.1 6 ((nI 39) + x5).toNatClampNeg) - t0) := ⟨_, rfl⟩
    rw [← eS_14] at hP
    have h := h S_14 eS_14
    refine lv_iload_n hx hb dX9_take_223 rfl (lv_at hl 5 rfl) ?_
    refine lv_iload hx hb dX9_take_224 (lv_at hl 1 rfl) ?_
    refine lv_isub hx hb dX9_take_226 ?_
    refine lv_topi (fun x3_15 ex3_15 => ?_)
    have h := h x3_15 ex3_15
    refine lv_istore_n (lv' := [(3, .int x3_15), (8, .int x8_2), (7, .int t0), (0, .ref (Z.2.2.1 0)), (1, .int a1), (2, .int a2), (4, .int x4), (5, .int x5)]) hx hb dX9_take_227 rfl hl (by decide) rfl (fun ls hl => ?_)
    refine lv_iload hx hb dX9_take_228 (lv_at hl 6 rfl) ?_
    refine lv_iload hx hb dX9_take_230 (lv_at hl 2 rfl) ?_
    refine lv_iadd hx hb dX9_take_232 ?_
    refine lv_topi (fun x4_16 ex4_16 => ?_)
    have h := h x4_16 ex4_16
    refine lv_istore (lv' := [(4, .int x4_16), (3, .int x3_15), (8, .int x8_2), (7, .int t0), (0, .ref (Z.2.2.1 0)), (1, .int a1), (2, .int a2), (5, .int x5)]) hx hb dX9_take_233 hl (by decide) rfl (fun ls hl => ?_)
    exact b_X9_take_235 hi C he_19 _ _ _ _ _ _ _ hP hS (lv_sub hl [4, 5, 6, 1, 0, 7] rfl) h
def q_X9_take_97 (a1 : Int32) (a2 : Int32) (k : St → Prop) (e_19 : St → Int32 → Int32 → Int32 → Prop) (S : St) (x3 : Int32) (x4 : Int32) (x5 : Int32) (t0 : Int32) : Prop := (t0 = (nI 0) → (q_X9_take_136 a1 a2 k e_19 S x3 x4 x5 (nI 0))) ∧ (¬ t0 = (nI 0) → (vp_in ((nI 39) + x5) 1197 ∧ ((x3 ≤ (S.1 6 ((nI 39) + x5).toNatClampNeg) → (q_X9_take_136 a1 a2 k e_19 S x3 x4 x5 x3)) ∧ (¬ x3 ≤ (S.1 6 ((nI 39) + x5).toNatClampNeg) → (vp_in ((nI 39) + x5) 1197 ∧ (q_X9_take_136 a1 a2 k e_19 S x3 x4 x5 (S.1 6 ((nI 39) + x5).toNatClampNeg)))))))
set_option maxRecDepth 100000 in
set_option maxHeartbeats 4000000 in
theorem b_X9_take_97 {p : Program} {l : Launch} {e : Env} {s : State} {m : MethodId} {args : Array Value} {below : List Frame} {meth : Method} {c : Code} {Z : ZT} (hi : injZ 10 Z) (C : Cxt (gM Z) p s m meth c args yX9_take cX9_take 9 none) {a1 : Int32} {a2 : Int32} {k : St → Prop} {e_19 : St → Int32 → Int32 → Int32 → Prop}  (he_19 : ∀ (S : St) (x3 : Int32) (x4 : Int32) (x5 : Int32) (H : Heap) (locs : List Loc) (ls : Array Slot), va_P Z.1 vwCl (wl shM 10 Z S) H → va_S (aa 10 Z) s.heap H locs → lv_has ls 9 [(0, .ref (Z.2.2.1 0)), (1, .int a1), (2, .int a2), (3, .int x3), (4, .int x4), (5, .int x5)] → e_19 S x3 x4 x5 → W p l e (rmk 1 23) s m args below meth c H locs 0 0 (Qv below shM 10 Z args s k) (F0 m 19 ls [])) (S : St) (x3 : Int32) (x4 : Int32) (x5 : Int32) (t0 : Int32) (H : Heap) (locs : List Loc) (ls : Array Slot) (hP : va_P Z.1 vwCl (wl shM 10 Z S) H) (hS : va_S (aa 10 Z) s.heap H locs) (hl : lv_has ls 9 [(0, .ref (Z.2.2.1 0)), (1, .int a1), (2, .int a2), (3, .int x3), (4, .int x4), (5, .int x5)]) (h : q_X9_take_97 a1 a2 k e_19 S x3 x4 x5 t0) : W p l e (rmk 1 23) s m args below meth c H locs 0 0 (Qv below shM 10 Z args s k) (F0 m 97 ls [.int t0]) := by
  have g := gokM hi
  have hx := C.1.1
  have hb := C.1.2.1
  unfold q_X9_take_97 at h
  refine lv_istore (lv' := [(6, .int t0), (0, .ref (Z.2.2.1 0)), (1, .int a1), (2, .int a2), (3, .int x3), (4, .int x4), (5, .int x5)]) hx hb dX9_take_97 hl (by decide) rfl (fun ls hl => ?_)
  refine lv_iload hx hb dX9_take_99 (lv_at hl 0 rfl) ?_
  refine lv_if_ne (tgt := 108) hx hb dX9_take_101 (by decide) (fun c_1 => ?_) (fun c_1 => ?_)
  · have h := h.2 c_1
    refine lv_aload_n hx hb dX9_take_108 rfl (lv_at hl 1 rfl) ?_
    refine s_gR g C hP 0 19 6 (by decide) rfl rfl cfX9 (by decide) kFL_X9_29 dX9_take_109 ?_
    refine lv_bipush (v := (nI 39)) hx hb dX9_take_112 (by decide) ?_
    refine lv_iload hx hb dX9_take_114 (lv_at hl 6 rfl) ?_
    refine lv_iadd hx hb dX9_take_116 ?_
    have hv_2 := h.1
    have h := h.2
    refine s_aI g C hP 6 (by decide) rfl hv_2 dX9_take_117 ?_
    refine lv_iload_n hx hb dX9_take_118 rfl (lv_at hl 4 rfl) ?_
    refine lv_icmp_ge (tgt := 135) hx hb dX9_take_119 (by decide) (fun c_3 => ?_) (fun c_3 => ?_)
    · have h := h.1 c_3
      refine lv_iload_n hx hb dX9_take_135 rfl (lv_at hl 4 rfl) ?_
      exact b_X9_take_136 hi C he_19 _ _ _ _ _ _ _ _ hP hS (lv_sub hl [1, 2, 3, 4, 5, 6] rfl) h
    · have h := h.2 c_3
      refine lv_aload_n hx hb dX9_take_122 rfl (lv_at hl 1 rfl) ?_
      refine s_gR g C hP 0 19 6 (by decide) rfl rfl cfX9 (by decide) kFL_X9_29 dX9_take_123 ?_
      refine lv_bipush (v := (nI 39)) hx hb dX9_take_126 (by decide) ?_
      refine lv_iload hx hb dX9_take_128 (lv_at hl 6 rfl) ?_
      refine lv_iadd hx hb dX9_take_130 ?_
      have hv_4 := h.1
      have h := h.2
      refine s_aI g C hP 6 (by decide) rfl hv_4 dX9_take_131 ?_
      refine lv_goto (tgt := 136) hx hb dX9_take_132 (by decide) ?_
      exact b_X9_take_136 hi C he_19 _ _ _ _ _ _ _ _ hP hS (lv_sub hl [1, 2, 3, 4, 5, 6] rfl) h
  · have h := h.1 c_1
    refine lv_iconst (v := (nI 0)) hx hb dX9_take_104 (by decide) ?_
    refine lv_goto (tgt := 136) hx hb dX9_take_105 (by decide) ?_
    exact b_X9_take_136 hi C he_19 _ _ _ _ _ _ _ _ hP hS (lv_sub hl [1, 2, 3, 4, 5, 6] rfl) h
def q_X9_take_96 (a1 : Int32) (a2 : Int32) (k : St → Prop) (e_19 : St → Int32 → Int32 → Int32 → Prop) (S : St) (x3 : Int32) (x4 : Int32) (x5 : Int32) : Prop := q_X9_take_97 a1 a2 k e_19 S x3 x4 x5 (nI 0)
set_option maxRecDepth 100000 in
set_option maxHeartbeats 4000000 in
theorem b_X9_take_96 {p : Program} {l : Launch} {e : Env} {s : State} {m : MethodId} {args : Array Value} {below : List Frame} {meth : Method} {c : Code} {Z : ZT} (hi : injZ 10 Z) (C : Cxt (gM Z) p s m meth c args yX9_take cX9_take 9 none) {a1 : Int32} {a2 : Int32} {k : St → Prop} {e_19 : St → Int32 → Int32 → Int32 → Prop}  (he_19 : ∀ (S : St) (x3 : Int32) (x4 : Int32) (x5 : Int32) (H : Heap) (locs : List Loc) (ls : Array Slot), va_P Z.1 vwCl (wl shM 10 Z S) H → va_S (aa 10 Z) s.heap H locs → lv_has ls 9 [(0, .ref (Z.2.2.1 0)), (1, .int a1), (2, .int a2), (3, .int x3), (4, .int x4), (5, .int x5)] → e_19 S x3 x4 x5 → W p l e (rmk 1 23) s m args below meth c H locs 0 0 (Qv below shM 10 Z args s k) (F0 m 19 ls [])) (S : St) (x3 : Int32) (x4 : Int32) (x5 : Int32) (H : Heap) (locs : List Loc) (ls : Array Slot) (hP : va_P Z.1 vwCl (wl shM 10 Z S) H) (hS : va_S (aa 10 Z) s.heap H locs) (hl : lv_has ls 9 [(0, .ref (Z.2.2.1 0)), (1, .int a1), (2, .int a2), (3, .int x3), (4, .int x4), (5, .int x5)]) (h : q_X9_take_96 a1 a2 k e_19 S x3 x4 x5) : W p l e (rmk 1 23) s m args below meth c H locs 0 0 (Qv below shM 10 Z args s k) (F0 m 96 ls []) := by
  have g := gokM hi
  have hx := C.1.1
  have hb := C.1.2.1
  unfold q_X9_take_96 at h
  refine lv_iconst (v := (nI 0)) hx hb dX9_take_96 (by decide) ?_
  exact b_X9_take_97 hi C he_19 _ _ _ _ _ _ _ _ hP hS (lv_sub hl [0, 1, 2, 3, 4, 5] rfl) h
def q_X9_take_19 (a1 : Int32) (a2 : Int32) (k : St → Prop) : Nat → St → Int32 → Int32 → Int32 → Prop := fun n_ => Nat.rec (motive := fun _ => St → Int32 → Int32 → Int32 → Prop) (fun _ _ _ _ => False) (fun _ ih => fun S x3 x4 x5 => ((nI 4) ≤ x5 → (((S.1 0 8) = (nI 0) → (q_X9_take_259 a1 a2 k S x4 (nI 0))) ∧ (¬ (S.1 0 8) = (nI 0) → (¬ (S.1 0 8) = (nI 0) ∧ (q_X9_take_259 a1 a2 k S x4 (x4 / (S.1 0 8))))))) ∧ (¬ (nI 4) ≤ x5 → (q_X9_has S (S.1 0 3) x5 (fun r_4 => ((r_4 = (nI 0) → (q_X9_take_96 a1 a2 k ih S x3 x4 x5)) ∧ (¬ r_4 = (nI 0) → (vp_in ((nI 31) + x5) 1197 ∧ (vp_in ((nI 7) + a1) 1197 ∧ (q_X9_xOf S a1 (S.1 6 ((nI 7) + a1).toNatClampNeg) a2 (fun r_8 => (((S.1 6 ((nI 31) + x5).toNatClampNeg) = r_8 → (vp_in ((nI 35) + x5) 1197 ∧ (vp_in ((nI 7) + a1) 1197 ∧ (q_X9_yOf S a1 (S.1 6 ((nI 7) + a1).toNatClampNeg) (fun r_12 => (((S.1 6 ((nI 35) + x5).toNatClampNeg) = r_12 → (q_X9_take_97 a1 a2 k ih S x3 x4 x5 (nI 1))) ∧ (¬ (S.1 6 ((nI 35) + x5).toNatClampNeg) = r_12 → (q_X9_take_96 a1 a2 k ih S x3 x4 x5)))))))) ∧ (¬ (S.1 6 ((nI 31) + x5).toNatClampNeg) = r_8 → (q_X9_take_96 a1 a2 k ih S x3 x4 x5))))))))))))) n_
theorem q_X9_take_19_s (a1 : Int32) (a2 : Int32) (k : St → Prop) (n_ : Nat) (S : St) (x3 : Int32) (x4 : Int32) (x5 : Int32) : q_X9_take_19 a1 a2 k (n_ + 1) S x3 x4 x5 = (((nI 4) ≤ x5 → (((S.1 0 8) = (nI 0) → (q_X9_take_259 a1 a2 k S x4 (nI 0))) ∧ (¬ (S.1 0 8) = (nI 0) → (¬ (S.1 0 8) = (nI 0) ∧ (q_X9_take_259 a1 a2 k S x4 (x4 / (S.1 0 8))))))) ∧ (¬ (nI 4) ≤ x5 → (q_X9_has S (S.1 0 3) x5 (fun r_4 => ((r_4 = (nI 0) → (q_X9_take_96 a1 a2 k (q_X9_take_19 a1 a2 k n_) S x3 x4 x5)) ∧ (¬ r_4 = (nI 0) → (vp_in ((nI 31) + x5) 1197 ∧ (vp_in ((nI 7) + a1) 1197 ∧ (q_X9_xOf S a1 (S.1 6 ((nI 7) + a1).toNatClampNeg) a2 (fun r_8 => (((S.1 6 ((nI 31) + x5).toNatClampNeg) = r_8 → (vp_in ((nI 35) + x5) 1197 ∧ (vp_in ((nI 7) + a1) 1197 ∧ (q_X9_yOf S a1 (S.1 6 ((nI 7) + a1).toNatClampNeg) (fun r_12 => (((S.1 6 ((nI 35) + x5).toNatClampNeg) = r_12 → (q_X9_take_97 a1 a2 k (q_X9_take_19 a1 a2 k n_) S x3 x4 x5 (nI 1))) ∧ (¬ (S.1 6 ((nI 35) + x5).toNatClampNeg) = r_12 → (q_X9_take_96 a1 a2 k (q_X9_take_19 a1 a2 k n_) S x3 x4 x5)))))))) ∧ (¬ (S.1 6 ((nI 31) + x5).toNatClampNeg) = r_8 → (q_X9_take_96 a1 a2 k (q_X9_take_19 a1 a2 k n_) S x3 x4 x5))))))))))))) := rfl
set_option maxRecDepth 100000 in
set_option maxHeartbeats 4000000 in
theorem b_X9_take_19 {p : Program} {l : Launch} {e : Env} {s : State} {m : MethodId} {args : Array Value} {below : List Frame} {meth : Method} {c : Code} {Z : ZT} (hi : injZ 10 Z) (C : Cxt (gM Z) p s m meth c args yX9_take cX9_take 9 none) {a1 : Int32} {a2 : Int32} {k : St → Prop}   : ∀ (n_ : Nat) (S : St) (x3 : Int32) (x4 : Int32) (x5 : Int32) (H : Heap) (locs : List Loc) (ls : Array Slot), va_P Z.1 vwCl (wl shM 10 Z S) H → va_S (aa 10 Z) s.heap H locs → lv_has ls 9 [(0, .ref (Z.2.2.1 0)), (1, .int a1), (2, .int a2), (3, .int x3), (4, .int x4), (5, .int x5)] → q_X9_take_19 a1 a2 k n_ S x3 x4 x5 → W p l e (rmk 1 23) s m args below meth c H locs 0 0 (Qv below shM 10 Z args s k) (F0 m 19 ls []) := by
  have g := gokM hi
  have hx := C.1.1
  have hb := C.1.2.1
  intro n_
  induction n_ with
  | zero => intro S x3 x4 x5 H locs ls hP hS hl h; exact h.elim
  | succ n_ ih =>
    intro S x3 x4 x5 H locs ls hP hS hl h
    rw [q_X9_take_19_s] at h
    refine lv_iload hx hb dX9_take_19 (lv_at hl 5 rfl) ?_
    refine lv_iconst (v := (nI 4)) hx hb dX9_take_21 (by decide) ?_
    refine lv_icmp_ge (tgt := 241) hx hb dX9_take_22 (by decide) (fun c_1 => ?_) (fun c_1 => ?_)
    · have h := h.1 c_1
      refine lv_aload_n hx hb dX9_take_241 rfl (lv_at hl 0 rfl) ?_
      refine s_gI g C hP 0 8 (by decide) rfl rfl cfX9 (by decide) kFL_X9_146 dX9_take_242 ?_
      refine lv_if_ne (tgt := 252) hx hb dX9_take_245 (by decide) (fun c_2 => ?_) (fun c_2 => ?_)
      · have h := h.2 c_2
        refine lv_iload hx hb dX9_take_252 (lv_at hl 4 rfl) ?_
        refine lv_aload_n hx hb dX9_take_254 rfl (lv_at hl 0 rfl) ?_
        refine s_gI g C hP 0 8 (by decide) rfl rfl cfX9 (by decide) kFL_X9_146 dX9_take_255 ?_
        have hn_3 := h.1
        have h := h.2
        refine lv_idiv hx hb dX9_take_258 hn_3 ?_
        exact b_X9_take_259 hi C  _ _ _ _ _ _ hP hS (lv_sub hl [0, 1, 4] rfl) h
      · have h := h.1 c_2
        refine lv_iconst (v := (nI 0)) hx hb dX9_take_248 (by decide) ?_
        refine lv_goto (tgt := 259) hx hb dX9_take_249 (by decide) ?_
        exact b_X9_take_259 hi C  _ _ _ _ _ _ hP hS (lv_sub hl [0, 1, 4] rfl) h
    · have h := h.2 c_1
      refine lv_aload_n hx hb dX9_take_25 rfl (lv_at hl 0 rfl) ?_
      refine s_gI g C hP 0 3 (by decide) rfl rfl cfX9 (by decide) kFL_X9_149 dX9_take_26 ?_
      refine lv_iload hx hb dX9_take_29 (lv_at hl 5 rfl) ?_
      refine go_ip (run_S g C hP hS (As := [.int (S.1 0 3), .int x5]) (rest := []) (c_X9_has hi S (S.1 0 3) x5 _ h) cal_X9_has kML_X9_52 ⟨rfl, rfl, Nat.le_of_ble_eq_true rfl, Nat.le_of_ble_eq_true rfl⟩ rfl rfl hl.1 (Nat.le_of_ble_eq_true rfl) dX9_take_31) hS (fun r_4 H locs h hP hS => ?_)
      obtain ⟨hbr_4, h⟩ := h
      refine lv_if_eq (tgt := 96) hx hb dX9_take_34 (by decide) (fun c_5 => ?_) (fun c_5 => ?_)
      · have h := h.1 c_5
        exact b_X9_take_96 hi C ih _ _ _ _ _ _ _ hP hS (lv_sub hl [0, 1, 2, 3, 4, 5] rfl) h
      · have h := h.2 c_5
        refine lv_aload_n hx hb dX9_take_37 rfl (lv_at hl 0 rfl) ?_
        refine s_gR g C hP 0 19 6 (by decide) rfl rfl cfX9 (by decide) kFL_X9_29 dX9_take_38 ?_
        refine lv_bipush (v := (nI 31)) hx hb dX9_take_41 (by decide) ?_
        refine lv_iload hx hb dX9_take_43 (lv_at hl 5 rfl) ?_
        refine lv_iadd hx hb dX9_take_45 ?_
        have hv_6 := h.1
        have h := h.2
        refine s_aI g C hP 6 (by decide) rfl hv_6 dX9_take_46 ?_
        refine lv_aload_n hx hb dX9_take_47 rfl (lv_at hl 0 rfl) ?_
        refine lv_iload_n hx hb dX9_take_48 rfl (lv_at hl 1 rfl) ?_
        refine lv_aload_n hx hb dX9_take_49 rfl (lv_at hl 0 rfl) ?_
        refine s_gR g C hP 0 19 6 (by decide) rfl rfl cfX9 (by decide) kFL_X9_29 dX9_take_50 ?_
        refine lv_bipush (v := (nI 7)) hx hb dX9_take_53 (by decide) ?_
        refine lv_iload_n hx hb dX9_take_55 rfl (lv_at hl 1 rfl) ?_
        refine lv_iadd hx hb dX9_take_56 ?_
        have hv_7 := h.1
        have h := h.2
        refine s_aI g C hP 6 (by decide) rfl hv_7 dX9_take_57 ?_
        refine lv_iload_n hx hb dX9_take_58 rfl (lv_at hl 2 rfl) ?_
        refine go_ip (run_V g C hP hS (c0 := 0) (As := [.int a1, .int (S.1 6 ((nI 7) + a1).toNatClampNeg), .int a2]) (rest := [.int (S.1 6 ((nI 31) + x5).toNatClampNeg)]) (c_X9_xOf hi S a1 (S.1 6 ((nI 7) + a1).toNatClampNeg) a2 _ h) cal_X9_xOf kML_X9_174 (by decide) rfl cfX9 ⟨rfl, rfl, Nat.le_of_ble_eq_true rfl, Nat.le_of_ble_eq_true rfl⟩ rfl rfl hl.1 (Nat.le_of_ble_eq_true rfl) dX9_take_59) hS (fun r_8 H locs h hP hS => ?_)
        refine lv_icmp_ne (tgt := 96) hx hb dX9_take_62 (by decide) (fun c_9 => ?_) (fun c_9 => ?_)
        · have h := h.2 c_9
          exact b_X9_take_96 hi C ih _ _ _ _ _ _ _ hP hS (lv_sub hl [0, 1, 2, 3, 4, 5] rfl) h
        · have h := h.1 c_9
          refine lv_aload_n hx hb dX9_take_65 rfl (lv_at hl 0 rfl) ?_
          refine s_gR g C hP 0 19 6 (by decide) rfl rfl cfX9 (by decide) kFL_X9_29 dX9_take_66 ?_
          refine lv_bipush (v := (nI 35)) hx hb dX9_take_69 (by decide) ?_
          refine lv_iload hx hb dX9_take_71 (lv_at hl 5 rfl) ?_
          refine lv_iadd hx hb dX9_take_73 ?_
          have hv_10 := h.1
          have h := h.2
          refine s_aI g C hP 6 (by decide) rfl hv_10 dX9_take_74 ?_
          refine lv_aload_n hx hb dX9_take_75 rfl (lv_at hl 0 rfl) ?_
          refine lv_iload_n hx hb dX9_take_76 rfl (lv_at hl 1 rfl) ?_
          refine lv_aload_n hx hb dX9_take_77 rfl (lv_at hl 0 rfl) ?_
          refine s_gR g C hP 0 19 6 (by decide) rfl rfl cfX9 (by decide) kFL_X9_29 dX9_take_78 ?_
          refine lv_bipush (v := (nI 7)) hx hb dX9_take_81 (by decide) ?_
          refine lv_iload_n hx hb dX9_take_83 rfl (lv_at hl 1 rfl) ?_
          refine lv_iadd hx hb dX9_take_84 ?_
          have hv_11 := h.1
          have h := h.2
          refine s_aI g C hP 6 (by decide) rfl hv_11 dX9_take_85 ?_
          refine go_ip (run_V g C hP hS (c0 := 0) (As := [.int a1, .int (S.1 6 ((nI 7) + a1).toNatClampNeg)]) (rest := [.int (S.1 6 ((nI 35) + x5).toNatClampNeg)]) (c_X9_yOf hi S a1 (S.1 6 ((nI 7) + a1).toNatClampNeg) _ h) cal_X9_yOf kML_X9_178 (by decide) rfl cfX9 ⟨rfl, rfl, Nat.le_of_ble_eq_true rfl, Nat.le_of_ble_eq_true rfl⟩ rfl rfl hl.1 (Nat.le_of_ble_eq_true rfl) dX9_take_86) hS (fun r_12 H locs h hP hS => ?_)
          refine lv_icmp_ne (tgt := 96) hx hb dX9_take_89 (by decide) (fun c_13 => ?_) (fun c_13 => ?_)
          · have h := h.2 c_13
            exact b_X9_take_96 hi C ih _ _ _ _ _ _ _ hP hS (lv_sub hl [0, 1, 2, 3, 4, 5] rfl) h
          · have h := h.1 c_13
            refine lv_iconst (v := (nI 1)) hx hb dX9_take_92 (by decide) ?_
            refine lv_goto (tgt := 97) hx hb dX9_take_93 (by decide) ?_
            exact b_X9_take_97 hi C ih _ _ _ _ _ _ _ _ hP hS (lv_sub hl [0, 1, 2, 3, 4, 5] rfl) h
def q_X9_take (S : St) (a1 : Int32) (a2 : Int32) (k : St → Prop) : Prop := vp_in (((nI 5) * a1) + (nI 3)) 30 ∧ (∀ x3_2 : Int32, x3_2 = ((nI 3) * (S.1 2 (((nI 5) * a1) + (nI 3)).toNatClampNeg)) → (∃ f_19, q_X9_take_19 a1 a2 k f_19 S x3_2 (nI 0) (nI 0)))
set_option maxRecDepth 100000 in
set_option maxHeartbeats 4000000 in
theorem c_X9_take {l : Launch} {Z : ZT} (hi : injZ 10 Z) (S : St) (a1 : Int32) (a2 : Int32) (k : St → Prop) (h : q_X9_take S a1 a2 k) : Mv l shM 10 Z (gM Z) yX9_take cX9_take 9 none (rmk 1 23) [.ref (Z.2.2.1 0), .int a1, .int a2] S k := by
  have g := gokM hi
  refine e_v (by decide) (Nat.le_of_ble_eq_true rfl) (lv := [(0, .ref (Z.2.2.1 0)), (1, .int a1), (2, .int a2)]) rfl (fun p e s m args below meth c C hP hS ls hl => ?_)
  have hx := C.1.1
  have hb := C.1.2.1
  unfold q_X9_take at h
  refine lv_iconst (v := (nI 3)) hx hb dX9_take_0 (by decide) ?_
  refine lv_aload_n hx hb dX9_take_1 rfl (lv_at hl 0 rfl) ?_
  refine s_gR g C hP 0 2 2 (by decide) rfl rfl cfX9 (by decide) kFL_X9_13 dX9_take_2 ?_
  refine lv_iconst (v := (nI 5)) hx hb dX9_take_5 (by decide) ?_
  refine lv_iload_n hx hb dX9_take_6 rfl (lv_at hl 1 rfl) ?_
  refine lv_imul hx hb dX9_take_7 ?_
  refine lv_iconst (v := (nI 3)) hx hb dX9_take_8 (by decide) ?_
  refine lv_iadd hx hb dX9_take_9 ?_
  have hv_1 := h.1
  have h := h.2
  refine s_aI g C hP 2 (by decide) rfl hv_1 dX9_take_10 ?_
  refine lv_imul hx hb dX9_take_11 ?_
  refine lv_topi (fun x3_2 ex3_2 => ?_)
  have h := h x3_2 ex3_2
  refine lv_istore_n (lv' := [(3, .int x3_2), (0, .ref (Z.2.2.1 0)), (1, .int a1), (2, .int a2)]) hx hb dX9_take_12 rfl hl (by decide) rfl (fun ls hl => ?_)
  refine lv_iconst (v := (nI 0)) hx hb dX9_take_13 (by decide) ?_
  refine lv_istore (lv' := [(4, .int (nI 0)), (3, .int x3_2), (0, .ref (Z.2.2.1 0)), (1, .int a1), (2, .int a2)]) hx hb dX9_take_14 hl (by decide) rfl (fun ls hl => ?_)
  refine lv_iconst (v := (nI 0)) hx hb dX9_take_16 (by decide) ?_
  refine lv_istore (lv' := [(5, .int (nI 0)), (4, .int (nI 0)), (3, .int x3_2), (0, .ref (Z.2.2.1 0)), (1, .int a1), (2, .int a2)]) hx hb dX9_take_17 hl (by decide) rfl (fun ls hl => ?_)
  obtain ⟨f_19, h⟩ := h
  exact b_X9_take_19 hi C  f_19 _ _ _ _ _ _ _ hP hS (lv_sub hl [3, 4, 5, 2, 1, 0] rfl) h
def q_X9_goHour_59 (k : St → Prop) : Nat → St → Int32 → Prop := fun n_ => Nat.rec (motive := fun _ => St → Int32 → Prop) (fun _ _ => False) (fun _ ih => fun S x2 => ((nI 4) ≤ x2 → (∀ S_2 : St, S_2 = sI S 6 (nI 0).toNatClampNeg ((S.1 6 (nI 0).toNatClampNeg) + (nI 1)) → (k S_2))) ∧ (¬ (nI 4) ≤ x2 → (vp_in ((nI 31) + x2) 1197 ∧ (vp_in (((nI 5) * x2) + (nI 2)) 20 ∧ (vp_in ((nI 31) + x2) 1197 ∧ (∀ S_6 : St, S_6 = sI S 6 ((nI 31) + x2).toNatClampNeg ((S.1 6 ((nI 31) + x2).toNatClampNeg) + (S.1 3 (((nI 5) * x2) + (nI 2)).toNatClampNeg)) → (vp_in ((nI 35) + x2) 1197 ∧ (vp_in (((nI 5) * x2) + (nI 3)) 20 ∧ (vp_in ((nI 35) + x2) 1197 ∧ (∀ S_10 : St, S_10 = sI S_6 6 ((nI 35) + x2).toNatClampNeg ((S_6.1 6 ((nI 35) + x2).toNatClampNeg) + (S_6.1 3 (((nI 5) * x2) + (nI 3)).toNatClampNeg)) → (∀ x2_11 : Int32, x2_11 = x2 + (nI 1) → (ih S_10 x2_11)))))))))))) n_
theorem q_X9_goHour_59_s (k : St → Prop) (n_ : Nat) (S : St) (x2 : Int32) : q_X9_goHour_59 k (n_ + 1) S x2 = (((nI 4) ≤ x2 → (∀ S_2 : St, S_2 = sI S 6 (nI 0).toNatClampNeg ((S.1 6 (nI 0).toNatClampNeg) + (nI 1)) → (k S_2))) ∧ (¬ (nI 4) ≤ x2 → (vp_in ((nI 31) + x2) 1197 ∧ (vp_in (((nI 5) * x2) + (nI 2)) 20 ∧ (vp_in ((nI 31) + x2) 1197 ∧ (∀ S_6 : St, S_6 = sI S 6 ((nI 31) + x2).toNatClampNeg ((S.1 6 ((nI 31) + x2).toNatClampNeg) + (S.1 3 (((nI 5) * x2) + (nI 2)).toNatClampNeg)) → (vp_in ((nI 35) + x2) 1197 ∧ (vp_in (((nI 5) * x2) + (nI 3)) 20 ∧ (vp_in ((nI 35) + x2) 1197 ∧ (∀ S_10 : St, S_10 = sI S_6 6 ((nI 35) + x2).toNatClampNeg ((S_6.1 6 ((nI 35) + x2).toNatClampNeg) + (S_6.1 3 (((nI 5) * x2) + (nI 3)).toNatClampNeg)) → (∀ x2_11 : Int32, x2_11 = x2 + (nI 1) → ((q_X9_goHour_59 k n_) S_10 x2_11)))))))))))) := rfl
set_option maxRecDepth 100000 in
set_option maxHeartbeats 4000000 in
theorem b_X9_goHour_59 {p : Program} {l : Launch} {e : Env} {s : State} {m : MethodId} {args : Array Value} {below : List Frame} {meth : Method} {c : Code} {Z : ZT} (hi : injZ 10 Z) (C : Cxt (gM Z) p s m meth c args yX9_goHour cX9_goHour 3 none) {k : St → Prop}   : ∀ (n_ : Nat) (S : St) (x2 : Int32) (H : Heap) (locs : List Loc) (ls : Array Slot), va_P Z.1 vwCl (wl shM 10 Z S) H → va_S (aa 10 Z) s.heap H locs → lv_has ls 3 [(0, .ref (Z.2.2.1 0)), (2, .int x2)] → q_X9_goHour_59 k n_ S x2 → W p l e (rmk 3 75) s m args below meth c H locs 0 0 (Qv below shM 10 Z args s k) (F0 m 59 ls []) := by
  have g := gokM hi
  have hx := C.1.1
  have hb := C.1.2.1
  intro n_
  induction n_ with
  | zero => intro S x2 H locs ls hP hS hl h; exact h.elim
  | succ n_ ih =>
    intro S x2 H locs ls hP hS hl h
    rw [q_X9_goHour_59_s] at h
    refine lv_iload_n hx hb dX9_goHour_59 rfl (lv_at hl 1 rfl) ?_
    refine lv_iconst (v := (nI 4)) hx hb dX9_goHour_60 (by decide) ?_
    refine lv_icmp_ge (tgt := 114) hx hb dX9_goHour_61 (by decide) (fun c_1 => ?_) (fun c_1 => ?_)
    · have h := h.1 c_1
      refine lv_aload_n hx hb dX9_goHour_114 rfl (lv_at hl 0 rfl) ?_
      refine s_gR g C hP 0 19 6 (by decide) rfl rfl cfX9 (by decide) kFL_X9_29 dX9_goHour_115 ?_
      refine lv_iconst (v := (nI 0)) hx hb dX9_goHour_118 (by decide) ?_
      refine lv_dup2_11 hx hb dX9_goHour_119 rfl rfl ?_
      refine s_aI g C hP 6 (by decide) rfl (vinL (by decide +kernel)) dX9_goHour_120 ?_
      refine lv_iconst (v := (nI 1)) hx hb dX9_goHour_121 (by decide) ?_
      refine lv_iadd hx hb dX9_goHour_122 ?_
      refine s_stI g C hP hS 6 (by decide) rfl (vinL (by decide +kernel)) dX9_goHour_123 (fun H locs hP hS => ?_)
      obtain ⟨S_2, eS_2⟩ : ∃ z_ : St, z_ = sI S 6 (nI 0).toNatClampNeg ((S.1 6 (nI 0).toNatClampNeg) + (nI 1)) := ⟨_, rfl⟩
      rw [← eS_2] at hP
      have h := h S_2 eS_2
      exact s_rv C hP hS h dX9_goHour_124
    · have h := h.2 c_1
      refine lv_aload_n hx hb dX9_goHour_64 rfl (lv_at hl 0 rfl) ?_
      refine s_gR g C hP 0 19 6 (by decide) rfl rfl cfX9 (by decide) kFL_X9_29 dX9_goHour_65 ?_
      refine lv_bipush (v := (nI 31)) hx hb dX9_goHour_68 (by decide) ?_
      refine lv_iload_n hx hb dX9_goHour_70 rfl (lv_at hl 1 rfl) ?_
      refine lv_iadd hx hb dX9_goHour_71 ?_
      refine lv_dup2_11 hx hb dX9_goHour_72 rfl rfl ?_
      have hv_3 := h.1
      have h := h.2
      refine s_aI g C hP 6 (by decide) rfl hv_3 dX9_goHour_73 ?_
      refine lv_aload_n hx hb dX9_goHour_74 rfl (lv_at hl 0 rfl) ?_
      refine s_gR g C hP 0 4 3 (by decide) rfl rfl cfX9 (by decide) kFL_X9_16 dX9_goHour_75 ?_
      refine lv_iconst (v := (nI 5)) hx hb dX9_goHour_78 (by decide) ?_
      refine lv_iload_n hx hb dX9_goHour_79 rfl (lv_at hl 1 rfl) ?_
      refine lv_imul hx hb dX9_goHour_80 ?_
      refine lv_iconst (v := (nI 2)) hx hb dX9_goHour_81 (by decide) ?_
      refine lv_iadd hx hb dX9_goHour_82 ?_
      have hv_4 := h.1
      have h := h.2
      refine s_aI g C hP 3 (by decide) rfl hv_4 dX9_goHour_83 ?_
      refine lv_iadd hx hb dX9_goHour_84 ?_
      have hv_5 := h.1
      have h := h.2
      refine s_stI g C hP hS 6 (by decide) rfl hv_5 dX9_goHour_85 (fun H locs hP hS => ?_)
      obtain ⟨S_6, eS_6⟩ : ∃ z_ : St, z_ = sI S 6 ((nI 31) + x2).toNatClampNeg ((S.1 6 ((nI 31) + x2).toNatClampNeg) + (S.1 3 (((nI 5) * x2) + (nI 2)).toNatClampNeg)) := ⟨_, rfl⟩
      rw [← eS_6] at hP
      have h := h S_6 eS_6
      refine lv_aload_n hx hb dX9_goHour_86 rfl (lv_at hl 0 rfl) ?_
      refine s_gR g C hP 0 19 6 (by decide) rfl rfl cfX9 (by decide) kFL_X9_29 dX9_goHour_87 ?_
      refine lv_bipush (v := (nI 35)) hx hb dX9_goHour_90 (by decide) ?_
      refine lv_iload_n hx hb dX9_goHour_92 rfl (lv_at hl 1 rfl) ?_
      refine lv_iadd hx hb dX9_goHour_93 ?_
      refine lv_dup2_11 hx hb dX9_goHour_94 rfl rfl ?_
      have hv_7 := h.1
      have h := h.2
      refine s_aI g C hP 6 (by decide) rfl hv_7 dX9_goHour_95 ?_
      refine lv_aload_n hx hb dX9_goHour_96 rfl (lv_at hl 0 rfl) ?_
      refine s_gR g C hP 0 4 3 (by decide) rfl rfl cfX9 (by decide) kFL_X9_16 dX9_goHour_97 ?_
      refine lv_iconst (v := (nI 5)) hx hb dX9_goHour_100 (by decide) ?_
      refine lv_iload_n hx hb dX9_goHour_101 rfl (lv_at hl 1 rfl) ?_
      refine lv_imul hx hb dX9_goHour_102 ?_
      refine lv_iconst (v := (nI 3)) hx hb dX9_goHour_103 (by decide) ?_
      refine lv_iadd hx hb dX9_goHour_104 ?_
      have hv_8 := h.1
      have h := h.2
      refine s_aI g C hP 3 (by decide) rfl hv_8 dX9_goHour_105 ?_
      refine lv_iadd hx hb dX9_goHour_106 ?_
      have hv_9 := h.1
      have h := h.2
      refine s_stI g C hP hS 6 (by decide) rfl hv_9 dX9_goHour_107 (fun H locs hP hS => ?_)
      obtain ⟨S_10, eS_10⟩ : ∃ z_ : St, z_ = sI S_6 6 ((nI 35) + x2).toNatClampNeg ((S_6.1 6 ((nI 35) + x2).toNatClampNeg) + (S_6.1 3 (((nI 5) * x2) + (nI 3)).toNatClampNeg)) := ⟨_, rfl⟩
      rw [← eS_10] at hP
      have h := h S_10 eS_10
      obtain ⟨x2_11, ex2_11⟩ : ∃ y_ : Int32, y_ = x2 + (nI 1) := ⟨_, rfl⟩
      have h := h x2_11 ex2_11
      refine lv_iinc (v := x2_11) (lv' := [(2, .int x2_11), (0, .ref (Z.2.2.1 0))]) hx hb dX9_goHour_108 hl (k := 1) rfl (by rw [ex2_11]; rfl) (by decide) rfl (fun ls hl => ?_)
      refine lv_goto (tgt := 59) hx hb dX9_goHour_111 (by decide) ?_
      exact ih _ _ _ _ _ hP hS (lv_sub hl [1, 0] rfl) h
def q_X9_goHour_51 (k : St → Prop) (e_14 : St → Int32 → Int32 → Prop) (S : St) (x1 : Int32) (x2 : Int32) : Prop := ∀ x2_1 : Int32, x2_1 = x2 + (nI 1) → (e_14 S x1 x2_1)
set_option maxRecDepth 100000 in
set_option maxHeartbeats 4000000 in
theorem b_X9_goHour_51 {p : Program} {l : Launch} {e : Env} {s : State} {m : MethodId} {args : Array Value} {below : List Frame} {meth : Method} {c : Code} {Z : ZT} (hi : injZ 10 Z) (C : Cxt (gM Z) p s m meth c args yX9_goHour cX9_goHour 3 none) {k : St → Prop} {e_14 : St → Int32 → Int32 → Prop}  (he_14 : ∀ (S : St) (x1 : Int32) (x2 : Int32) (H : Heap) (locs : List Loc) (ls : Array Slot), va_P Z.1 vwCl (wl shM 10 Z S) H → va_S (aa 10 Z) s.heap H locs → lv_has ls 3 [(0, .ref (Z.2.2.1 0)), (1, .int x1), (2, .int x2)] → e_14 S x1 x2 → W p l e (rmk 3 75) s m args below meth c H locs 0 0 (Qv below shM 10 Z args s k) (F0 m 14 ls [])) (S : St) (x1 : Int32) (x2 : Int32) (H : Heap) (locs : List Loc) (ls : Array Slot) (hP : va_P Z.1 vwCl (wl shM 10 Z S) H) (hS : va_S (aa 10 Z) s.heap H locs) (hl : lv_has ls 3 [(0, .ref (Z.2.2.1 0)), (1, .int x1), (2, .int x2)]) (h : q_X9_goHour_51 k e_14 S x1 x2) : W p l e (rmk 3 75) s m args below meth c H locs 0 0 (Qv below shM 10 Z args s k) (F0 m 51 ls []) := by
  have g := gokM hi
  have hx := C.1.1
  have hb := C.1.2.1
  unfold q_X9_goHour_51 at h
  obtain ⟨x2_1, ex2_1⟩ : ∃ y_ : Int32, y_ = x2 + (nI 1) := ⟨_, rfl⟩
  have h := h x2_1 ex2_1
  refine lv_iinc (v := x2_1) (lv' := [(2, .int x2_1), (0, .ref (Z.2.2.1 0)), (1, .int x1)]) hx hb dX9_goHour_51 hl (k := 2) rfl (by rw [ex2_1]; rfl) (by decide) rfl (fun ls hl => ?_)
  refine lv_goto (tgt := 14) hx hb dX9_goHour_54 (by decide) ?_
  exact he_14 _ _ _ _ _ _ hP hS (lv_sub hl [1, 2, 0] rfl) h
def q_X9_goHour_14 (k : St → Prop) : Nat → St → Int32 → Int32 → Prop := fun n_ => Nat.rec (motive := fun _ => St → Int32 → Int32 → Prop) (fun _ _ _ => False) (fun _ ih => fun S x1 x2 => ((nI 6) ≤ x2 → (∃ f_59, q_X9_goHour_59 k f_59 S (nI 0))) ∧ (¬ (nI 6) ≤ x2 → (vp_in ((nI 1) + x2) 1197 ∧ (((S.1 6 ((nI 1) + x2).toNatClampNeg) = (nI 1) → (vp_in ((nI 19) + x2) 1197 ∧ (vp_in ((nI 19) + x2) 1197 ∧ (∀ S_6 : St, S_6 = sI S 6 ((nI 19) + x2).toNatClampNeg ((S.1 6 ((nI 19) + x2).toNatClampNeg) + (nI 1)) → (q_X9_take S_6 x2 x1 (fun S_7 => (q_X9_goHour_51 k ih S_7 x1 x2))))))) ∧ (¬ (S.1 6 ((nI 1) + x2).toNatClampNeg) = (nI 1) → (q_X9_goHour_51 k ih S x1 x2)))))) n_
theorem q_X9_goHour_14_s (k : St → Prop) (n_ : Nat) (S : St) (x1 : Int32) (x2 : Int32) : q_X9_goHour_14 k (n_ + 1) S x1 x2 = (((nI 6) ≤ x2 → (∃ f_59, q_X9_goHour_59 k f_59 S (nI 0))) ∧ (¬ (nI 6) ≤ x2 → (vp_in ((nI 1) + x2) 1197 ∧ (((S.1 6 ((nI 1) + x2).toNatClampNeg) = (nI 1) → (vp_in ((nI 19) + x2) 1197 ∧ (vp_in ((nI 19) + x2) 1197 ∧ (∀ S_6 : St, S_6 = sI S 6 ((nI 19) + x2).toNatClampNeg ((S.1 6 ((nI 19) + x2).toNatClampNeg) + (nI 1)) → (q_X9_take S_6 x2 x1 (fun S_7 => (q_X9_goHour_51 k (q_X9_goHour_14 k n_) S_7 x1 x2))))))) ∧ (¬ (S.1 6 ((nI 1) + x2).toNatClampNeg) = (nI 1) → (q_X9_goHour_51 k (q_X9_goHour_14 k n_) S x1 x2)))))) := rfl
set_option maxRecDepth 100000 in
set_option maxHeartbeats 4000000 in
theorem b_X9_goHour_14 {p : Program} {l : Launch} {e : Env} {s : State} {m : MethodId} {args : Array Value} {below : List Frame} {meth : Method} {c : Code} {Z : ZT} (hi : injZ 10 Z) (C : Cxt (gM Z) p s m meth c args yX9_goHour cX9_goHour 3 none) {k : St → Prop}   : ∀ (n_ : Nat) (S : St) (x1 : Int32) (x2 : Int32) (H : Heap) (locs : List Loc) (ls : Array Slot), va_P Z.1 vwCl (wl shM 10 Z S) H → va_S (aa 10 Z) s.heap H locs → lv_has ls 3 [(0, .ref (Z.2.2.1 0)), (1, .int x1), (2, .int x2)] → q_X9_goHour_14 k n_ S x1 x2 → W p l e (rmk 3 75) s m args below meth c H locs 0 0 (Qv below shM 10 Z args s k) (F0 m 14 ls []) := by
  have g := gokM hi
  have hx := C.1.1
  have hb := C.1.2.1
  intro n_
  induction n_ with
  | zero => intro S x1 x2 H locs ls hP hS hl h; exact h.elim
  | succ n_ ih =>
    intro S x1 x2 H locs ls hP hS hl h
    rw [q_X9_goHour_14_s] at h
    refine lv_iload_n hx hb dX9_goHour_14 rfl (lv_at hl 2 rfl) ?_
    refine lv_bipush (v := (nI 6)) hx hb dX9_goHour_15 (by decide) ?_
    refine lv_icmp_ge (tgt := 57) hx hb dX9_goHour_17 (by decide) (fun c_1 => ?_) (fun c_1 => ?_)
    · have h := h.1 c_1
      refine lv_iconst (v := (nI 0)) hx hb dX9_goHour_57 (by decide) ?_
      refine lv_istore_n (lv' := [(2, .int (nI 0)), (0, .ref (Z.2.2.1 0)), (1, .int x1)]) hx hb dX9_goHour_58 rfl hl (by decide) rfl (fun ls hl => ?_)
      obtain ⟨f_59, h⟩ := h
      exact b_X9_goHour_59 hi C  f_59 _ _ _ _ _ hP hS (lv_sub hl [1, 0] rfl) h
    · have h := h.2 c_1
      refine lv_aload_n hx hb dX9_goHour_20 rfl (lv_at hl 0 rfl) ?_
      refine s_gR g C hP 0 19 6 (by decide) rfl rfl cfX9 (by decide) kFL_X9_29 dX9_goHour_21 ?_
      refine lv_iconst (v := (nI 1)) hx hb dX9_goHour_24 (by decide) ?_
      refine lv_iload_n hx hb dX9_goHour_25 rfl (lv_at hl 2 rfl) ?_
      refine lv_iadd hx hb dX9_goHour_26 ?_
      have hv_2 := h.1
      have h := h.2
      refine s_aI g C hP 6 (by decide) rfl hv_2 dX9_goHour_27 ?_
      refine lv_iconst (v := (nI 1)) hx hb dX9_goHour_28 (by decide) ?_
      refine lv_icmp_ne (tgt := 51) hx hb dX9_goHour_29 (by decide) (fun c_3 => ?_) (fun c_3 => ?_)
      · have h := h.2 c_3
        exact b_X9_goHour_51 hi C ih _ _ _ _ _ _ hP hS (lv_sub hl [0, 1, 2] rfl) h
      · have h := h.1 c_3
        refine lv_aload_n hx hb dX9_goHour_32 rfl (lv_at hl 0 rfl) ?_
        refine s_gR g C hP 0 19 6 (by decide) rfl rfl cfX9 (by decide) kFL_X9_29 dX9_goHour_33 ?_
        refine lv_bipush (v := (nI 19)) hx hb dX9_goHour_36 (by decide) ?_
        refine lv_iload_n hx hb dX9_goHour_38 rfl (lv_at hl 2 rfl) ?_
        refine lv_iadd hx hb dX9_goHour_39 ?_
        refine lv_dup2_11 hx hb dX9_goHour_40 rfl rfl ?_
        have hv_4 := h.1
        have h := h.2
        refine s_aI g C hP 6 (by decide) rfl hv_4 dX9_goHour_41 ?_
        refine lv_iconst (v := (nI 1)) hx hb dX9_goHour_42 (by decide) ?_
        refine lv_iadd hx hb dX9_goHour_43 ?_
        have hv_5 := h.1
        have h := h.2
        refine s_stI g C hP hS 6 (by decide) rfl hv_5 dX9_goHour_44 (fun H locs hP hS => ?_)
        obtain ⟨S_6, eS_6⟩ : ∃ z_ : St, z_ = sI S 6 ((nI 19) + x2).toNatClampNeg ((S.1 6 ((nI 19) + x2).toNatClampNeg) + (nI 1)) := ⟨_, rfl⟩
        rw [← eS_6] at hP
        have h := h S_6 eS_6
        refine lv_aload_n hx hb dX9_goHour_45 rfl (lv_at hl 0 rfl) ?_
        refine lv_iload_n hx hb dX9_goHour_46 rfl (lv_at hl 2 rfl) ?_
        refine lv_iload_n hx hb dX9_goHour_47 rfl (lv_at hl 1 rfl) ?_
        refine go_v (run_V g C hP hS (c0 := 0) (As := [.int x2, .int x1]) (rest := []) (c_X9_take hi S_6 x2 x1 _ h) cal_X9_take kML_X9_198 (by decide) rfl cfX9 ⟨rfl, rfl, Nat.le_of_ble_eq_true rfl, Nat.le_of_ble_eq_true rfl⟩ rfl rfl hl.1 (Nat.le_of_ble_eq_true rfl) dX9_goHour_48) hS (fun S_7 H locs h hP hS => ?_)
        exact b_X9_goHour_51 hi C ih _ _ _ _ _ _ hP hS (lv_sub hl [0, 1, 2] rfl) h
def q_X9_goHour (S : St) (k : St → Prop) : Prop := ∀ x1_1 : Int32, x1_1 = (S.1 6 (nI 0).toNatClampNeg) → (q_X9_findUp S x1_1 (fun S_2 => (∃ f_14, q_X9_goHour_14 k f_14 S_2 x1_1 (nI 0))))
set_option maxRecDepth 100000 in
set_option maxHeartbeats 4000000 in
theorem c_X9_goHour {l : Launch} {Z : ZT} (hi : injZ 10 Z) (S : St) (k : St → Prop) (h : q_X9_goHour S k) : Mv l shM 10 Z (gM Z) yX9_goHour cX9_goHour 3 none (rmk 3 75) [.ref (Z.2.2.1 0)] S k := by
  have g := gokM hi
  refine e_v (by decide) (Nat.le_of_ble_eq_true rfl) (lv := [(0, .ref (Z.2.2.1 0))]) rfl (fun p e s m args below meth c C hP hS ls hl => ?_)
  have hx := C.1.1
  have hb := C.1.2.1
  unfold q_X9_goHour at h
  refine lv_aload_n hx hb dX9_goHour_0 rfl (lv_at hl 0 rfl) ?_
  refine s_gR g C hP 0 19 6 (by decide) rfl rfl cfX9 (by decide) kFL_X9_29 dX9_goHour_1 ?_
  refine lv_iconst (v := (nI 0)) hx hb dX9_goHour_4 (by decide) ?_
  refine s_aI g C hP 6 (by decide) rfl (vinL (by decide +kernel)) dX9_goHour_5 ?_
  refine lv_topi (fun x1_1 ex1_1 => ?_)
  have h := h x1_1 ex1_1
  refine lv_istore_n (lv' := [(1, .int x1_1), (0, .ref (Z.2.2.1 0))]) hx hb dX9_goHour_6 rfl hl (by decide) rfl (fun ls hl => ?_)
  refine lv_aload_n hx hb dX9_goHour_7 rfl (lv_at hl 1 rfl) ?_
  refine lv_iload_n hx hb dX9_goHour_8 rfl (lv_at hl 0 rfl) ?_
  refine go_v (run_V g C hP hS (c0 := 0) (As := [.int x1_1]) (rest := []) (c_X9_findUp hi S x1_1 _ h) cal_X9_findUp kML_X9_195 (by decide) rfl cfX9 ⟨rfl, rfl, Nat.le_of_ble_eq_true rfl, Nat.le_of_ble_eq_true rfl⟩ rfl rfl hl.1 (Nat.le_of_ble_eq_true rfl) dX9_goHour_9) hS (fun S_2 H locs h hP hS => ?_)
  refine lv_iconst (v := (nI 0)) hx hb dX9_goHour_12 (by decide) ?_
  refine lv_istore_n (lv' := [(2, .int (nI 0)), (1, .int x1_1), (0, .ref (Z.2.2.1 0))]) hx hb dX9_goHour_13 rfl hl (by decide) rfl (fun ls hl => ?_)
  obtain ⟨f_14, h⟩ := h
  exact b_X9_goHour_14 hi C  f_14 _ _ _ _ _ _ hP hS (lv_sub hl [2, 1, 0] rfl) h
def q_X9_go_41 (a1 : Int32) (k : Int32 → St → Prop) (S : St) : Prop := k (S.1 6 (nI 0).toNatClampNeg) S
set_option maxRecDepth 100000 in
set_option maxHeartbeats 4000000 in
theorem b_X9_go_41 {p : Program} {l : Launch} {e : Env} {s : State} {m : MethodId} {args : Array Value} {below : List Frame} {meth : Method} {c : Code} {Z : ZT} (hi : injZ 10 Z) (C : Cxt (gM Z) p s m meth c args yX9_go cX9_go 3 (Option.some .int)) {a1 : Int32} {k : Int32 → St → Prop}   (S : St) (H : Heap) (locs : List Loc) (ls : Array Slot) (hP : va_P Z.1 vwCl (wl shM 10 Z S) H) (hS : va_S (aa 10 Z) s.heap H locs) (hl : lv_has ls 3 [(0, .ref (Z.2.2.1 0))]) (h : q_X9_go_41 a1 k S) : W p l e (rmk 4 97) s m args below meth c H locs 0 0 (Qi below shM 10 Z args s k) (F0 m 41 ls []) := by
  have g := gokM hi
  have hx := C.1.1
  have hb := C.1.2.1
  unfold q_X9_go_41 at h
  refine lv_aload_n hx hb dX9_go_41 rfl (lv_at hl 0 rfl) ?_
  refine s_gR g C hP 0 19 6 (by decide) rfl rfl cfX9 (by decide) kFL_X9_29 dX9_go_42 ?_
  refine lv_iconst (v := (nI 0)) hx hb dX9_go_45 (by decide) ?_
  refine s_aI g C hP 6 (by decide) rfl (vinL (by decide +kernel)) dX9_go_46 ?_
  exact s_ri C hP hS h dX9_go_47
def q_X9_go_15 (a1 : Int32) (k : Int32 → St → Prop) : Nat → St → Int32 → Prop := fun n_ => Nat.rec (motive := fun _ => St → Int32 → Prop) (fun _ _ => False) (fun _ ih => fun S x2 => (a1 ≤ x2 → (q_X9_go_41 a1 k S)) ∧ (¬ a1 ≤ x2 → (((nI 12) ≤ (S.1 6 (nI 0).toNatClampNeg) → (q_X9_go_41 a1 k S)) ∧ (¬ (nI 12) ≤ (S.1 6 (nI 0).toNatClampNeg) → (q_X9_goHour S (fun S_3 => (∀ x2_4 : Int32, x2_4 = x2 + (nI 1) → (ih S_3 x2_4)))))))) n_
theorem q_X9_go_15_s (a1 : Int32) (k : Int32 → St → Prop) (n_ : Nat) (S : St) (x2 : Int32) : q_X9_go_15 a1 k (n_ + 1) S x2 = ((a1 ≤ x2 → (q_X9_go_41 a1 k S)) ∧ (¬ a1 ≤ x2 → (((nI 12) ≤ (S.1 6 (nI 0).toNatClampNeg) → (q_X9_go_41 a1 k S)) ∧ (¬ (nI 12) ≤ (S.1 6 (nI 0).toNatClampNeg) → (q_X9_goHour S (fun S_3 => (∀ x2_4 : Int32, x2_4 = x2 + (nI 1) → ((q_X9_go_15 a1 k n_) S_3 x2_4)))))))) := rfl
set_option maxRecDepth 100000 in
set_option maxHeartbeats 4000000 in
theorem b_X9_go_15 {p : Program} {l : Launch} {e : Env} {s : State} {m : MethodId} {args : Array Value} {below : List Frame} {meth : Method} {c : Code} {Z : ZT} (hi : injZ 10 Z) (C : Cxt (gM Z) p s m meth c args yX9_go cX9_go 3 (Option.some .int)) {a1 : Int32} {k : Int32 → St → Prop}   : ∀ (n_ : Nat) (S : St) (x2 : Int32) (H : Heap) (locs : List Loc) (ls : Array Slot), va_P Z.1 vwCl (wl shM 10 Z S) H → va_S (aa 10 Z) s.heap H locs → lv_has ls 3 [(0, .ref (Z.2.2.1 0)), (1, .int a1), (2, .int x2)] → q_X9_go_15 a1 k n_ S x2 → W p l e (rmk 4 97) s m args below meth c H locs 0 0 (Qi below shM 10 Z args s k) (F0 m 15 ls []) := by
  have g := gokM hi
  have hx := C.1.1
  have hb := C.1.2.1
  intro n_
  induction n_ with
  | zero => intro S x2 H locs ls hP hS hl h; exact h.elim
  | succ n_ ih =>
    intro S x2 H locs ls hP hS hl h
    rw [q_X9_go_15_s] at h
    refine lv_iload_n hx hb dX9_go_15 rfl (lv_at hl 2 rfl) ?_
    refine lv_iload_n hx hb dX9_go_16 rfl (lv_at hl 1 rfl) ?_
    refine lv_icmp_ge (tgt := 41) hx hb dX9_go_17 (by decide) (fun c_1 => ?_) (fun c_1 => ?_)
    · have h := h.1 c_1
      exact b_X9_go_41 hi C  _ _ _ _ hP hS (lv_sub hl [0] rfl) h
    · have h := h.2 c_1
      refine lv_aload_n hx hb dX9_go_20 rfl (lv_at hl 0 rfl) ?_
      refine s_gR g C hP 0 19 6 (by decide) rfl rfl cfX9 (by decide) kFL_X9_29 dX9_go_21 ?_
      refine lv_iconst (v := (nI 0)) hx hb dX9_go_24 (by decide) ?_
      refine s_aI g C hP 6 (by decide) rfl (vinL (by decide +kernel)) dX9_go_25 ?_
      refine lv_bipush (v := (nI 12)) hx hb dX9_go_26 (by decide) ?_
      refine lv_icmp_ge (tgt := 41) hx hb dX9_go_28 (by decide) (fun c_2 => ?_) (fun c_2 => ?_)
      · have h := h.1 c_2
        exact b_X9_go_41 hi C  _ _ _ _ hP hS (lv_sub hl [0] rfl) h
      · have h := h.2 c_2
        refine lv_aload_n hx hb dX9_go_31 rfl (lv_at hl 0 rfl) ?_
        refine go_v (run_V g C hP hS (c0 := 0) (As := []) (rest := []) (c_X9_goHour hi S _ h) cal_X9_goHour kML_X9_202 (by decide) rfl cfX9 ⟨rfl, rfl, Nat.le_of_ble_eq_true rfl, Nat.le_of_ble_eq_true rfl⟩ rfl rfl hl.1 (Nat.le_of_ble_eq_true rfl) dX9_go_32) hS (fun S_3 H locs h hP hS => ?_)
        obtain ⟨x2_4, ex2_4⟩ : ∃ y_ : Int32, y_ = x2 + (nI 1) := ⟨_, rfl⟩
        have h := h x2_4 ex2_4
        refine lv_iinc (v := x2_4) (lv' := [(2, .int x2_4), (0, .ref (Z.2.2.1 0)), (1, .int a1)]) hx hb dX9_go_35 hl (k := 2) rfl (by rw [ex2_4]; rfl) (by decide) rfl (fun ls hl => ?_)
        refine lv_goto (tgt := 15) hx hb dX9_go_38 (by decide) ?_
        exact ih _ _ _ _ _ hP hS (lv_sub hl [1, 2, 0] rfl) h
def q_X9_go (S : St) (a1 : Int32) (k : Int32 → St → Prop) : Prop := q_X9_in S a1 (nI 1) (nI 12) (fun r_1 => ((r_1 = (nI 0) → (k (-3 : Int32) S)) ∧ (¬ r_1 = (nI 0) → (∃ f_15, q_X9_go_15 a1 k f_15 S (nI 0)))))
set_option maxRecDepth 100000 in
set_option maxHeartbeats 4000000 in
theorem c_X9_go {l : Launch} {Z : ZT} (hi : injZ 10 Z) (S : St) (a1 : Int32) (k : Int32 → St → Prop) (h : q_X9_go S a1 k) : Mi l shM 10 Z (gM Z) yX9_go cX9_go 3 (Option.some .int) (rmk 4 97) [.ref (Z.2.2.1 0), .int a1] S k := by
  have g := gokM hi
  refine e_i (by decide) (Nat.le_of_ble_eq_true rfl) (lv := [(0, .ref (Z.2.2.1 0)), (1, .int a1)]) rfl (fun p e s m args below meth c C hP hS ls hl => ?_)
  have hx := C.1.1
  have hb := C.1.2.1
  unfold q_X9_go at h
  refine lv_iload_n hx hb dX9_go_0 rfl (lv_at hl 1 rfl) ?_
  refine lv_iconst (v := (nI 1)) hx hb dX9_go_1 (by decide) ?_
  refine lv_bipush (v := (nI 12)) hx hb dX9_go_2 (by decide) ?_
  refine go_ip (run_S g C hP hS (As := [.int a1, .int (nI 1), .int (nI 12)]) (rest := []) (c_X9_in hi S a1 (nI 1) (nI 12) _ h) cal_X9_in kML_X9_45 ⟨rfl, rfl, Nat.le_of_ble_eq_true rfl, Nat.le_of_ble_eq_true rfl⟩ rfl rfl hl.1 (Nat.le_of_ble_eq_true rfl) dX9_go_4) hS (fun r_1 H locs h hP hS => ?_)
  obtain ⟨hbr_1, h⟩ := h
  refine lv_if_ne (tgt := 13) hx hb dX9_go_7 (by decide) (fun c_2 => ?_) (fun c_2 => ?_)
  · have h := h.2 c_2
    refine lv_iconst (v := (nI 0)) hx hb dX9_go_13 (by decide) ?_
    refine lv_istore_n (lv' := [(2, .int (nI 0)), (0, .ref (Z.2.2.1 0)), (1, .int a1)]) hx hb dX9_go_14 rfl hl (by decide) rfl (fun ls hl => ?_)
    obtain ⟨f_15, h⟩ := h
    exact b_X9_go_15 hi C  f_15 _ _ _ _ _ hP hS (lv_sub hl [1, 2, 0] rfl) h
  · have h := h.1 c_2
    refine lv_bipush (v := (-3 : Int32)) hx hb dX9_go_10 (by decide) ?_
    exact s_ri C hP hS h dX9_go_12
def q_X9_kite (S : St) (a1 : Int32) (a2 : Int32) (k : Int32 → Prop) : Prop := q_X9_isKite S a1 (fun r_1 => ((r_1 = (nI 0) → (k (-2 : Int32))) ∧ (¬ r_1 = (nI 0) → (q_X9_in S a2 (nI 0) (nI 4) (fun r_3 => ((r_3 = (nI 0) → (k (-3 : Int32))) ∧ (¬ r_3 = (nI 0) → (vp_in (((nI 1) + ((nI 6) * a2)) + a1) 1197 ∧ (k (S.1 6 (((nI 1) + ((nI 6) * a2)) + a1).toNatClampNeg))))))))))
set_option maxRecDepth 100000 in
set_option maxHeartbeats 4000000 in
theorem c_X9_kite {l : Launch} {Z : ZT} (hi : injZ 10 Z) (S : St) (a1 : Int32) (a2 : Int32) (k : Int32 → Prop) (h : q_X9_kite S a1 a2 k) : Mi l shM 10 Z (gM Z) yX9_kite cX9_kite 3 (Option.some .int) (rmk 2 43) [.ref (Z.2.2.1 0), .int a1, .int a2] S (fun r S' => S' = S ∧ k r) := by
  have g := gokM hi
  refine e_i (by decide) (Nat.le_of_ble_eq_true rfl) (lv := [(0, .ref (Z.2.2.1 0)), (1, .int a1), (2, .int a2)]) rfl (fun p e s m args below meth c C hP hS ls hl => ?_)
  have hx := C.1.1
  have hb := C.1.2.1
  unfold q_X9_kite at h
  refine lv_aload_n hx hb dX9_kite_0 rfl (lv_at hl 0 rfl) ?_
  refine lv_iload_n hx hb dX9_kite_1 rfl (lv_at hl 1 rfl) ?_
  refine go_ip (run_V g C hP hS (c0 := 0) (As := [.int a1]) (rest := []) (c_X9_isKite hi S a1 _ h) cal_X9_isKite kML_X9_171 (by decide) rfl cfX9 ⟨rfl, rfl, Nat.le_of_ble_eq_true rfl, Nat.le_of_ble_eq_true rfl⟩ rfl rfl hl.1 (Nat.le_of_ble_eq_true rfl) dX9_kite_2) hS (fun r_1 H locs h hP hS => ?_)
  obtain ⟨hbr_1, h⟩ := h
  refine lv_if_ne (tgt := 11) hx hb dX9_kite_5 (by decide) (fun c_2 => ?_) (fun c_2 => ?_)
  · have h := h.2 c_2
    refine lv_iload_n hx hb dX9_kite_11 rfl (lv_at hl 2 rfl) ?_
    refine lv_iconst (v := (nI 0)) hx hb dX9_kite_12 (by decide) ?_
    refine lv_iconst (v := (nI 4)) hx hb dX9_kite_13 (by decide) ?_
    refine go_ip (run_S g C hP hS (As := [.int a2, .int (nI 0), .int (nI 4)]) (rest := []) (c_X9_in hi S a2 (nI 0) (nI 4) _ h) cal_X9_in kML_X9_45 ⟨rfl, rfl, Nat.le_of_ble_eq_true rfl, Nat.le_of_ble_eq_true rfl⟩ rfl rfl hl.1 (Nat.le_of_ble_eq_true rfl) dX9_kite_14) hS (fun r_3 H locs h hP hS => ?_)
    obtain ⟨hbr_3, h⟩ := h
    refine lv_if_eq (tgt := 36) hx hb dX9_kite_17 (by decide) (fun c_4 => ?_) (fun c_4 => ?_)
    · have h := h.1 c_4
      refine lv_bipush (v := (-3 : Int32)) hx hb dX9_kite_36 (by decide) ?_
      exact s_ri C hP hS ⟨rfl, h⟩ dX9_kite_38
    · have h := h.2 c_4
      refine lv_aload_n hx hb dX9_kite_20 rfl (lv_at hl 0 rfl) ?_
      refine s_gR g C hP 0 19 6 (by decide) rfl rfl cfX9 (by decide) kFL_X9_29 dX9_kite_21 ?_
      refine lv_iconst (v := (nI 1)) hx hb dX9_kite_24 (by decide) ?_
      refine lv_bipush (v := (nI 6)) hx hb dX9_kite_25 (by decide) ?_
      refine lv_iload_n hx hb dX9_kite_27 rfl (lv_at hl 2 rfl) ?_
      refine lv_imul hx hb dX9_kite_28 ?_
      refine lv_iadd hx hb dX9_kite_29 ?_
      refine lv_iload_n hx hb dX9_kite_30 rfl (lv_at hl 1 rfl) ?_
      refine lv_iadd hx hb dX9_kite_31 ?_
      have hv_5 := h.1
      have h := h.2
      refine s_aI g C hP 6 (by decide) rfl hv_5 dX9_kite_32 ?_
      refine lv_goto (tgt := 38) hx hb dX9_kite_33 (by decide) ?_
      exact s_ri C hP hS ⟨rfl, h⟩ dX9_kite_38
  · have h := h.1 c_2
    refine lv_bipush (v := (-2 : Int32)) hx hb dX9_kite_8 (by decide) ?_
    exact s_ri C hP hS ⟨rfl, h⟩ dX9_kite_10
def q_X9_where (S : St) (a1 : Int32) (a2 : Int32) (a3 : Int32) (k : Int32 → Prop) : Prop := q_X9_isKite S a1 (fun r_1 => ((r_1 = (nI 0) → (k (-2 : Int32))) ∧ (¬ r_1 = (nI 0) → (q_X9_isHeight S a2 (fun r_3 => ((r_3 = (nI 0) → (k (-2 : Int32))) ∧ (¬ r_3 = (nI 0) → (q_X9_isHour S a3 (fun r_5 => ((r_5 = (nI 0) → (k (-2 : Int32))) ∧ (¬ r_5 = (nI 0) → (q_X9_isInSea S a1 a2 a3 (fun r_7 => ((r_7 = (nI 0) → (k (-1 : Int32))) ∧ (¬ r_7 = (nI 0) → (q_X9_xOf S a1 a2 a3 (fun r_9 => (q_X9_yOf S a1 a2 (fun r_10 => (k (r_9 + ((nI 10) * r_10))))))))))))))))))))))
set_option maxRecDepth 100000 in
set_option maxHeartbeats 4000000 in
theorem c_X9_where {l : Launch} {Z : ZT} (hi : injZ 10 Z) (S : St) (a1 : Int32) (a2 : Int32) (a3 : Int32) (k : Int32 → Prop) (h : q_X9_where S a1 a2 a3 k) : Mi l shM 10 Z (gM Z) yX9_where cX9_where 4 (Option.some .int) (rmk 2 46) [.ref (Z.2.2.1 0), .int a1, .int a2, .int a3] S (fun r S' => S' = S ∧ k r) := by
  have g := gokM hi
  refine e_i (by decide) (Nat.le_of_ble_eq_true rfl) (lv := [(0, .ref (Z.2.2.1 0)), (1, .int a1), (2, .int a2), (3, .int a3)]) rfl (fun p e s m args below meth c C hP hS ls hl => ?_)
  have hx := C.1.1
  have hb := C.1.2.1
  unfold q_X9_where at h
  refine lv_aload_n hx hb dX9_where_0 rfl (lv_at hl 0 rfl) ?_
  refine lv_iload_n hx hb dX9_where_1 rfl (lv_at hl 1 rfl) ?_
  refine go_ip (run_V g C hP hS (c0 := 0) (As := [.int a1]) (rest := []) (c_X9_isKite hi S a1 _ h) cal_X9_isKite kML_X9_171 (by decide) rfl cfX9 ⟨rfl, rfl, Nat.le_of_ble_eq_true rfl, Nat.le_of_ble_eq_true rfl⟩ rfl rfl hl.1 (Nat.le_of_ble_eq_true rfl) dX9_where_2) hS (fun r_1 H locs h hP hS => ?_)
  obtain ⟨hbr_1, h⟩ := h
  refine lv_if_eq (tgt := 22) hx hb dX9_where_5 (by decide) (fun c_2 => ?_) (fun c_2 => ?_)
  · have h := h.1 c_2
    refine lv_bipush (v := (-2 : Int32)) hx hb dX9_where_22 (by decide) ?_
    exact s_ri C hP hS ⟨rfl, h⟩ dX9_where_24
  · have h := h.2 c_2
    refine lv_iload_n hx hb dX9_where_8 rfl (lv_at hl 2 rfl) ?_
    refine go_ip (run_S g C hP hS (As := [.int a2]) (rest := []) (c_X9_isHeight hi S a2 _ h) cal_X9_isHeight kML_X9_165 ⟨rfl, rfl, Nat.le_of_ble_eq_true rfl, Nat.le_of_ble_eq_true rfl⟩ rfl rfl hl.1 (Nat.le_of_ble_eq_true rfl) dX9_where_9) hS (fun r_3 H locs h hP hS => ?_)
    obtain ⟨hbr_3, h⟩ := h
    refine lv_if_eq (tgt := 22) hx hb dX9_where_12 (by decide) (fun c_4 => ?_) (fun c_4 => ?_)
    · have h := h.1 c_4
      refine lv_bipush (v := (-2 : Int32)) hx hb dX9_where_22 (by decide) ?_
      exact s_ri C hP hS ⟨rfl, h⟩ dX9_where_24
    · have h := h.2 c_4
      refine lv_iload_n hx hb dX9_where_15 rfl (lv_at hl 3 rfl) ?_
      refine go_ip (run_S g C hP hS (As := [.int a3]) (rest := []) (c_X9_isHour hi S a3 _ h) cal_X9_isHour kML_X9_168 ⟨rfl, rfl, Nat.le_of_ble_eq_true rfl, Nat.le_of_ble_eq_true rfl⟩ rfl rfl hl.1 (Nat.le_of_ble_eq_true rfl) dX9_where_16) hS (fun r_5 H locs h hP hS => ?_)
      obtain ⟨hbr_5, h⟩ := h
      refine lv_if_ne (tgt := 25) hx hb dX9_where_19 (by decide) (fun c_6 => ?_) (fun c_6 => ?_)
      · have h := h.2 c_6
        refine lv_aload_n hx hb dX9_where_25 rfl (lv_at hl 0 rfl) ?_
        refine lv_iload_n hx hb dX9_where_26 rfl (lv_at hl 1 rfl) ?_
        refine lv_iload_n hx hb dX9_where_27 rfl (lv_at hl 2 rfl) ?_
        refine lv_iload_n hx hb dX9_where_28 rfl (lv_at hl 3 rfl) ?_
        refine go_ip (run_V g C hP hS (c0 := 0) (As := [.int a1, .int a2, .int a3]) (rest := []) (c_X9_isInSea hi S a1 a2 a3 _ h) cal_X9_isInSea kML_X9_185 (by decide) rfl cfX9 ⟨rfl, rfl, Nat.le_of_ble_eq_true rfl, Nat.le_of_ble_eq_true rfl⟩ rfl rfl hl.1 (Nat.le_of_ble_eq_true rfl) dX9_where_29) hS (fun r_7 H locs h hP hS => ?_)
        obtain ⟨hbr_7, h⟩ := h
        refine lv_if_eq (tgt := 55) hx hb dX9_where_32 (by decide) (fun c_8 => ?_) (fun c_8 => ?_)
        · have h := h.1 c_8
          refine lv_iconst (v := (-1 : Int32)) hx hb dX9_where_55 (by decide) ?_
          exact s_ri C hP hS ⟨rfl, h⟩ dX9_where_56
        · have h := h.2 c_8
          refine lv_aload_n hx hb dX9_where_35 rfl (lv_at hl 0 rfl) ?_
          refine lv_iload_n hx hb dX9_where_36 rfl (lv_at hl 1 rfl) ?_
          refine lv_iload_n hx hb dX9_where_37 rfl (lv_at hl 2 rfl) ?_
          refine lv_iload_n hx hb dX9_where_38 rfl (lv_at hl 3 rfl) ?_
          refine go_ip (run_V g C hP hS (c0 := 0) (As := [.int a1, .int a2, .int a3]) (rest := []) (c_X9_xOf hi S a1 a2 a3 _ h) cal_X9_xOf kML_X9_174 (by decide) rfl cfX9 ⟨rfl, rfl, Nat.le_of_ble_eq_true rfl, Nat.le_of_ble_eq_true rfl⟩ rfl rfl hl.1 (Nat.le_of_ble_eq_true rfl) dX9_where_39) hS (fun r_9 H locs h hP hS => ?_)
          refine lv_bipush (v := (nI 10)) hx hb dX9_where_42 (by decide) ?_
          refine lv_aload_n hx hb dX9_where_44 rfl (lv_at hl 0 rfl) ?_
          refine lv_iload_n hx hb dX9_where_45 rfl (lv_at hl 1 rfl) ?_
          refine lv_iload_n hx hb dX9_where_46 rfl (lv_at hl 2 rfl) ?_
          refine go_ip (run_V g C hP hS (c0 := 0) (As := [.int a1, .int a2]) (rest := [.int (nI 10), .int r_9]) (c_X9_yOf hi S a1 a2 _ h) cal_X9_yOf kML_X9_178 (by decide) rfl cfX9 ⟨rfl, rfl, Nat.le_of_ble_eq_true rfl, Nat.le_of_ble_eq_true rfl⟩ rfl rfl hl.1 (Nat.le_of_ble_eq_true rfl) dX9_where_47) hS (fun r_10 H locs h hP hS => ?_)
          refine lv_imul hx hb dX9_where_50 ?_
          refine lv_iadd hx hb dX9_where_51 ?_
          refine lv_goto (tgt := 56) hx hb dX9_where_52 (by decide) ?_
          exact s_ri C hP hS ⟨rfl, h⟩ dX9_where_56
      · have h := h.1 c_6
        refine lv_bipush (v := (-2 : Int32)) hx hb dX9_where_22 (by decide) ?_
        exact s_ri C hP hS ⟨rfl, h⟩ dX9_where_24
def q_X9_hinders (S : St) (a1 : Int32) (a2 : Int32) (a3 : Int32) (k : Int32 → Prop) : Prop := q_X9_isKite S a1 (fun r_1 => ((r_1 = (nI 0) → (k (-2 : Int32))) ∧ (¬ r_1 = (nI 0) → (q_X9_isHeight S a2 (fun r_3 => ((r_3 = (nI 0) → (k (-2 : Int32))) ∧ (¬ r_3 = (nI 0) → (q_X9_isHour S a3 (fun r_5 => ((r_5 = (nI 0) → (k (-2 : Int32))) ∧ (¬ r_5 = (nI 0) → (q_X9_isInSea S a1 a2 a3 (fun r_7 => ((r_7 = (nI 0) → (k (nI 2))) ∧ (¬ r_7 = (nI 0) → (q_X9_hasLift S a1 a2 a3 (fun r_9 => ((r_9 = (nI 0) → (k (nI 1))) ∧ (¬ r_9 = (nI 0) → (k (nI 0)))))))))))))))))))))
set_option maxRecDepth 100000 in
set_option maxHeartbeats 4000000 in
theorem c_X9_hinders {l : Launch} {Z : ZT} (hi : injZ 10 Z) (S : St) (a1 : Int32) (a2 : Int32) (a3 : Int32) (k : Int32 → Prop) (h : q_X9_hinders S a1 a2 a3 k) : Mi l shM 10 Z (gM Z) yX9_hinders cX9_hinders 4 (Option.some .int) (rmk 2 46) [.ref (Z.2.2.1 0), .int a1, .int a2, .int a3] S (fun r S' => S' = S ∧ k r) := by
  have g := gokM hi
  refine e_i (by decide) (Nat.le_of_ble_eq_true rfl) (lv := [(0, .ref (Z.2.2.1 0)), (1, .int a1), (2, .int a2), (3, .int a3)]) rfl (fun p e s m args below meth c C hP hS ls hl => ?_)
  have hx := C.1.1
  have hb := C.1.2.1
  unfold q_X9_hinders at h
  refine lv_aload_n hx hb dX9_hinders_0 rfl (lv_at hl 0 rfl) ?_
  refine lv_iload_n hx hb dX9_hinders_1 rfl (lv_at hl 1 rfl) ?_
  refine go_ip (run_V g C hP hS (c0 := 0) (As := [.int a1]) (rest := []) (c_X9_isKite hi S a1 _ h) cal_X9_isKite kML_X9_171 (by decide) rfl cfX9 ⟨rfl, rfl, Nat.le_of_ble_eq_true rfl, Nat.le_of_ble_eq_true rfl⟩ rfl rfl hl.1 (Nat.le_of_ble_eq_true rfl) dX9_hinders_2) hS (fun r_1 H locs h hP hS => ?_)
  obtain ⟨hbr_1, h⟩ := h
  refine lv_if_eq (tgt := 22) hx hb dX9_hinders_5 (by decide) (fun c_2 => ?_) (fun c_2 => ?_)
  · have h := h.1 c_2
    refine lv_bipush (v := (-2 : Int32)) hx hb dX9_hinders_22 (by decide) ?_
    exact s_ri C hP hS ⟨rfl, h⟩ dX9_hinders_24
  · have h := h.2 c_2
    refine lv_iload_n hx hb dX9_hinders_8 rfl (lv_at hl 2 rfl) ?_
    refine go_ip (run_S g C hP hS (As := [.int a2]) (rest := []) (c_X9_isHeight hi S a2 _ h) cal_X9_isHeight kML_X9_165 ⟨rfl, rfl, Nat.le_of_ble_eq_true rfl, Nat.le_of_ble_eq_true rfl⟩ rfl rfl hl.1 (Nat.le_of_ble_eq_true rfl) dX9_hinders_9) hS (fun r_3 H locs h hP hS => ?_)
    obtain ⟨hbr_3, h⟩ := h
    refine lv_if_eq (tgt := 22) hx hb dX9_hinders_12 (by decide) (fun c_4 => ?_) (fun c_4 => ?_)
    · have h := h.1 c_4
      refine lv_bipush (v := (-2 : Int32)) hx hb dX9_hinders_22 (by decide) ?_
      exact s_ri C hP hS ⟨rfl, h⟩ dX9_hinders_24
    · have h := h.2 c_4
      refine lv_iload_n hx hb dX9_hinders_15 rfl (lv_at hl 3 rfl) ?_
      refine go_ip (run_S g C hP hS (As := [.int a3]) (rest := []) (c_X9_isHour hi S a3 _ h) cal_X9_isHour kML_X9_168 ⟨rfl, rfl, Nat.le_of_ble_eq_true rfl, Nat.le_of_ble_eq_true rfl⟩ rfl rfl hl.1 (Nat.le_of_ble_eq_true rfl) dX9_hinders_16) hS (fun r_5 H locs h hP hS => ?_)
      obtain ⟨hbr_5, h⟩ := h
      refine lv_if_ne (tgt := 25) hx hb dX9_hinders_19 (by decide) (fun c_6 => ?_) (fun c_6 => ?_)
      · have h := h.2 c_6
        refine lv_aload_n hx hb dX9_hinders_25 rfl (lv_at hl 0 rfl) ?_
        refine lv_iload_n hx hb dX9_hinders_26 rfl (lv_at hl 1 rfl) ?_
        refine lv_iload_n hx hb dX9_hinders_27 rfl (lv_at hl 2 rfl) ?_
        refine lv_iload_n hx hb dX9_hinders_28 rfl (lv_at hl 3 rfl) ?_
        refine go_ip (run_V g C hP hS (c0 := 0) (As := [.int a1, .int a2, .int a3]) (rest := []) (c_X9_isInSea hi S a1 a2 a3 _ h) cal_X9_isInSea kML_X9_185 (by decide) rfl cfX9 ⟨rfl, rfl, Nat.le_of_ble_eq_true rfl, Nat.le_of_ble_eq_true rfl⟩ rfl rfl hl.1 (Nat.le_of_ble_eq_true rfl) dX9_hinders_29) hS (fun r_7 H locs h hP hS => ?_)
        obtain ⟨hbr_7, h⟩ := h
        refine lv_if_ne (tgt := 39) hx hb dX9_hinders_32 (by decide) (fun c_8 => ?_) (fun c_8 => ?_)
        · have h := h.2 c_8
          refine lv_aload_n hx hb dX9_hinders_39 rfl (lv_at hl 0 rfl) ?_
          refine lv_iload_n hx hb dX9_hinders_40 rfl (lv_at hl 1 rfl) ?_
          refine lv_iload_n hx hb dX9_hinders_41 rfl (lv_at hl 2 rfl) ?_
          refine lv_iload_n hx hb dX9_hinders_42 rfl (lv_at hl 3 rfl) ?_
          refine go_ip (run_V g C hP hS (c0 := 0) (As := [.int a1, .int a2, .int a3]) (rest := []) (c_X9_hasLift hi S a1 a2 a3 _ h) cal_X9_hasLift kML_X9_182 (by decide) rfl cfX9 ⟨rfl, rfl, Nat.le_of_ble_eq_true rfl, Nat.le_of_ble_eq_true rfl⟩ rfl rfl hl.1 (Nat.le_of_ble_eq_true rfl) dX9_hinders_43) hS (fun r_9 H locs h hP hS => ?_)
          obtain ⟨hbr_9, h⟩ := h
          refine lv_if_eq (tgt := 53) hx hb dX9_hinders_46 (by decide) (fun c_10 => ?_) (fun c_10 => ?_)
          · have h := h.1 c_10
            refine lv_iconst (v := (nI 1)) hx hb dX9_hinders_53 (by decide) ?_
            exact s_ri C hP hS ⟨rfl, h⟩ dX9_hinders_54
          · have h := h.2 c_10
            refine lv_iconst (v := (nI 0)) hx hb dX9_hinders_49 (by decide) ?_
            refine lv_goto (tgt := 54) hx hb dX9_hinders_50 (by decide) ?_
            exact s_ri C hP hS ⟨rfl, h⟩ dX9_hinders_54
        · have h := h.1 c_8
          refine lv_iconst (v := (nI 2)) hx hb dX9_hinders_35 (by decide) ?_
          refine lv_goto (tgt := 54) hx hb dX9_hinders_36 (by decide) ?_
          exact s_ri C hP hS ⟨rfl, h⟩ dX9_hinders_54
      · have h := h.1 c_6
        refine lv_bipush (v := (-2 : Int32)) hx hb dX9_hinders_22 (by decide) ?_
        exact s_ri C hP hS ⟨rfl, h⟩ dX9_hinders_24
def q_X9_tangle (S : St) (a1 : Int32) (a2 : Int32) (a3 : Int32) (a4 : Int32) (k : Int32 → Prop) : Prop := q_X9_isKite S a1 (fun r_1 => ((r_1 = (nI 0) → (k (-2 : Int32))) ∧ (¬ r_1 = (nI 0) → (q_X9_isKite S a2 (fun r_3 => ((r_3 = (nI 0) → (k (-2 : Int32))) ∧ (¬ r_3 = (nI 0) → (q_X9_isHeight S a3 (fun r_5 => ((r_5 = (nI 0) → (k (-2 : Int32))) ∧ (¬ r_5 = (nI 0) → (q_X9_isHour S a4 (fun r_7 => ((r_7 = (nI 0) → (k (-2 : Int32))) ∧ (¬ r_7 = (nI 0) → ((a1 = a2 → (k (-3 : Int32))) ∧ (¬ a1 = a2 → (q_X9_doTangle S a1 a2 a3 a4 (fun r_10 => ((r_10 = (nI 0) → (k (-1 : Int32))) ∧ (¬ r_10 = (nI 0) → ((a2 ≤ a1 → (q_X9_givesWay S a2 a1 (fun r_13 => (k r_13)))) ∧ (¬ a2 ≤ a1 → (q_X9_givesWay S a1 a2 (fun r_14 => (k r_14))))))))))))))))))))))))))
set_option maxRecDepth 100000 in
set_option maxHeartbeats 4000000 in
theorem c_X9_tangle {l : Launch} {Z : ZT} (hi : injZ 10 Z) (S : St) (a1 : Int32) (a2 : Int32) (a3 : Int32) (a4 : Int32) (k : Int32 → Prop) (h : q_X9_tangle S a1 a2 a3 a4 k) : Mi l shM 10 Z (gM Z) yX9_tangle cX9_tangle 5 (Option.some .int) (rmk 2 49) [.ref (Z.2.2.1 0), .int a1, .int a2, .int a3, .int a4] S (fun r S' => S' = S ∧ k r) := by
  have g := gokM hi
  refine e_i (by decide) (Nat.le_of_ble_eq_true rfl) (lv := [(0, .ref (Z.2.2.1 0)), (1, .int a1), (2, .int a2), (3, .int a3), (4, .int a4)]) rfl (fun p e s m args below meth c C hP hS ls hl => ?_)
  have hx := C.1.1
  have hb := C.1.2.1
  unfold q_X9_tangle at h
  refine lv_aload_n hx hb dX9_tangle_0 rfl (lv_at hl 0 rfl) ?_
  refine lv_iload_n hx hb dX9_tangle_1 rfl (lv_at hl 1 rfl) ?_
  refine go_ip (run_V g C hP hS (c0 := 0) (As := [.int a1]) (rest := []) (c_X9_isKite hi S a1 _ h) cal_X9_isKite kML_X9_171 (by decide) rfl cfX9 ⟨rfl, rfl, Nat.le_of_ble_eq_true rfl, Nat.le_of_ble_eq_true rfl⟩ rfl rfl hl.1 (Nat.le_of_ble_eq_true rfl) dX9_tangle_2) hS (fun r_1 H locs h hP hS => ?_)
  obtain ⟨hbr_1, h⟩ := h
  refine lv_if_eq (tgt := 31) hx hb dX9_tangle_5 (by decide) (fun c_2 => ?_) (fun c_2 => ?_)
  · have h := h.1 c_2
    refine lv_bipush (v := (-2 : Int32)) hx hb dX9_tangle_31 (by decide) ?_
    exact s_ri C hP hS ⟨rfl, h⟩ dX9_tangle_33
  · have h := h.2 c_2
    refine lv_aload_n hx hb dX9_tangle_8 rfl (lv_at hl 0 rfl) ?_
    refine lv_iload_n hx hb dX9_tangle_9 rfl (lv_at hl 2 rfl) ?_
    refine go_ip (run_V g C hP hS (c0 := 0) (As := [.int a2]) (rest := []) (c_X9_isKite hi S a2 _ h) cal_X9_isKite kML_X9_171 (by decide) rfl cfX9 ⟨rfl, rfl, Nat.le_of_ble_eq_true rfl, Nat.le_of_ble_eq_true rfl⟩ rfl rfl hl.1 (Nat.le_of_ble_eq_true rfl) dX9_tangle_10) hS (fun r_3 H locs h hP hS => ?_)
    obtain ⟨hbr_3, h⟩ := h
    refine lv_if_eq (tgt := 31) hx hb dX9_tangle_13 (by decide) (fun c_4 => ?_) (fun c_4 => ?_)
    · have h := h.1 c_4
      refine lv_bipush (v := (-2 : Int32)) hx hb dX9_tangle_31 (by decide) ?_
      exact s_ri C hP hS ⟨rfl, h⟩ dX9_tangle_33
    · have h := h.2 c_4
      refine lv_iload_n hx hb dX9_tangle_16 rfl (lv_at hl 3 rfl) ?_
      refine go_ip (run_S g C hP hS (As := [.int a3]) (rest := []) (c_X9_isHeight hi S a3 _ h) cal_X9_isHeight kML_X9_165 ⟨rfl, rfl, Nat.le_of_ble_eq_true rfl, Nat.le_of_ble_eq_true rfl⟩ rfl rfl hl.1 (Nat.le_of_ble_eq_true rfl) dX9_tangle_17) hS (fun r_5 H locs h hP hS => ?_)
      obtain ⟨hbr_5, h⟩ := h
      refine lv_if_eq (tgt := 31) hx hb dX9_tangle_20 (by decide) (fun c_6 => ?_) (fun c_6 => ?_)
      · have h := h.1 c_6
        refine lv_bipush (v := (-2 : Int32)) hx hb dX9_tangle_31 (by decide) ?_
        exact s_ri C hP hS ⟨rfl, h⟩ dX9_tangle_33
      · have h := h.2 c_6
        refine lv_iload hx hb dX9_tangle_23 (lv_at hl 4 rfl) ?_
        refine go_ip (run_S g C hP hS (As := [.int a4]) (rest := []) (c_X9_isHour hi S a4 _ h) cal_X9_isHour kML_X9_168 ⟨rfl, rfl, Nat.le_of_ble_eq_true rfl, Nat.le_of_ble_eq_true rfl⟩ rfl rfl hl.1 (Nat.le_of_ble_eq_true rfl) dX9_tangle_25) hS (fun r_7 H locs h hP hS => ?_)
        obtain ⟨hbr_7, h⟩ := h
        refine lv_if_ne (tgt := 34) hx hb dX9_tangle_28 (by decide) (fun c_8 => ?_) (fun c_8 => ?_)
        · have h := h.2 c_8
          refine lv_iload_n hx hb dX9_tangle_34 rfl (lv_at hl 1 rfl) ?_
          refine lv_iload_n hx hb dX9_tangle_35 rfl (lv_at hl 2 rfl) ?_
          refine lv_icmp_ne (tgt := 42) hx hb dX9_tangle_36 (by decide) (fun c_9 => ?_) (fun c_9 => ?_)
          · have h := h.2 c_9
            refine lv_aload_n hx hb dX9_tangle_42 rfl (lv_at hl 0 rfl) ?_
            refine lv_iload_n hx hb dX9_tangle_43 rfl (lv_at hl 1 rfl) ?_
            refine lv_iload_n hx hb dX9_tangle_44 rfl (lv_at hl 2 rfl) ?_
            refine lv_iload_n hx hb dX9_tangle_45 rfl (lv_at hl 3 rfl) ?_
            refine lv_iload hx hb dX9_tangle_46 (lv_at hl 4 rfl) ?_
            refine go_ip (run_V g C hP hS (c0 := 0) (As := [.int a1, .int a2, .int a3, .int a4]) (rest := []) (c_X9_doTangle hi S a1 a2 a3 a4 _ h) cal_X9_doTangle kML_X9_188 (by decide) rfl cfX9 ⟨rfl, rfl, Nat.le_of_ble_eq_true rfl, Nat.le_of_ble_eq_true rfl⟩ rfl rfl hl.1 (Nat.le_of_ble_eq_true rfl) dX9_tangle_48) hS (fun r_10 H locs h hP hS => ?_)
            obtain ⟨hbr_10, h⟩ := h
            refine lv_if_eq (tgt := 77) hx hb dX9_tangle_51 (by decide) (fun c_11 => ?_) (fun c_11 => ?_)
            · have h := h.1 c_11
              refine lv_iconst (v := (-1 : Int32)) hx hb dX9_tangle_77 (by decide) ?_
              exact s_ri C hP hS ⟨rfl, h⟩ dX9_tangle_78
            · have h := h.2 c_11
              refine lv_iload_n hx hb dX9_tangle_54 rfl (lv_at hl 1 rfl) ?_
              refine lv_iload_n hx hb dX9_tangle_55 rfl (lv_at hl 2 rfl) ?_
              refine lv_icmp_ge (tgt := 68) hx hb dX9_tangle_56 (by decide) (fun c_12 => ?_) (fun c_12 => ?_)
              · have h := h.1 c_12
                refine lv_aload_n hx hb dX9_tangle_68 rfl (lv_at hl 0 rfl) ?_
                refine lv_iload_n hx hb dX9_tangle_69 rfl (lv_at hl 2 rfl) ?_
                refine lv_iload_n hx hb dX9_tangle_70 rfl (lv_at hl 1 rfl) ?_
                refine go_ip (run_V g C hP hS (c0 := 0) (As := [.int a2, .int a1]) (rest := []) (c_X9_givesWay hi S a2 a1 _ h) cal_X9_givesWay kML_X9_192 (by decide) rfl cfX9 ⟨rfl, rfl, Nat.le_of_ble_eq_true rfl, Nat.le_of_ble_eq_true rfl⟩ rfl rfl hl.1 (Nat.le_of_ble_eq_true rfl) dX9_tangle_71) hS (fun r_13 H locs h hP hS => ?_)
                refine lv_goto (tgt := 78) hx hb dX9_tangle_74 (by decide) ?_
                exact s_ri C hP hS ⟨rfl, h⟩ dX9_tangle_78
              · have h := h.2 c_12
                refine lv_aload_n hx hb dX9_tangle_59 rfl (lv_at hl 0 rfl) ?_
                refine lv_iload_n hx hb dX9_tangle_60 rfl (lv_at hl 1 rfl) ?_
                refine lv_iload_n hx hb dX9_tangle_61 rfl (lv_at hl 2 rfl) ?_
                refine go_ip (run_V g C hP hS (c0 := 0) (As := [.int a1, .int a2]) (rest := []) (c_X9_givesWay hi S a1 a2 _ h) cal_X9_givesWay kML_X9_192 (by decide) rfl cfX9 ⟨rfl, rfl, Nat.le_of_ble_eq_true rfl, Nat.le_of_ble_eq_true rfl⟩ rfl rfl hl.1 (Nat.le_of_ble_eq_true rfl) dX9_tangle_62) hS (fun r_14 H locs h hP hS => ?_)
                refine lv_goto (tgt := 78) hx hb dX9_tangle_65 (by decide) ?_
                exact s_ri C hP hS ⟨rfl, h⟩ dX9_tangle_78
          · have h := h.1 c_9
            refine lv_bipush (v := (-3 : Int32)) hx hb dX9_tangle_39 (by decide) ?_
            exact s_ri C hP hS ⟨rfl, h⟩ dX9_tangle_41
        · have h := h.1 c_8
          refine lv_bipush (v := (-2 : Int32)) hx hb dX9_tangle_31 (by decide) ?_
          exact s_ri C hP hS ⟨rfl, h⟩ dX9_tangle_33
def q_X9_taking (S : St) (a1 : Int32) (a2 : Int32) (k : Int32 → Prop) : Prop := (a1 < (nI 0) → (k (-3 : Int32))) ∧ (¬ a1 < (nI 0) → (q_X9_in S a2 (nI 0) (nI 3) (fun r_2 => ((r_2 = (nI 0) → (k (-3 : Int32))) ∧ (¬ r_2 = (nI 0) → (((S.1 6 (nI 44).toNatClampNeg) ≤ a1 → (k (-1 : Int32))) ∧ (¬ (S.1 6 (nI 44).toNatClampNeg) ≤ a1 → (vp_in (((nI 45) + ((nI 4) * a1)) + a2) 1197 ∧ (k (S.1 6 (((nI 45) + ((nI 4) * a1)) + a2).toNatClampNeg))))))))))
set_option maxRecDepth 100000 in
set_option maxHeartbeats 4000000 in
theorem c_X9_taking {l : Launch} {Z : ZT} (hi : injZ 10 Z) (S : St) (a1 : Int32) (a2 : Int32) (k : Int32 → Prop) (h : q_X9_taking S a1 a2 k) : Mi l shM 10 Z (gM Z) yX9_taking cX9_taking 3 (Option.some .int) (rmk 1 22) [.ref (Z.2.2.1 0), .int a1, .int a2] S (fun r S' => S' = S ∧ k r) := by
  have g := gokM hi
  refine e_i (by decide) (Nat.le_of_ble_eq_true rfl) (lv := [(0, .ref (Z.2.2.1 0)), (1, .int a1), (2, .int a2)]) rfl (fun p e s m args below meth c C hP hS ls hl => ?_)
  have hx := C.1.1
  have hb := C.1.2.1
  unfold q_X9_taking at h
  refine lv_iload_n hx hb dX9_taking_0 rfl (lv_at hl 1 rfl) ?_
  refine lv_if_lt (tgt := 13) hx hb dX9_taking_1 (by decide) (fun c_1 => ?_) (fun c_1 => ?_)
  · have h := h.1 c_1
    refine lv_bipush (v := (-3 : Int32)) hx hb dX9_taking_13 (by decide) ?_
    exact s_ri C hP hS ⟨rfl, h⟩ dX9_taking_15
  · have h := h.2 c_1
    refine lv_iload_n hx hb dX9_taking_4 rfl (lv_at hl 2 rfl) ?_
    refine lv_iconst (v := (nI 0)) hx hb dX9_taking_5 (by decide) ?_
    refine lv_iconst (v := (nI 3)) hx hb dX9_taking_6 (by decide) ?_
    refine go_ip (run_S g C hP hS (As := [.int a2, .int (nI 0), .int (nI 3)]) (rest := []) (c_X9_in hi S a2 (nI 0) (nI 3) _ h) cal_X9_in kML_X9_45 ⟨rfl, rfl, Nat.le_of_ble_eq_true rfl, Nat.le_of_ble_eq_true rfl⟩ rfl rfl hl.1 (Nat.le_of_ble_eq_true rfl) dX9_taking_7) hS (fun r_2 H locs h hP hS => ?_)
    obtain ⟨hbr_2, h⟩ := h
    refine lv_if_ne (tgt := 16) hx hb dX9_taking_10 (by decide) (fun c_3 => ?_) (fun c_3 => ?_)
    · have h := h.2 c_3
      refine lv_iload_n hx hb dX9_taking_16 rfl (lv_at hl 1 rfl) ?_
      refine lv_aload_n hx hb dX9_taking_17 rfl (lv_at hl 0 rfl) ?_
      refine s_gR g C hP 0 19 6 (by decide) rfl rfl cfX9 (by decide) kFL_X9_29 dX9_taking_18 ?_
      refine lv_bipush (v := (nI 44)) hx hb dX9_taking_21 (by decide) ?_
      refine s_aI g C hP 6 (by decide) rfl (vinL (by decide +kernel)) dX9_taking_23 ?_
      refine lv_icmp_ge (tgt := 43) hx hb dX9_taking_24 (by decide) (fun c_4 => ?_) (fun c_4 => ?_)
      · have h := h.1 c_4
        refine lv_iconst (v := (-1 : Int32)) hx hb dX9_taking_43 (by decide) ?_
        exact s_ri C hP hS ⟨rfl, h⟩ dX9_taking_44
      · have h := h.2 c_4
        refine lv_aload_n hx hb dX9_taking_27 rfl (lv_at hl 0 rfl) ?_
        refine s_gR g C hP 0 19 6 (by decide) rfl rfl cfX9 (by decide) kFL_X9_29 dX9_taking_28 ?_
        refine lv_bipush (v := (nI 45)) hx hb dX9_taking_31 (by decide) ?_
        refine lv_iconst (v := (nI 4)) hx hb dX9_taking_33 (by decide) ?_
        refine lv_iload_n hx hb dX9_taking_34 rfl (lv_at hl 1 rfl) ?_
        refine lv_imul hx hb dX9_taking_35 ?_
        refine lv_iadd hx hb dX9_taking_36 ?_
        refine lv_iload_n hx hb dX9_taking_37 rfl (lv_at hl 2 rfl) ?_
        refine lv_iadd hx hb dX9_taking_38 ?_
        have hv_5 := h.1
        have h := h.2
        refine s_aI g C hP 6 (by decide) rfl hv_5 dX9_taking_39 ?_
        refine lv_goto (tgt := 44) hx hb dX9_taking_40 (by decide) ?_
        exact s_ri C hP hS ⟨rfl, h⟩ dX9_taking_44
    · have h := h.1 c_3
      refine lv_bipush (v := (-3 : Int32)) hx hb dX9_taking_13 (by decide) ?_
      exact s_ri C hP hS ⟨rfl, h⟩ dX9_taking_15
def q_X9_copy_3 (cf : Nat) (nf : Nat) (ct : Nat) (nt : Nat) (a2 : Int32) (a4 : Int32) (k : St → Prop) : Nat → St → Int32 → Prop := fun n_ => Nat.rec (motive := fun _ => St → Int32 → Prop) (fun _ _ => False) (fun _ ih => fun S x4 => ((nI 1197) ≤ x4 → (k S)) ∧ (¬ (nI 1197) ≤ x4 → (vp_in (a2 + x4) nf ∧ (vp_in (a4 + x4) nt ∧ (∀ S_4 : St, S_4 = sI S ct (a4 + x4).toNatClampNeg (S.1 cf (a2 + x4).toNatClampNeg) → (∀ x4_5 : Int32, x4_5 = x4 + (nI 1) → (ih S_4 x4_5))))))) n_
theorem q_X9_copy_3_s (cf : Nat) (nf : Nat) (ct : Nat) (nt : Nat) (a2 : Int32) (a4 : Int32) (k : St → Prop) (n_ : Nat) (S : St) (x4 : Int32) : q_X9_copy_3 cf nf ct nt a2 a4 k (n_ + 1) S x4 = (((nI 1197) ≤ x4 → (k S)) ∧ (¬ (nI 1197) ≤ x4 → (vp_in (a2 + x4) nf ∧ (vp_in (a4 + x4) nt ∧ (∀ S_4 : St, S_4 = sI S ct (a4 + x4).toNatClampNeg (S.1 cf (a2 + x4).toNatClampNeg) → (∀ x4_5 : Int32, x4_5 = x4 + (nI 1) → ((q_X9_copy_3 cf nf ct nt a2 a4 k n_) S_4 x4_5))))))) := rfl
set_option maxRecDepth 100000 in
set_option maxHeartbeats 4000000 in
theorem b_X9_copy_3 {p : Program} {l : Launch} {e : Env} {s : State} {m : MethodId} {args : Array Value} {below : List Frame} {meth : Method} {c : Code} {Z : ZT} (hi : injZ 10 Z) (C : Cxt (gM Z) p s m meth c args yX9_copy cX9_copy 5 none) {cf : Nat} {nf : Nat} {ct : Nat} {nt : Nat} {a2 : Int32} {a4 : Int32} {k : St → Prop} (hcf : cf < 10 ∧ shM cf = .inr (0, nf, 0)) (hct : ct < 10 ∧ shM ct = .inr (0, nt, 0))  : ∀ (n_ : Nat) (S : St) (x4 : Int32) (H : Heap) (locs : List Loc) (ls : Array Slot), va_P Z.1 vwCl (wl shM 10 Z S) H → va_S (aa 10 Z) s.heap H locs → lv_has ls 5 [(0, .ref (Z.2.2.1 cf)), (1, .int a2), (2, .ref (Z.2.2.1 ct)), (3, .int a4), (4, .int x4)] → q_X9_copy_3 cf nf ct nt a2 a4 k n_ S x4 → W p l e (rmk 0 0) s m args below meth c H locs 0 0 (Qv below shM 10 Z args s k) (F0 m 3 ls []) := by
  have g := gokM hi
  have hx := C.1.1
  have hb := C.1.2.1
  intro n_
  induction n_ with
  | zero => intro S x4 H locs ls hP hS hl h; exact h.elim
  | succ n_ ih =>
    intro S x4 H locs ls hP hS hl h
    rw [q_X9_copy_3_s] at h
    refine lv_iload hx hb dX9_copy_3 (lv_at hl 4 rfl) ?_
    refine lv_sipush (v := (nI 1197)) hx hb dX9_copy_5 (by decide) ?_
    refine lv_icmp_ge (tgt := 29) hx hb dX9_copy_8 (by decide) (fun c_1 => ?_) (fun c_1 => ?_)
    · have h := h.1 c_1
      exact s_rv C hP hS h dX9_copy_29
    · have h := h.2 c_1
      refine lv_aload_n hx hb dX9_copy_11 rfl (lv_at hl 2 rfl) ?_
      refine lv_iload_n hx hb dX9_copy_12 rfl (lv_at hl 3 rfl) ?_
      refine lv_iload hx hb dX9_copy_13 (lv_at hl 4 rfl) ?_
      refine lv_iadd hx hb dX9_copy_15 ?_
      refine lv_aload_n hx hb dX9_copy_16 rfl (lv_at hl 0 rfl) ?_
      refine lv_iload_n hx hb dX9_copy_17 rfl (lv_at hl 1 rfl) ?_
      refine lv_iload hx hb dX9_copy_18 (lv_at hl 4 rfl) ?_
      refine lv_iadd hx hb dX9_copy_20 ?_
      have hv_2 := h.1
      have h := h.2
      refine s_aI g C hP cf hcf.1 hcf.2 hv_2 dX9_copy_21 ?_
      have hv_3 := h.1
      have h := h.2
      refine s_stI g C hP hS ct hct.1 hct.2 hv_3 dX9_copy_22 (fun H locs hP hS => ?_)
      obtain ⟨S_4, eS_4⟩ : ∃ z_ : St, z_ = sI S ct (a4 + x4).toNatClampNeg (S.1 cf (a2 + x4).toNatClampNeg) := ⟨_, rfl⟩
      rw [← eS_4] at hP
      have h := h S_4 eS_4
      obtain ⟨x4_5, ex4_5⟩ : ∃ y_ : Int32, y_ = x4 + (nI 1) := ⟨_, rfl⟩
      have h := h x4_5 ex4_5
      refine lv_iinc (v := x4_5) (lv' := [(4, .int x4_5), (0, .ref (Z.2.2.1 cf)), (1, .int a2), (2, .ref (Z.2.2.1 ct)), (3, .int a4)]) hx hb dX9_copy_23 hl (k := 4) rfl (by rw [ex4_5]; rfl) (by decide) rfl (fun ls hl => ?_)
      refine lv_goto (tgt := 3) hx hb dX9_copy_26 (by decide) ?_
      exact ih _ _ _ _ _ hP hS (lv_sub hl [1, 2, 3, 4, 0] rfl) h
def q_X9_copy (cf : Nat) (nf : Nat) (ct : Nat) (nt : Nat) (S : St) (a2 : Int32) (a4 : Int32) (k : St → Prop) : Prop := ∃ f_3, q_X9_copy_3 cf nf ct nt a2 a4 k f_3 S (nI 0)
set_option maxRecDepth 100000 in
set_option maxHeartbeats 4000000 in
theorem c_X9_copy {l : Launch} {Z : ZT} (hi : injZ 10 Z) (cf : Nat) (nf : Nat) (ct : Nat) (nt : Nat) (hcf : cf < 10 ∧ shM cf = .inr (0, nf, 0)) (hct : ct < 10 ∧ shM ct = .inr (0, nt, 0)) (S : St) (a2 : Int32) (a4 : Int32) (k : St → Prop) (h : q_X9_copy cf nf ct nt S a2 a4 k) : Mv l shM 10 Z (gM Z) yX9_copy cX9_copy 5 none (rmk 0 0) [.ref (Z.2.2.1 cf), .int a2, .ref (Z.2.2.1 ct), .int a4] S k := by
  have g := gokM hi
  refine e_v (by decide) (Nat.le_of_ble_eq_true rfl) (lv := [(0, .ref (Z.2.2.1 cf)), (1, .int a2), (2, .ref (Z.2.2.1 ct)), (3, .int a4)]) rfl (fun p e s m args below meth c C hP hS ls hl => ?_)
  have hx := C.1.1
  have hb := C.1.2.1
  unfold q_X9_copy at h
  refine lv_iconst (v := (nI 0)) hx hb dX9_copy_0 (by decide) ?_
  refine lv_istore (lv' := [(4, .int (nI 0)), (0, .ref (Z.2.2.1 cf)), (1, .int a2), (2, .ref (Z.2.2.1 ct)), (3, .int a4)]) hx hb dX9_copy_1 hl (by decide) rfl (fun ls hl => ?_)
  obtain ⟨f_3, h⟩ := h
  exact b_X9_copy_3 hi C hcf hct f_3 _ _ _ _ _ hP hS (lv_sub hl [1, 2, 3, 4, 0] rfl) h
def q_X9_keep (S : St) (a1 : Int32) (k : Int32 → St → Prop) : Prop := q_X9_in S a1 (nI 0) (nI 1) (fun r_1 => ((r_1 = (nI 0) → (k (-2 : Int32) S)) ∧ (¬ r_1 = (nI 0) → (q_X9_copy 6 1197 8 2394 S (nI 0) ((nI 1197) * a1) (fun S_3 => (vp_in a1 2 ∧ (∀ S_5 : St, S_5 = sI S_3 9 a1.toNatClampNeg (nI 1) → (k (S_5.1 6 (nI 0).toNatClampNeg) S_5))))))))
set_option maxRecDepth 100000 in
set_option maxHeartbeats 4000000 in
theorem c_X9_keep {l : Launch} {Z : ZT} (hi : injZ 10 Z) (S : St) (a1 : Int32) (k : Int32 → St → Prop) (h : q_X9_keep S a1 k) : Mi l shM 10 Z (gM Z) yX9_keep cX9_keep 2 (Option.some .int) (rmk 1 24) [.ref (Z.2.2.1 0), .int a1] S k := by
  have g := gokM hi
  refine e_i (by decide) (Nat.le_of_ble_eq_true rfl) (lv := [(0, .ref (Z.2.2.1 0)), (1, .int a1)]) rfl (fun p e s m args below meth c C hP hS ls hl => ?_)
  have hx := C.1.1
  have hb := C.1.2.1
  unfold q_X9_keep at h
  refine lv_iload_n hx hb dX9_keep_0 rfl (lv_at hl 1 rfl) ?_
  refine lv_iconst (v := (nI 0)) hx hb dX9_keep_1 (by decide) ?_
  refine lv_iconst (v := (nI 1)) hx hb dX9_keep_2 (by decide) ?_
  refine go_ip (run_S g C hP hS (As := [.int a1, .int (nI 0), .int (nI 1)]) (rest := []) (c_X9_in hi S a1 (nI 0) (nI 1) _ h) cal_X9_in kML_X9_45 ⟨rfl, rfl, Nat.le_of_ble_eq_true rfl, Nat.le_of_ble_eq_true rfl⟩ rfl rfl hl.1 (Nat.le_of_ble_eq_true rfl) dX9_keep_3) hS (fun r_1 H locs h hP hS => ?_)
  obtain ⟨hbr_1, h⟩ := h
  refine lv_if_ne (tgt := 12) hx hb dX9_keep_6 (by decide) (fun c_2 => ?_) (fun c_2 => ?_)
  · have h := h.2 c_2
    refine lv_aload_n hx hb dX9_keep_12 rfl (lv_at hl 0 rfl) ?_
    refine s_gR g C hP 0 19 6 (by decide) rfl rfl cfX9 (by decide) kFL_X9_29 dX9_keep_13 ?_
    refine lv_iconst (v := (nI 0)) hx hb dX9_keep_16 (by decide) ?_
    refine lv_aload_n hx hb dX9_keep_17 rfl (lv_at hl 0 rfl) ?_
    refine s_gR g C hP 0 21 8 (by decide) rfl rfl cfX9 (by decide) kFL_X9_35 dX9_keep_18 ?_
    refine lv_sipush (v := (nI 1197)) hx hb dX9_keep_21 (by decide) ?_
    refine lv_iload_n hx hb dX9_keep_24 rfl (lv_at hl 1 rfl) ?_
    refine lv_imul hx hb dX9_keep_25 ?_
    refine go_v (run_S g C hP hS (As := [.ref (Z.2.2.1 6), .int (nI 0), .ref (Z.2.2.1 8), .int ((nI 1197) * a1)]) (rest := []) (c_X9_copy hi 6 1197 8 2394 ⟨(by decide), rfl⟩ ⟨(by decide), rfl⟩ S (nI 0) ((nI 1197) * a1) _ h) cal_X9_copy kML_X9_205 ⟨rfl, rfl, Nat.le_of_ble_eq_true rfl, Nat.le_of_ble_eq_true rfl⟩ rfl rfl hl.1 (Nat.le_of_ble_eq_true rfl) dX9_keep_26) hS (fun S_3 H locs h hP hS => ?_)
    refine lv_aload_n hx hb dX9_keep_29 rfl (lv_at hl 0 rfl) ?_
    refine s_gR g C hP 0 22 9 (by decide) rfl rfl cfX9 (by decide) kFL_X9_38 dX9_keep_30 ?_
    refine lv_iload_n hx hb dX9_keep_33 rfl (lv_at hl 1 rfl) ?_
    refine lv_iconst (v := (nI 1)) hx hb dX9_keep_34 (by decide) ?_
    have hv_4 := h.1
    have h := h.2
    refine s_stZ g C hP hS 9 (by decide) rfl hv_4 rfl dX9_keep_35 (fun H locs hP hS => ?_)
    obtain ⟨S_5, eS_5⟩ : ∃ z_ : St, z_ = sI S_3 9 a1.toNatClampNeg (nI 1) := ⟨_, rfl⟩
    rw [← eS_5] at hP
    have h := h S_5 eS_5
    refine lv_aload_n hx hb dX9_keep_36 rfl (lv_at hl 0 rfl) ?_
    refine s_gR g C hP 0 19 6 (by decide) rfl rfl cfX9 (by decide) kFL_X9_29 dX9_keep_37 ?_
    refine lv_iconst (v := (nI 0)) hx hb dX9_keep_40 (by decide) ?_
    refine s_aI g C hP 6 (by decide) rfl (vinL (by decide +kernel)) dX9_keep_41 ?_
    exact s_ri C hP hS h dX9_keep_42
  · have h := h.1 c_2
    refine lv_bipush (v := (-2 : Int32)) hx hb dX9_keep_9 (by decide) ?_
    exact s_ri C hP hS h dX9_keep_11
def q_X9_back (S : St) (a1 : Int32) (k : Int32 → St → Prop) : Prop := q_X9_in S a1 (nI 0) (nI 1) (fun r_1 => ((r_1 = (nI 0) → (k (-2 : Int32) S)) ∧ (¬ r_1 = (nI 0) → (vp_in a1 2 ∧ (((S.1 9 a1.toNatClampNeg) = (nI 0) → (k (-4 : Int32) S)) ∧ (¬ (S.1 9 a1.toNatClampNeg) = (nI 0) → (q_X9_copy 8 2394 6 1197 S ((nI 1197) * a1) (nI 0) (fun S_5 => (k (S_5.1 6 (nI 0).toNatClampNeg) S_5)))))))))
set_option maxRecDepth 100000 in
set_option maxHeartbeats 4000000 in
theorem c_X9_back {l : Launch} {Z : ZT} (hi : injZ 10 Z) (S : St) (a1 : Int32) (k : Int32 → St → Prop) (h : q_X9_back S a1 k) : Mi l shM 10 Z (gM Z) yX9_back cX9_back 2 (Option.some .int) (rmk 1 24) [.ref (Z.2.2.1 0), .int a1] S k := by
  have g := gokM hi
  refine e_i (by decide) (Nat.le_of_ble_eq_true rfl) (lv := [(0, .ref (Z.2.2.1 0)), (1, .int a1)]) rfl (fun p e s m args below meth c C hP hS ls hl => ?_)
  have hx := C.1.1
  have hb := C.1.2.1
  unfold q_X9_back at h
  refine lv_iload_n hx hb dX9_back_0 rfl (lv_at hl 1 rfl) ?_
  refine lv_iconst (v := (nI 0)) hx hb dX9_back_1 (by decide) ?_
  refine lv_iconst (v := (nI 1)) hx hb dX9_back_2 (by decide) ?_
  refine go_ip (run_S g C hP hS (As := [.int a1, .int (nI 0), .int (nI 1)]) (rest := []) (c_X9_in hi S a1 (nI 0) (nI 1) _ h) cal_X9_in kML_X9_45 ⟨rfl, rfl, Nat.le_of_ble_eq_true rfl, Nat.le_of_ble_eq_true rfl⟩ rfl rfl hl.1 (Nat.le_of_ble_eq_true rfl) dX9_back_3) hS (fun r_1 H locs h hP hS => ?_)
  obtain ⟨hbr_1, h⟩ := h
  refine lv_if_ne (tgt := 12) hx hb dX9_back_6 (by decide) (fun c_2 => ?_) (fun c_2 => ?_)
  · have h := h.2 c_2
    refine lv_aload_n hx hb dX9_back_12 rfl (lv_at hl 0 rfl) ?_
    refine s_gR g C hP 0 22 9 (by decide) rfl rfl cfX9 (by decide) kFL_X9_38 dX9_back_13 ?_
    refine lv_iload_n hx hb dX9_back_16 rfl (lv_at hl 1 rfl) ?_
    have hv_3 := h.1
    have h := h.2
    refine s_aZ g C hP 9 (by decide) rfl hv_3 dX9_back_17 ?_
    refine lv_if_ne (tgt := 24) hx hb dX9_back_18 (by decide) (fun c_4 => ?_) (fun c_4 => ?_)
    · have h := h.2 c_4
      refine lv_aload_n hx hb dX9_back_24 rfl (lv_at hl 0 rfl) ?_
      refine s_gR g C hP 0 21 8 (by decide) rfl rfl cfX9 (by decide) kFL_X9_35 dX9_back_25 ?_
      refine lv_sipush (v := (nI 1197)) hx hb dX9_back_28 (by decide) ?_
      refine lv_iload_n hx hb dX9_back_31 rfl (lv_at hl 1 rfl) ?_
      refine lv_imul hx hb dX9_back_32 ?_
      refine lv_aload_n hx hb dX9_back_33 rfl (lv_at hl 0 rfl) ?_
      refine s_gR g C hP 0 19 6 (by decide) rfl rfl cfX9 (by decide) kFL_X9_29 dX9_back_34 ?_
      refine lv_iconst (v := (nI 0)) hx hb dX9_back_37 (by decide) ?_
      refine go_v (run_S g C hP hS (As := [.ref (Z.2.2.1 8), .int ((nI 1197) * a1), .ref (Z.2.2.1 6), .int (nI 0)]) (rest := []) (c_X9_copy hi 8 2394 6 1197 ⟨(by decide), rfl⟩ ⟨(by decide), rfl⟩ S ((nI 1197) * a1) (nI 0) _ h) cal_X9_copy kML_X9_205 ⟨rfl, rfl, Nat.le_of_ble_eq_true rfl, Nat.le_of_ble_eq_true rfl⟩ rfl rfl hl.1 (Nat.le_of_ble_eq_true rfl) dX9_back_38) hS (fun S_5 H locs h hP hS => ?_)
      refine lv_aload_n hx hb dX9_back_41 rfl (lv_at hl 0 rfl) ?_
      refine s_gR g C hP 0 19 6 (by decide) rfl rfl cfX9 (by decide) kFL_X9_29 dX9_back_42 ?_
      refine lv_iconst (v := (nI 0)) hx hb dX9_back_45 (by decide) ?_
      refine s_aI g C hP 6 (by decide) rfl (vinL (by decide +kernel)) dX9_back_46 ?_
      exact s_ri C hP hS h dX9_back_47
    · have h := h.1 c_4
      refine lv_bipush (v := (-4 : Int32)) hx hb dX9_back_21 (by decide) ?_
      exact s_ri C hP hS h dX9_back_23
  · have h := h.1 c_2
    refine lv_bipush (v := (-2 : Int32)) hx hb dX9_back_9 (by decide) ?_
    exact s_ri C hP hS h dX9_back_11
def q_X9_caught_4 (S : St) (k : Int32 → Prop) : Nat → Int32 → Int32 → Prop := fun n_ => Nat.rec (motive := fun _ => Int32 → Int32 → Prop) (fun _ _ => False) (fun _ ih => fun x1 x2 => ((nI 6) ≤ x2 → (k x1)) ∧ (¬ (nI 6) ≤ x2 → (vp_in ((nI 13) + x2) 1197 ∧ (∀ x1_3 : Int32, x1_3 = (x1 + (S.1 6 ((nI 13) + x2).toNatClampNeg)) → (∀ x2_4 : Int32, x2_4 = x2 + (nI 1) → (ih x1_3 x2_4)))))) n_
theorem q_X9_caught_4_s (S : St) (k : Int32 → Prop) (n_ : Nat) (x1 : Int32) (x2 : Int32) : q_X9_caught_4 S k (n_ + 1) x1 x2 = (((nI 6) ≤ x2 → (k x1)) ∧ (¬ (nI 6) ≤ x2 → (vp_in ((nI 13) + x2) 1197 ∧ (∀ x1_3 : Int32, x1_3 = (x1 + (S.1 6 ((nI 13) + x2).toNatClampNeg)) → (∀ x2_4 : Int32, x2_4 = x2 + (nI 1) → ((q_X9_caught_4 S k n_) x1_3 x2_4)))))) := rfl
set_option maxRecDepth 100000 in
set_option maxHeartbeats 4000000 in
theorem b_X9_caught_4 {p : Program} {l : Launch} {e : Env} {s : State} {m : MethodId} {args : Array Value} {below : List Frame} {meth : Method} {c : Code} {Z : ZT} (hi : injZ 10 Z) (C : Cxt (gM Z) p s m meth c args yX9_caught cX9_caught 3 (Option.some .int)) {S : St} {k : Int32 → Prop}   : ∀ (n_ : Nat) (x1 : Int32) (x2 : Int32) (H : Heap) (locs : List Loc) (ls : Array Slot), va_P Z.1 vwCl (wl shM 10 Z S) H → va_S (aa 10 Z) s.heap H locs → lv_has ls 3 [(0, .ref (Z.2.2.1 0)), (1, .int x1), (2, .int x2)] → q_X9_caught_4 S k n_ x1 x2 → W p l e (rmk 0 0) s m args below meth c H locs 0 0 (Qi below shM 10 Z args s (fun r S' => S' = S ∧ k r)) (F0 m 4 ls []) := by
  have g := gokM hi
  have hx := C.1.1
  have hb := C.1.2.1
  intro n_
  induction n_ with
  | zero => intro x1 x2 H locs ls hP hS hl h; exact h.elim
  | succ n_ ih =>
    intro x1 x2 H locs ls hP hS hl h
    rw [q_X9_caught_4_s] at h
    refine lv_iload_n hx hb dX9_caught_4 rfl (lv_at hl 2 rfl) ?_
    refine lv_bipush (v := (nI 6)) hx hb dX9_caught_5 (by decide) ?_
    refine lv_icmp_ge (tgt := 28) hx hb dX9_caught_7 (by decide) (fun c_1 => ?_) (fun c_1 => ?_)
    · have h := h.1 c_1
      refine lv_iload_n hx hb dX9_caught_28 rfl (lv_at hl 1 rfl) ?_
      exact s_ri C hP hS ⟨rfl, h⟩ dX9_caught_29
    · have h := h.2 c_1
      refine lv_iload_n hx hb dX9_caught_10 rfl (lv_at hl 1 rfl) ?_
      refine lv_aload_n hx hb dX9_caught_11 rfl (lv_at hl 0 rfl) ?_
      refine s_gR g C hP 0 19 6 (by decide) rfl rfl cfX9 (by decide) kFL_X9_29 dX9_caught_12 ?_
      refine lv_bipush (v := (nI 13)) hx hb dX9_caught_15 (by decide) ?_
      refine lv_iload_n hx hb dX9_caught_17 rfl (lv_at hl 2 rfl) ?_
      refine lv_iadd hx hb dX9_caught_18 ?_
      have hv_2 := h.1
      have h := h.2
      refine s_aI g C hP 6 (by decide) rfl hv_2 dX9_caught_19 ?_
      refine lv_iadd hx hb dX9_caught_20 ?_
      refine lv_topi (fun x1_3 ex1_3 => ?_)
      have h := h x1_3 ex1_3
      refine lv_istore_n (lv' := [(1, .int x1_3), (0, .ref (Z.2.2.1 0)), (2, .int x2)]) hx hb dX9_caught_21 rfl hl (by decide) rfl (fun ls hl => ?_)
      obtain ⟨x2_4, ex2_4⟩ : ∃ y_ : Int32, y_ = x2 + (nI 1) := ⟨_, rfl⟩
      have h := h x2_4 ex2_4
      refine lv_iinc (v := x2_4) (lv' := [(2, .int x2_4), (1, .int x1_3), (0, .ref (Z.2.2.1 0))]) hx hb dX9_caught_22 hl (k := 2) rfl (by rw [ex2_4]; rfl) (by decide) rfl (fun ls hl => ?_)
      refine lv_goto (tgt := 4) hx hb dX9_caught_25 (by decide) ?_
      exact ih _ _ _ _ _ hP hS (lv_sub hl [2, 1, 0] rfl) h
def q_X9_caught (S : St) (k : Int32 → Prop) : Prop := ∃ f_4, q_X9_caught_4 S k f_4 (nI 0) (nI 0)
set_option maxRecDepth 100000 in
set_option maxHeartbeats 4000000 in
theorem c_X9_caught {l : Launch} {Z : ZT} (hi : injZ 10 Z) (S : St) (k : Int32 → Prop) (h : q_X9_caught S k) : Mi l shM 10 Z (gM Z) yX9_caught cX9_caught 3 (Option.some .int) (rmk 0 0) [.ref (Z.2.2.1 0)] S (fun r S' => S' = S ∧ k r) := by
  have g := gokM hi
  refine e_i (by decide) (Nat.le_of_ble_eq_true rfl) (lv := [(0, .ref (Z.2.2.1 0))]) rfl (fun p e s m args below meth c C hP hS ls hl => ?_)
  have hx := C.1.1
  have hb := C.1.2.1
  unfold q_X9_caught at h
  refine lv_iconst (v := (nI 0)) hx hb dX9_caught_0 (by decide) ?_
  refine lv_istore_n (lv' := [(1, .int (nI 0)), (0, .ref (Z.2.2.1 0))]) hx hb dX9_caught_1 rfl hl (by decide) rfl (fun ls hl => ?_)
  refine lv_iconst (v := (nI 0)) hx hb dX9_caught_2 (by decide) ?_
  refine lv_istore_n (lv' := [(2, .int (nI 0)), (1, .int (nI 0)), (0, .ref (Z.2.2.1 0))]) hx hb dX9_caught_3 rfl hl (by decide) rfl (fun ls hl => ?_)
  obtain ⟨f_4, h⟩ := h
  exact b_X9_caught_4 hi C  f_4 _ _ _ _ _ hP hS (lv_sub hl [2, 1, 0] rfl) h
def q_X9_toldMany_27 (S : St) (k : Int32 → Prop) (e_4 : Int32 → Int32 → Prop) (x2 : Int32) (t0 : Int32) (t1 : Int32) : Prop := ∀ x1_1 : Int32, x1_1 = (t1 + t0) → (∀ x2_2 : Int32, x2_2 = x2 + (nI 1) → (e_4 x1_1 x2_2))
set_option maxRecDepth 100000 in
set_option maxHeartbeats 4000000 in
theorem b_X9_toldMany_27 {p : Program} {l : Launch} {e : Env} {s : State} {m : MethodId} {args : Array Value} {below : List Frame} {meth : Method} {c : Code} {Z : ZT} (hi : injZ 10 Z) (C : Cxt (gM Z) p s m meth c args yX9_toldMany cX9_toldMany 3 (Option.some .int)) {S : St} {k : Int32 → Prop} {e_4 : Int32 → Int32 → Prop}  (he_4 : ∀ (x1 : Int32) (x2 : Int32) (H : Heap) (locs : List Loc) (ls : Array Slot), va_P Z.1 vwCl (wl shM 10 Z S) H → va_S (aa 10 Z) s.heap H locs → lv_has ls 3 [(0, .ref (Z.2.2.1 0)), (1, .int x1), (2, .int x2)] → e_4 x1 x2 → W p l e (rmk 1 21) s m args below meth c H locs 0 0 (Qi below shM 10 Z args s (fun r S' => S' = S ∧ k r)) (F0 m 4 ls [])) (x2 : Int32) (t0 : Int32) (t1 : Int32) (H : Heap) (locs : List Loc) (ls : Array Slot) (hP : va_P Z.1 vwCl (wl shM 10 Z S) H) (hS : va_S (aa 10 Z) s.heap H locs) (hl : lv_has ls 3 [(0, .ref (Z.2.2.1 0)), (2, .int x2)]) (h : q_X9_toldMany_27 S k e_4 x2 t0 t1) : W p l e (rmk 1 21) s m args below meth c H locs 0 0 (Qi below shM 10 Z args s (fun r S' => S' = S ∧ k r)) (F0 m 27 ls [.int t0, .int t1]) := by
  have g := gokM hi
  have hx := C.1.1
  have hb := C.1.2.1
  unfold q_X9_toldMany_27 at h
  refine lv_iadd hx hb dX9_toldMany_27 ?_
  refine lv_topi (fun x1_1 ex1_1 => ?_)
  have h := h x1_1 ex1_1
  refine lv_istore_n (lv' := [(1, .int x1_1), (0, .ref (Z.2.2.1 0)), (2, .int x2)]) hx hb dX9_toldMany_28 rfl hl (by decide) rfl (fun ls hl => ?_)
  obtain ⟨x2_2, ex2_2⟩ : ∃ y_ : Int32, y_ = x2 + (nI 1) := ⟨_, rfl⟩
  have h := h x2_2 ex2_2
  refine lv_iinc (v := x2_2) (lv' := [(2, .int x2_2), (1, .int x1_1), (0, .ref (Z.2.2.1 0))]) hx hb dX9_toldMany_29 hl (k := 2) rfl (by rw [ex2_2]; rfl) (by decide) rfl (fun ls hl => ?_)
  refine lv_goto (tgt := 4) hx hb dX9_toldMany_32 (by decide) ?_
  exact he_4 _ _ _ _ _ hP hS (lv_sub hl [2, 1, 0] rfl) h
def q_X9_toldMany_4 (S : St) (k : Int32 → Prop) : Nat → Int32 → Int32 → Prop := fun n_ => Nat.rec (motive := fun _ => Int32 → Int32 → Prop) (fun _ _ => False) (fun _ ih => fun x1 x2 => ((nI 6) ≤ x2 → (k x1)) ∧ (¬ (nI 6) ≤ x2 → (q_X9_has S (S.1 0 1) x2 (fun r_2 => ((r_2 = (nI 0) → (q_X9_toldMany_27 S k ih x2 (nI 0) x1)) ∧ (¬ r_2 = (nI 0) → (q_X9_toldMany_27 S k ih x2 (nI 1) x1))))))) n_
theorem q_X9_toldMany_4_s (S : St) (k : Int32 → Prop) (n_ : Nat) (x1 : Int32) (x2 : Int32) : q_X9_toldMany_4 S k (n_ + 1) x1 x2 = (((nI 6) ≤ x2 → (k x1)) ∧ (¬ (nI 6) ≤ x2 → (q_X9_has S (S.1 0 1) x2 (fun r_2 => ((r_2 = (nI 0) → (q_X9_toldMany_27 S k (q_X9_toldMany_4 S k n_) x2 (nI 0) x1)) ∧ (¬ r_2 = (nI 0) → (q_X9_toldMany_27 S k (q_X9_toldMany_4 S k n_) x2 (nI 1) x1))))))) := rfl
set_option maxRecDepth 100000 in
set_option maxHeartbeats 4000000 in
theorem b_X9_toldMany_4 {p : Program} {l : Launch} {e : Env} {s : State} {m : MethodId} {args : Array Value} {below : List Frame} {meth : Method} {c : Code} {Z : ZT} (hi : injZ 10 Z) (C : Cxt (gM Z) p s m meth c args yX9_toldMany cX9_toldMany 3 (Option.some .int)) {S : St} {k : Int32 → Prop}   : ∀ (n_ : Nat) (x1 : Int32) (x2 : Int32) (H : Heap) (locs : List Loc) (ls : Array Slot), va_P Z.1 vwCl (wl shM 10 Z S) H → va_S (aa 10 Z) s.heap H locs → lv_has ls 3 [(0, .ref (Z.2.2.1 0)), (1, .int x1), (2, .int x2)] → q_X9_toldMany_4 S k n_ x1 x2 → W p l e (rmk 1 21) s m args below meth c H locs 0 0 (Qi below shM 10 Z args s (fun r S' => S' = S ∧ k r)) (F0 m 4 ls []) := by
  have g := gokM hi
  have hx := C.1.1
  have hb := C.1.2.1
  intro n_
  induction n_ with
  | zero => intro x1 x2 H locs ls hP hS hl h; exact h.elim
  | succ n_ ih =>
    intro x1 x2 H locs ls hP hS hl h
    rw [q_X9_toldMany_4_s] at h
    refine lv_iload_n hx hb dX9_toldMany_4 rfl (lv_at hl 2 rfl) ?_
    refine lv_bipush (v := (nI 6)) hx hb dX9_toldMany_5 (by decide) ?_
    refine lv_icmp_ge (tgt := 35) hx hb dX9_toldMany_7 (by decide) (fun c_1 => ?_) (fun c_1 => ?_)
    · have h := h.1 c_1
      refine lv_iload_n hx hb dX9_toldMany_35 rfl (lv_at hl 1 rfl) ?_
      exact s_ri C hP hS ⟨rfl, h⟩ dX9_toldMany_36
    · have h := h.2 c_1
      refine lv_iload_n hx hb dX9_toldMany_10 rfl (lv_at hl 1 rfl) ?_
      refine lv_aload_n hx hb dX9_toldMany_11 rfl (lv_at hl 0 rfl) ?_
      refine s_gI g C hP 0 1 (by decide) rfl rfl cfX9 (by decide) kFL_X9_49 dX9_toldMany_12 ?_
      refine lv_iload_n hx hb dX9_toldMany_15 rfl (lv_at hl 2 rfl) ?_
      refine go_ip (run_S g C hP hS (As := [.int (S.1 0 1), .int x2]) (rest := [.int x1]) (c_X9_has hi S (S.1 0 1) x2 _ h) cal_X9_has kML_X9_52 ⟨rfl, rfl, Nat.le_of_ble_eq_true rfl, Nat.le_of_ble_eq_true rfl⟩ rfl rfl hl.1 (Nat.le_of_ble_eq_true rfl) dX9_toldMany_16) hS (fun r_2 H locs h hP hS => ?_)
      obtain ⟨hbr_2, h⟩ := h
      refine lv_if_eq (tgt := 26) hx hb dX9_toldMany_19 (by decide) (fun c_3 => ?_) (fun c_3 => ?_)
      · have h := h.1 c_3
        refine lv_iconst (v := (nI 0)) hx hb dX9_toldMany_26 (by decide) ?_
        exact b_X9_toldMany_27 hi C ih _ _ _ _ _ _ hP hS (lv_sub hl [0, 2] rfl) h
      · have h := h.2 c_3
        refine lv_iconst (v := (nI 1)) hx hb dX9_toldMany_22 (by decide) ?_
        refine lv_goto (tgt := 27) hx hb dX9_toldMany_23 (by decide) ?_
        exact b_X9_toldMany_27 hi C ih _ _ _ _ _ _ hP hS (lv_sub hl [0, 2] rfl) h
def q_X9_toldMany (S : St) (k : Int32 → Prop) : Prop := ∃ f_4, q_X9_toldMany_4 S k f_4 (nI 0) (nI 0)
set_option maxRecDepth 100000 in
set_option maxHeartbeats 4000000 in
theorem c_X9_toldMany {l : Launch} {Z : ZT} (hi : injZ 10 Z) (S : St) (k : Int32 → Prop) (h : q_X9_toldMany S k) : Mi l shM 10 Z (gM Z) yX9_toldMany cX9_toldMany 3 (Option.some .int) (rmk 1 21) [.ref (Z.2.2.1 0)] S (fun r S' => S' = S ∧ k r) := by
  have g := gokM hi
  refine e_i (by decide) (Nat.le_of_ble_eq_true rfl) (lv := [(0, .ref (Z.2.2.1 0))]) rfl (fun p e s m args below meth c C hP hS ls hl => ?_)
  have hx := C.1.1
  have hb := C.1.2.1
  unfold q_X9_toldMany at h
  refine lv_iconst (v := (nI 0)) hx hb dX9_toldMany_0 (by decide) ?_
  refine lv_istore_n (lv' := [(1, .int (nI 0)), (0, .ref (Z.2.2.1 0))]) hx hb dX9_toldMany_1 rfl hl (by decide) rfl (fun ls hl => ?_)
  refine lv_iconst (v := (nI 0)) hx hb dX9_toldMany_2 (by decide) ?_
  refine lv_istore_n (lv' := [(2, .int (nI 0)), (1, .int (nI 0)), (0, .ref (Z.2.2.1 0))]) hx hb dX9_toldMany_3 rfl hl (by decide) rfl (fun ls hl => ?_)
  obtain ⟨f_4, h⟩ := h
  exact b_X9_toldMany_4 hi C  f_4 _ _ _ _ _ hP hS (lv_sub hl [2, 1, 0] rfl) h
def q_X9_askAll_35 (a1 : Int32) (k : St → Prop) (e_4 : St → Int32 → Int32 → Prop) (S : St) (x2 : Int32) (x3 : Int32) : Prop := ∀ x3_1 : Int32, x3_1 = x3 + (-1 : Int32) → (e_4 S x2 x3_1)
set_option maxRecDepth 100000 in
set_option maxHeartbeats 4000000 in
theorem b_X9_askAll_35 {p : Program} {l : Launch} {e : Env} {s : State} {m : MethodId} {args : Array Value} {below : List Frame} {meth : Method} {c : Code} {Z : ZT} (hi : injZ 10 Z) (C : Cxt (gM Z) p s m meth c args yX9_askAll cX9_askAll 4 none) {a1 : Int32} {k : St → Prop} {e_4 : St → Int32 → Int32 → Prop}  (he_4 : ∀ (S : St) (x2 : Int32) (x3 : Int32) (H : Heap) (locs : List Loc) (ls : Array Slot), va_P Z.1 vwCl (wl shM 10 Z S) H → va_S (aa 10 Z) s.heap H locs → lv_has ls 4 [(0, .ref (Z.2.2.1 0)), (2, .int x2), (3, .int x3)] → e_4 S x2 x3 → W p l e (rmk 1 21) s m args below meth c H locs 0 0 (Qv below shM 10 Z args s k) (F0 m 4 ls [])) (S : St) (x2 : Int32) (x3 : Int32) (H : Heap) (locs : List Loc) (ls : Array Slot) (hP : va_P Z.1 vwCl (wl shM 10 Z S) H) (hS : va_S (aa 10 Z) s.heap H locs) (hl : lv_has ls 4 [(0, .ref (Z.2.2.1 0)), (2, .int x2), (3, .int x3)]) (h : q_X9_askAll_35 a1 k e_4 S x2 x3) : W p l e (rmk 1 21) s m args below meth c H locs 0 0 (Qv below shM 10 Z args s k) (F0 m 35 ls []) := by
  have g := gokM hi
  have hx := C.1.1
  have hb := C.1.2.1
  unfold q_X9_askAll_35 at h
  obtain ⟨x3_1, ex3_1⟩ : ∃ y_ : Int32, y_ = x3 + (-1 : Int32) := ⟨_, rfl⟩
  have h := h x3_1 ex3_1
  refine lv_iinc (v := x3_1) (lv' := [(3, .int x3_1), (0, .ref (Z.2.2.1 0)), (2, .int x2)]) hx hb dX9_askAll_35 hl (k := 2) rfl (by rw [ex3_1]; rfl) (by decide) rfl (fun ls hl => ?_)
  refine lv_goto (tgt := 4) hx hb dX9_askAll_38 (by decide) ?_
  exact he_4 _ _ _ _ _ _ hP hS (lv_sub hl [1, 2, 0] rfl) h
def q_X9_askAll_4 (a1 : Int32) (k : St → Prop) : Nat → St → Int32 → Int32 → Prop := fun n_ => Nat.rec (motive := fun _ => St → Int32 → Int32 → Prop) (fun _ _ _ => False) (fun _ ih => fun S x2 x3 => (x3 < (nI 0) → (k S)) ∧ (¬ x3 < (nI 0) → (q_X9_has S (S.1 0 1) x3 (fun r_2 => ((r_2 = (nI 0) → (q_X9_askAll_35 a1 k ih S x2 x3)) ∧ (¬ r_2 = (nI 0) → (vp_in ((nI 7) + x3) 1197 ∧ (∀ S_5 : St, S_5 = sI S 6 ((nI 7) + x3).toNatClampNeg (x2 - x2 / (nI 4) * (nI 4)) → (∀ x2_6 : Int32, x2_6 = (x2 / (nI 4)) → (q_X9_askAll_35 a1 k ih S_5 x2_6 x3)))))))))) n_
theorem q_X9_askAll_4_s (a1 : Int32) (k : St → Prop) (n_ : Nat) (S : St) (x2 : Int32) (x3 : Int32) : q_X9_askAll_4 a1 k (n_ + 1) S x2 x3 = ((x3 < (nI 0) → (k S)) ∧ (¬ x3 < (nI 0) → (q_X9_has S (S.1 0 1) x3 (fun r_2 => ((r_2 = (nI 0) → (q_X9_askAll_35 a1 k (q_X9_askAll_4 a1 k n_) S x2 x3)) ∧ (¬ r_2 = (nI 0) → (vp_in ((nI 7) + x3) 1197 ∧ (∀ S_5 : St, S_5 = sI S 6 ((nI 7) + x3).toNatClampNeg (x2 - x2 / (nI 4) * (nI 4)) → (∀ x2_6 : Int32, x2_6 = (x2 / (nI 4)) → (q_X9_askAll_35 a1 k (q_X9_askAll_4 a1 k n_) S_5 x2_6 x3)))))))))) := rfl
set_option maxRecDepth 100000 in
set_option maxHeartbeats 4000000 in
theorem b_X9_askAll_4 {p : Program} {l : Launch} {e : Env} {s : State} {m : MethodId} {args : Array Value} {below : List Frame} {meth : Method} {c : Code} {Z : ZT} (hi : injZ 10 Z) (C : Cxt (gM Z) p s m meth c args yX9_askAll cX9_askAll 4 none) {a1 : Int32} {k : St → Prop}   : ∀ (n_ : Nat) (S : St) (x2 : Int32) (x3 : Int32) (H : Heap) (locs : List Loc) (ls : Array Slot), va_P Z.1 vwCl (wl shM 10 Z S) H → va_S (aa 10 Z) s.heap H locs → lv_has ls 4 [(0, .ref (Z.2.2.1 0)), (2, .int x2), (3, .int x3)] → q_X9_askAll_4 a1 k n_ S x2 x3 → W p l e (rmk 1 21) s m args below meth c H locs 0 0 (Qv below shM 10 Z args s k) (F0 m 4 ls []) := by
  have g := gokM hi
  have hx := C.1.1
  have hb := C.1.2.1
  intro n_
  induction n_ with
  | zero => intro S x2 x3 H locs ls hP hS hl h; exact h.elim
  | succ n_ ih =>
    intro S x2 x3 H locs ls hP hS hl h
    rw [q_X9_askAll_4_s] at h
    refine lv_iload_n hx hb dX9_askAll_4 rfl (lv_at hl 2 rfl) ?_
    refine lv_if_lt (tgt := 41) hx hb dX9_askAll_5 (by decide) (fun c_1 => ?_) (fun c_1 => ?_)
    · have h := h.1 c_1
      exact s_rv C hP hS h dX9_askAll_41
    · have h := h.2 c_1
      refine lv_aload_n hx hb dX9_askAll_8 rfl (lv_at hl 0 rfl) ?_
      refine s_gI g C hP 0 1 (by decide) rfl rfl cfX9 (by decide) kFL_X9_49 dX9_askAll_9 ?_
      refine lv_iload_n hx hb dX9_askAll_12 rfl (lv_at hl 2 rfl) ?_
      refine go_ip (run_S g C hP hS (As := [.int (S.1 0 1), .int x3]) (rest := []) (c_X9_has hi S (S.1 0 1) x3 _ h) cal_X9_has kML_X9_52 ⟨rfl, rfl, Nat.le_of_ble_eq_true rfl, Nat.le_of_ble_eq_true rfl⟩ rfl rfl hl.1 (Nat.le_of_ble_eq_true rfl) dX9_askAll_13) hS (fun r_2 H locs h hP hS => ?_)
      obtain ⟨hbr_2, h⟩ := h
      refine lv_if_eq (tgt := 35) hx hb dX9_askAll_16 (by decide) (fun c_3 => ?_) (fun c_3 => ?_)
      · have h := h.1 c_3
        exact b_X9_askAll_35 hi C ih _ _ _ _ _ _ hP hS (lv_sub hl [0, 1, 2] rfl) h
      · have h := h.2 c_3
        refine lv_aload_n hx hb dX9_askAll_19 rfl (lv_at hl 0 rfl) ?_
        refine s_gR g C hP 0 19 6 (by decide) rfl rfl cfX9 (by decide) kFL_X9_29 dX9_askAll_20 ?_
        refine lv_bipush (v := (nI 7)) hx hb dX9_askAll_23 (by decide) ?_
        refine lv_iload_n hx hb dX9_askAll_25 rfl (lv_at hl 2 rfl) ?_
        refine lv_iadd hx hb dX9_askAll_26 ?_
        refine lv_iload_n hx hb dX9_askAll_27 rfl (lv_at hl 1 rfl) ?_
        refine lv_iconst (v := (nI 4)) hx hb dX9_askAll_28 (by decide) ?_
        refine lv_irem hx hb dX9_askAll_29 (by decide) ?_
        have hv_4 := h.1
        have h := h.2
        refine s_stI g C hP hS 6 (by decide) rfl hv_4 dX9_askAll_30 (fun H locs hP hS => ?_)
        obtain ⟨S_5, eS_5⟩ : ∃ z_ : St, z_ = sI S 6 ((nI 7) + x3).toNatClampNeg (x2 - x2 / (nI 4) * (nI 4)) := ⟨_, rfl⟩
        rw [← eS_5] at hP
        have h := h S_5 eS_5
        refine lv_iload_n hx hb dX9_askAll_31 rfl (lv_at hl 1 rfl) ?_
        refine lv_iconst (v := (nI 4)) hx hb dX9_askAll_32 (by decide) ?_
        refine lv_idiv hx hb dX9_askAll_33 (by decide) ?_
        refine lv_topi (fun x2_6 ex2_6 => ?_)
        have h := h x2_6 ex2_6
        refine lv_istore_n (lv' := [(2, .int x2_6), (0, .ref (Z.2.2.1 0)), (3, .int x3)]) hx hb dX9_askAll_34 rfl hl (by decide) rfl (fun ls hl => ?_)
        exact b_X9_askAll_35 hi C ih _ _ _ _ _ _ hP hS (lv_sub hl [1, 0, 2] rfl) h
def q_X9_askAll (S : St) (a1 : Int32) (k : St → Prop) : Prop := ∃ f_4, q_X9_askAll_4 a1 k f_4 S a1 (nI 5)
set_option maxRecDepth 100000 in
set_option maxHeartbeats 4000000 in
theorem c_X9_askAll {l : Launch} {Z : ZT} (hi : injZ 10 Z) (S : St) (a1 : Int32) (k : St → Prop) (h : q_X9_askAll S a1 k) : Mv l shM 10 Z (gM Z) yX9_askAll cX9_askAll 4 none (rmk 1 21) [.ref (Z.2.2.1 0), .int a1] S k := by
  have g := gokM hi
  refine e_v (by decide) (Nat.le_of_ble_eq_true rfl) (lv := [(0, .ref (Z.2.2.1 0)), (1, .int a1)]) rfl (fun p e s m args below meth c C hP hS ls hl => ?_)
  have hx := C.1.1
  have hb := C.1.2.1
  unfold q_X9_askAll at h
  refine lv_iload_n hx hb dX9_askAll_0 rfl (lv_at hl 1 rfl) ?_
  refine lv_istore_n (lv' := [(2, .int a1), (0, .ref (Z.2.2.1 0)), (1, .int a1)]) hx hb dX9_askAll_1 rfl hl (by decide) rfl (fun ls hl => ?_)
  refine lv_iconst (v := (nI 5)) hx hb dX9_askAll_2 (by decide) ?_
  refine lv_istore_n (lv' := [(3, .int (nI 5)), (2, .int a1), (0, .ref (Z.2.2.1 0)), (1, .int a1)]) hx hb dX9_askAll_3 rfl hl (by decide) rfl (fun ls hl => ?_)
  obtain ⟨f_4, h⟩ := h
  exact b_X9_askAll_4 hi C  f_4 _ _ _ _ _ _ hP hS (lv_sub hl [2, 1, 0] rfl) h
def q_X9_copyState_2 (k : St → Prop) : Nat → St → Int32 → Prop := fun n_ => Nat.rec (motive := fun _ => St → Int32 → Prop) (fun _ _ => False) (fun _ ih => fun S x1 => ((nI 45) ≤ x1 → (k S)) ∧ (¬ (nI 45) ≤ x1 → (vp_in x1 1197 ∧ (vp_in x1 1197 ∧ (∀ S_4 : St, S_4 = sI S 6 x1.toNatClampNeg (S.1 7 x1.toNatClampNeg) → (∀ x1_5 : Int32, x1_5 = x1 + (nI 1) → (ih S_4 x1_5))))))) n_
theorem q_X9_copyState_2_s (k : St → Prop) (n_ : Nat) (S : St) (x1 : Int32) : q_X9_copyState_2 k (n_ + 1) S x1 = (((nI 45) ≤ x1 → (k S)) ∧ (¬ (nI 45) ≤ x1 → (vp_in x1 1197 ∧ (vp_in x1 1197 ∧ (∀ S_4 : St, S_4 = sI S 6 x1.toNatClampNeg (S.1 7 x1.toNatClampNeg) → (∀ x1_5 : Int32, x1_5 = x1 + (nI 1) → ((q_X9_copyState_2 k n_) S_4 x1_5))))))) := rfl
set_option maxRecDepth 100000 in
set_option maxHeartbeats 4000000 in
theorem b_X9_copyState_2 {p : Program} {l : Launch} {e : Env} {s : State} {m : MethodId} {args : Array Value} {below : List Frame} {meth : Method} {c : Code} {Z : ZT} (hi : injZ 10 Z) (C : Cxt (gM Z) p s m meth c args yX9_copyState cX9_copyState 2 none) {k : St → Prop}   : ∀ (n_ : Nat) (S : St) (x1 : Int32) (H : Heap) (locs : List Loc) (ls : Array Slot), va_P Z.1 vwCl (wl shM 10 Z S) H → va_S (aa 10 Z) s.heap H locs → lv_has ls 2 [(0, .ref (Z.2.2.1 0)), (1, .int x1)] → q_X9_copyState_2 k n_ S x1 → W p l e (rmk 0 0) s m args below meth c H locs 0 0 (Qv below shM 10 Z args s k) (F0 m 2 ls []) := by
  have g := gokM hi
  have hx := C.1.1
  have hb := C.1.2.1
  intro n_
  induction n_ with
  | zero => intro S x1 H locs ls hP hS hl h; exact h.elim
  | succ n_ ih =>
    intro S x1 H locs ls hP hS hl h
    rw [q_X9_copyState_2_s] at h
    refine lv_iload_n hx hb dX9_copyState_2 rfl (lv_at hl 1 rfl) ?_
    refine lv_bipush (v := (nI 45)) hx hb dX9_copyState_3 (by decide) ?_
    refine lv_icmp_ge (tgt := 26) hx hb dX9_copyState_5 (by decide) (fun c_1 => ?_) (fun c_1 => ?_)
    · have h := h.1 c_1
      exact s_rv C hP hS h dX9_copyState_26
    · have h := h.2 c_1
      refine lv_aload_n hx hb dX9_copyState_8 rfl (lv_at hl 0 rfl) ?_
      refine s_gR g C hP 0 19 6 (by decide) rfl rfl cfX9 (by decide) kFL_X9_29 dX9_copyState_9 ?_
      refine lv_iload_n hx hb dX9_copyState_12 rfl (lv_at hl 1 rfl) ?_
      refine lv_aload_n hx hb dX9_copyState_13 rfl (lv_at hl 0 rfl) ?_
      refine s_gR g C hP 0 20 7 (by decide) rfl rfl cfX9 (by decide) kFL_X9_32 dX9_copyState_14 ?_
      refine lv_iload_n hx hb dX9_copyState_17 rfl (lv_at hl 1 rfl) ?_
      have hv_2 := h.1
      have h := h.2
      refine s_aI g C hP 7 (by decide) rfl hv_2 dX9_copyState_18 ?_
      have hv_3 := h.1
      have h := h.2
      refine s_stI g C hP hS 6 (by decide) rfl hv_3 dX9_copyState_19 (fun H locs hP hS => ?_)
      obtain ⟨S_4, eS_4⟩ : ∃ z_ : St, z_ = sI S 6 x1.toNatClampNeg (S.1 7 x1.toNatClampNeg) := ⟨_, rfl⟩
      rw [← eS_4] at hP
      have h := h S_4 eS_4
      obtain ⟨x1_5, ex1_5⟩ : ∃ y_ : Int32, y_ = x1 + (nI 1) := ⟨_, rfl⟩
      have h := h x1_5 ex1_5
      refine lv_iinc (v := x1_5) (lv' := [(1, .int x1_5), (0, .ref (Z.2.2.1 0))]) hx hb dX9_copyState_20 hl (k := 1) rfl (by rw [ex1_5]; rfl) (by decide) rfl (fun ls hl => ?_)
      refine lv_goto (tgt := 2) hx hb dX9_copyState_23 (by decide) ?_
      exact ih _ _ _ _ _ hP hS (lv_sub hl [1, 0] rfl) h
def q_X9_copyState (S : St) (k : St → Prop) : Prop := ∃ f_2, q_X9_copyState_2 k f_2 S (nI 0)
set_option maxRecDepth 100000 in
set_option maxHeartbeats 4000000 in
theorem c_X9_copyState {l : Launch} {Z : ZT} (hi : injZ 10 Z) (S : St) (k : St → Prop) (h : q_X9_copyState S k) : Mv l shM 10 Z (gM Z) yX9_copyState cX9_copyState 2 none (rmk 0 0) [.ref (Z.2.2.1 0)] S k := by
  have g := gokM hi
  refine e_v (by decide) (Nat.le_of_ble_eq_true rfl) (lv := [(0, .ref (Z.2.2.1 0))]) rfl (fun p e s m args below meth c C hP hS ls hl => ?_)
  have hx := C.1.1
  have hb := C.1.2.1
  unfold q_X9_copyState at h
  refine lv_iconst (v := (nI 0)) hx hb dX9_copyState_0 (by decide) ?_
  refine lv_istore_n (lv' := [(1, .int (nI 0)), (0, .ref (Z.2.2.1 0))]) hx hb dX9_copyState_1 rfl hl (by decide) rfl (fun ls hl => ?_)
  obtain ⟨f_2, h⟩ := h
  exact b_X9_copyState_2 hi C  f_2 _ _ _ _ _ hP hS (lv_sub hl [1, 0] rfl) h
def q_X9_bestOf_131 (a1 : Int32) (k : Int32 → St → Prop) (e_32 : St → Int32 → Int32 → Int32 → Prop) (S : St) (x2 : Int32) (x3 : Int32) (x4 : Int32) (t0 : Int32) : Prop := ∀ S_1 : St, S_1 = sI S 0 23 t0 → (∀ x4_2 : Int32, x4_2 = x4 + (nI 1) → (e_32 S_1 x2 x3 x4_2))
set_option maxRecDepth 100000 in
set_option maxHeartbeats 4000000 in
theorem b_X9_bestOf_131 {p : Program} {l : Launch} {e : Env} {s : State} {m : MethodId} {args : Array Value} {below : List Frame} {meth : Method} {c : Code} {Z : ZT} (hi : injZ 10 Z) (C : Cxt (gM Z) p s m meth c args yX9_bestOf cX9_bestOf 7 (Option.some .int)) {a1 : Int32} {k : Int32 → St → Prop} {e_32 : St → Int32 → Int32 → Int32 → Prop}  (he_32 : ∀ (S : St) (x2 : Int32) (x3 : Int32) (x4 : Int32) (H : Heap) (locs : List Loc) (ls : Array Slot), va_P Z.1 vwCl (wl shM 10 Z S) H → va_S (aa 10 Z) s.heap H locs → lv_has ls 7 [(0, .ref (Z.2.2.1 0)), (1, .int a1), (2, .int x2), (3, .int x3), (4, .int x4)] → e_32 S x2 x3 x4 → W p l e (rmk 4 97) s m args below meth c H locs 0 0 (Qi below shM 10 Z args s k) (F0 m 32 ls [])) (S : St) (x2 : Int32) (x3 : Int32) (x4 : Int32) (t0 : Int32) (H : Heap) (locs : List Loc) (ls : Array Slot) (hP : va_P Z.1 vwCl (wl shM 10 Z S) H) (hS : va_S (aa 10 Z) s.heap H locs) (hl : lv_has ls 7 [(0, .ref (Z.2.2.1 0)), (1, .int a1), (2, .int x2), (3, .int x3), (4, .int x4)]) (h : q_X9_bestOf_131 a1 k e_32 S x2 x3 x4 t0) : W p l e (rmk 4 97) s m args below meth c H locs 0 0 (Qi below shM 10 Z args s k) (F0 m 131 ls [.int t0, .ref (Z.2.2.1 0)]) := by
  have g := gokM hi
  have hx := C.1.1
  have hb := C.1.2.1
  unfold q_X9_bestOf_131 at h
  refine s_pI g C hP hS 0 23 (by decide) rfl rfl cfX9 (by decide) rfl rfl rfl kFL_X9_213 dX9_bestOf_131 (fun H locs hP hS => ?_)
  obtain ⟨S_1, eS_1⟩ : ∃ z_ : St, z_ = sI S 0 23 t0 := ⟨_, rfl⟩
  rw [← eS_1] at hP
  have h := h S_1 eS_1
  obtain ⟨x4_2, ex4_2⟩ : ∃ y_ : Int32, y_ = x4 + (nI 1) := ⟨_, rfl⟩
  have h := h x4_2 ex4_2
  refine lv_iinc (v := x4_2) (lv' := [(4, .int x4_2), (0, .ref (Z.2.2.1 0)), (1, .int a1), (2, .int x2), (3, .int x3)]) hx hb dX9_bestOf_134 hl (k := 4) rfl (by rw [ex4_2]; rfl) (by decide) rfl (fun ls hl => ?_)
  refine lv_goto (tgt := 32) hx hb dX9_bestOf_137 (by decide) ?_
  exact he_32 _ _ _ _ _ _ _ hP hS (lv_sub hl [1, 2, 3, 4, 0] rfl) h
def q_X9_bestOf_111 (a1 : Int32) (k : Int32 → St → Prop) (e_32 : St → Int32 → Int32 → Int32 → Prop) (S : St) (x2 : Int32) (x4 : Int32) (x6 : Int32) (t0 : Int32) : Prop := (x6 ≤ (S.1 0 23) → (q_X9_bestOf_131 a1 k e_32 S x2 t0 x4 (S.1 0 23))) ∧ (¬ x6 ≤ (S.1 0 23) → (q_X9_bestOf_131 a1 k e_32 S x2 t0 x4 x6))
set_option maxRecDepth 100000 in
set_option maxHeartbeats 4000000 in
theorem b_X9_bestOf_111 {p : Program} {l : Launch} {e : Env} {s : State} {m : MethodId} {args : Array Value} {below : List Frame} {meth : Method} {c : Code} {Z : ZT} (hi : injZ 10 Z) (C : Cxt (gM Z) p s m meth c args yX9_bestOf cX9_bestOf 7 (Option.some .int)) {a1 : Int32} {k : Int32 → St → Prop} {e_32 : St → Int32 → Int32 → Int32 → Prop}  (he_32 : ∀ (S : St) (x2 : Int32) (x3 : Int32) (x4 : Int32) (H : Heap) (locs : List Loc) (ls : Array Slot), va_P Z.1 vwCl (wl shM 10 Z S) H → va_S (aa 10 Z) s.heap H locs → lv_has ls 7 [(0, .ref (Z.2.2.1 0)), (1, .int a1), (2, .int x2), (3, .int x3), (4, .int x4)] → e_32 S x2 x3 x4 → W p l e (rmk 4 97) s m args below meth c H locs 0 0 (Qi below shM 10 Z args s k) (F0 m 32 ls [])) (S : St) (x2 : Int32) (x4 : Int32) (x6 : Int32) (t0 : Int32) (H : Heap) (locs : List Loc) (ls : Array Slot) (hP : va_P Z.1 vwCl (wl shM 10 Z S) H) (hS : va_S (aa 10 Z) s.heap H locs) (hl : lv_has ls 7 [(0, .ref (Z.2.2.1 0)), (1, .int a1), (2, .int x2), (4, .int x4), (6, .int x6)]) (h : q_X9_bestOf_111 a1 k e_32 S x2 x4 x6 t0) : W p l e (rmk 4 97) s m args below meth c H locs 0 0 (Qi below shM 10 Z args s k) (F0 m 111 ls [.int t0]) := by
  have g := gokM hi
  have hx := C.1.1
  have hb := C.1.2.1
  unfold q_X9_bestOf_111 at h
  refine lv_istore_n (lv' := [(3, .int t0), (0, .ref (Z.2.2.1 0)), (1, .int a1), (2, .int x2), (4, .int x4), (6, .int x6)]) hx hb dX9_bestOf_111 rfl hl (by decide) rfl (fun ls hl => ?_)
  refine lv_aload_n hx hb dX9_bestOf_112 rfl (lv_at hl 1 rfl) ?_
  refine lv_iload hx hb dX9_bestOf_113 (lv_at hl 5 rfl) ?_
  refine lv_aload_n hx hb dX9_bestOf_115 rfl (lv_at hl 1 rfl) ?_
  refine s_gI g C hP 0 23 (by decide) rfl rfl cfX9 (by decide) kFL_X9_213 dX9_bestOf_116 ?_
  refine lv_icmp_le (tgt := 127) hx hb dX9_bestOf_119 (by decide) (fun c_1 => ?_) (fun c_1 => ?_)
  · have h := h.1 c_1
    refine lv_aload_n hx hb dX9_bestOf_127 rfl (lv_at hl 1 rfl) ?_
    refine s_gI g C hP 0 23 (by decide) rfl rfl cfX9 (by decide) kFL_X9_213 dX9_bestOf_128 ?_
    exact b_X9_bestOf_131 hi C he_32 _ _ _ _ _ _ _ _ hP hS (lv_sub hl [1, 2, 3, 0, 4] rfl) h
  · have h := h.2 c_1
    refine lv_iload hx hb dX9_bestOf_122 (lv_at hl 5 rfl) ?_
    refine lv_goto (tgt := 131) hx hb dX9_bestOf_124 (by decide) ?_
    exact b_X9_bestOf_131 hi C he_32 _ _ _ _ _ _ _ _ hP hS (lv_sub hl [1, 2, 3, 0, 4] rfl) h
def q_X9_bestOf_87 (a1 : Int32) (k : Int32 → St → Prop) (e_32 : St → Int32 → Int32 → Int32 → Prop) (S : St) (x2 : Int32) (x3 : Int32) (x4 : Int32) (x5 : Int32) : Prop := q_X9_caught S (fun r_1 => (∀ x6_2 : Int32, x6_2 = (r_1 - x5) → ((x6_2 ≤ (S.1 0 23) → (q_X9_bestOf_111 a1 k e_32 S x2 x4 x6_2 x3)) ∧ (¬ x6_2 ≤ (S.1 0 23) → (q_X9_bestOf_111 a1 k e_32 S x2 x4 x6_2 x4)))))
set_option maxRecDepth 100000 in
set_option maxHeartbeats 4000000 in
theorem b_X9_bestOf_87 {p : Program} {l : Launch} {e : Env} {s : State} {m : MethodId} {args : Array Value} {below : List Frame} {meth : Method} {c : Code} {Z : ZT} (hi : injZ 10 Z) (C : Cxt (gM Z) p s m meth c args yX9_bestOf cX9_bestOf 7 (Option.some .int)) {a1 : Int32} {k : Int32 → St → Prop} {e_32 : St → Int32 → Int32 → Int32 → Prop}  (he_32 : ∀ (S : St) (x2 : Int32) (x3 : Int32) (x4 : Int32) (H : Heap) (locs : List Loc) (ls : Array Slot), va_P Z.1 vwCl (wl shM 10 Z S) H → va_S (aa 10 Z) s.heap H locs → lv_has ls 7 [(0, .ref (Z.2.2.1 0)), (1, .int a1), (2, .int x2), (3, .int x3), (4, .int x4)] → e_32 S x2 x3 x4 → W p l e (rmk 4 97) s m args below meth c H locs 0 0 (Qi below shM 10 Z args s k) (F0 m 32 ls [])) (S : St) (x2 : Int32) (x3 : Int32) (x4 : Int32) (x5 : Int32) (H : Heap) (locs : List Loc) (ls : Array Slot) (hP : va_P Z.1 vwCl (wl shM 10 Z S) H) (hS : va_S (aa 10 Z) s.heap H locs) (hl : lv_has ls 7 [(0, .ref (Z.2.2.1 0)), (1, .int a1), (2, .int x2), (3, .int x3), (4, .int x4), (5, .int x5)]) (h : q_X9_bestOf_87 a1 k e_32 S x2 x3 x4 x5) : W p l e (rmk 4 97) s m args below meth c H locs 0 0 (Qi below shM 10 Z args s k) (F0 m 87 ls []) := by
  have g := gokM hi
  have hx := C.1.1
  have hb := C.1.2.1
  unfold q_X9_bestOf_87 at h
  refine lv_aload_n hx hb dX9_bestOf_87 rfl (lv_at hl 0 rfl) ?_
  refine go_ip (run_V g C hP hS (c0 := 0) (As := []) (rest := []) (c_X9_caught hi S _ h) cal_X9_caught kML_X9_222 (by decide) rfl cfX9 ⟨rfl, rfl, Nat.le_of_ble_eq_true rfl, Nat.le_of_ble_eq_true rfl⟩ rfl rfl hl.1 (Nat.le_of_ble_eq_true rfl) dX9_bestOf_88) hS (fun r_1 H locs h hP hS => ?_)
  refine lv_iload hx hb dX9_bestOf_91 (lv_at hl 5 rfl) ?_
  refine lv_isub hx hb dX9_bestOf_93 ?_
  refine lv_topi (fun x6_2 ex6_2 => ?_)
  have h := h x6_2 ex6_2
  refine lv_istore (lv' := [(6, .int x6_2), (0, .ref (Z.2.2.1 0)), (1, .int a1), (2, .int x2), (3, .int x3), (4, .int x4), (5, .int x5)]) hx hb dX9_bestOf_94 hl (by decide) rfl (fun ls hl => ?_)
  refine lv_iload hx hb dX9_bestOf_96 (lv_at hl 0 rfl) ?_
  refine lv_aload_n hx hb dX9_bestOf_98 rfl (lv_at hl 1 rfl) ?_
  refine s_gI g C hP 0 23 (by decide) rfl rfl cfX9 (by decide) kFL_X9_213 dX9_bestOf_99 ?_
  refine lv_icmp_le (tgt := 110) hx hb dX9_bestOf_102 (by decide) (fun c_3 => ?_) (fun c_3 => ?_)
  · have h := h.1 c_3
    refine lv_iload_n hx hb dX9_bestOf_110 rfl (lv_at hl 4 rfl) ?_
    exact b_X9_bestOf_111 hi C he_32 _ _ _ _ _ _ _ _ hP hS (lv_sub hl [1, 2, 3, 5, 0] rfl) h
  · have h := h.2 c_3
    refine lv_iload hx hb dX9_bestOf_105 (lv_at hl 5 rfl) ?_
    refine lv_goto (tgt := 111) hx hb dX9_bestOf_107 (by decide) ?_
    exact b_X9_bestOf_111 hi C he_32 _ _ _ _ _ _ _ _ hP hS (lv_sub hl [1, 2, 3, 5, 0] rfl) h
def q_X9_bestOf_65 (a1 : Int32) (k : Int32 → St → Prop) (e_32 : St → Int32 → Int32 → Int32 → Prop) : Nat → St → Int32 → Int32 → Int32 → Int32 → Prop := fun n_ => Nat.rec (motive := fun _ => St → Int32 → Int32 → Int32 → Int32 → Prop) (fun _ _ _ _ _ => False) (fun _ ih => fun S x2 x3 x4 x5 => ((nI 12) ≤ (S.1 6 (nI 0).toNatClampNeg) → (q_X9_bestOf_87 a1 k e_32 S x2 x3 x4 x5)) ∧ (¬ (nI 12) ≤ (S.1 6 (nI 0).toNatClampNeg) → (q_X9_goHour S (fun S_2 => (ih S_2 x2 x3 x4 x5))))) n_
theorem q_X9_bestOf_65_s (a1 : Int32) (k : Int32 → St → Prop) (e_32 : St → Int32 → Int32 → Int32 → Prop) (n_ : Nat) (S : St) (x2 : Int32) (x3 : Int32) (x4 : Int32) (x5 : Int32) : q_X9_bestOf_65 a1 k e_32 (n_ + 1) S x2 x3 x4 x5 = (((nI 12) ≤ (S.1 6 (nI 0).toNatClampNeg) → (q_X9_bestOf_87 a1 k e_32 S x2 x3 x4 x5)) ∧ (¬ (nI 12) ≤ (S.1 6 (nI 0).toNatClampNeg) → (q_X9_goHour S (fun S_2 => ((q_X9_bestOf_65 a1 k e_32 n_) S_2 x2 x3 x4 x5))))) := rfl
set_option maxRecDepth 100000 in
set_option maxHeartbeats 4000000 in
theorem b_X9_bestOf_65 {p : Program} {l : Launch} {e : Env} {s : State} {m : MethodId} {args : Array Value} {below : List Frame} {meth : Method} {c : Code} {Z : ZT} (hi : injZ 10 Z) (C : Cxt (gM Z) p s m meth c args yX9_bestOf cX9_bestOf 7 (Option.some .int)) {a1 : Int32} {k : Int32 → St → Prop} {e_32 : St → Int32 → Int32 → Int32 → Prop}  (he_32 : ∀ (S : St) (x2 : Int32) (x3 : Int32) (x4 : Int32) (H : Heap) (locs : List Loc) (ls : Array Slot), va_P Z.1 vwCl (wl shM 10 Z S) H → va_S (aa 10 Z) s.heap H locs → lv_has ls 7 [(0, .ref (Z.2.2.1 0)), (1, .int a1), (2, .int x2), (3, .int x3), (4, .int x4)] → e_32 S x2 x3 x4 → W p l e (rmk 4 97) s m args below meth c H locs 0 0 (Qi below shM 10 Z args s k) (F0 m 32 ls [])) : ∀ (n_ : Nat) (S : St) (x2 : Int32) (x3 : Int32) (x4 : Int32) (x5 : Int32) (H : Heap) (locs : List Loc) (ls : Array Slot), va_P Z.1 vwCl (wl shM 10 Z S) H → va_S (aa 10 Z) s.heap H locs → lv_has ls 7 [(0, .ref (Z.2.2.1 0)), (1, .int a1), (2, .int x2), (3, .int x3), (4, .int x4), (5, .int x5)] → q_X9_bestOf_65 a1 k e_32 n_ S x2 x3 x4 x5 → W p l e (rmk 4 97) s m args below meth c H locs 0 0 (Qi below shM 10 Z args s k) (F0 m 65 ls []) := by
  have g := gokM hi
  have hx := C.1.1
  have hb := C.1.2.1
  intro n_
  induction n_ with
  | zero => intro S x2 x3 x4 x5 H locs ls hP hS hl h; exact h.elim
  | succ n_ ih =>
    intro S x2 x3 x4 x5 H locs ls hP hS hl h
    rw [q_X9_bestOf_65_s] at h
    refine lv_aload_n hx hb dX9_bestOf_65 rfl (lv_at hl 0 rfl) ?_
    refine s_gR g C hP 0 19 6 (by decide) rfl rfl cfX9 (by decide) kFL_X9_29 dX9_bestOf_66 ?_
    refine lv_iconst (v := (nI 0)) hx hb dX9_bestOf_69 (by decide) ?_
    refine s_aI g C hP 6 (by decide) rfl (vinL (by decide +kernel)) dX9_bestOf_70 ?_
    refine lv_bipush (v := (nI 12)) hx hb dX9_bestOf_71 (by decide) ?_
    refine lv_icmp_ge (tgt := 87) hx hb dX9_bestOf_73 (by decide) (fun c_1 => ?_) (fun c_1 => ?_)
    · have h := h.1 c_1
      exact b_X9_bestOf_87 hi C he_32 _ _ _ _ _ _ _ _ hP hS (lv_sub hl [0, 1, 2, 3, 4, 5] rfl) h
    · have h := h.2 c_1
      refine lv_aload_n hx hb dX9_bestOf_76 rfl (lv_at hl 0 rfl) ?_
      refine go_v (run_V g C hP hS (c0 := 0) (As := []) (rest := []) (c_X9_goHour hi S _ h) cal_X9_goHour kML_X9_202 (by decide) rfl cfX9 ⟨rfl, rfl, Nat.le_of_ble_eq_true rfl, Nat.le_of_ble_eq_true rfl⟩ rfl rfl hl.1 (Nat.le_of_ble_eq_true rfl) dX9_bestOf_77) hS (fun S_2 H locs h hP hS => ?_)
      refine lv_goto (tgt := 65) hx hb dX9_bestOf_80 (by decide) ?_
      exact ih _ _ _ _ _ _ _ _ hP hS (lv_sub hl [0, 1, 2, 3, 4, 5] rfl) h
def q_X9_bestOf_32 (a1 : Int32) (k : Int32 → St → Prop) : Nat → St → Int32 → Int32 → Int32 → Prop := fun n_ => Nat.rec (motive := fun _ => St → Int32 → Int32 → Int32 → Prop) (fun _ _ _ _ => False) (fun _ ih => fun S x2 x3 x4 => (x2 ≤ x4 → (q_X9_copy 7 1197 6 1197 S (nI 0) (nI 0) (fun S_2 => (k x3 S_2)))) ∧ (¬ x2 ≤ x4 → (q_X9_copyState S (fun S_3 => (q_X9_askAll S_3 x4 (fun S_4 => (q_X9_caught S_4 (fun r_5 => ((a1 = (nI 0) → (q_X9_goHour S_4 (fun S_7 => (q_X9_bestOf_87 a1 k ih S_7 x2 x3 x4 r_5)))) ∧ (¬ a1 = (nI 0) → (q_X9_anew S_4 (fun S_8 => (∃ f_65, q_X9_bestOf_65 a1 k ih f_65 S_8 x2 x3 x4 (nI 0)))))))))))))) n_
theorem q_X9_bestOf_32_s (a1 : Int32) (k : Int32 → St → Prop) (n_ : Nat) (S : St) (x2 : Int32) (x3 : Int32) (x4 : Int32) : q_X9_bestOf_32 a1 k (n_ + 1) S x2 x3 x4 = ((x2 ≤ x4 → (q_X9_copy 7 1197 6 1197 S (nI 0) (nI 0) (fun S_2 => (k x3 S_2)))) ∧ (¬ x2 ≤ x4 → (q_X9_copyState S (fun S_3 => (q_X9_askAll S_3 x4 (fun S_4 => (q_X9_caught S_4 (fun r_5 => ((a1 = (nI 0) → (q_X9_goHour S_4 (fun S_7 => (q_X9_bestOf_87 a1 k (q_X9_bestOf_32 a1 k n_) S_7 x2 x3 x4 r_5)))) ∧ (¬ a1 = (nI 0) → (q_X9_anew S_4 (fun S_8 => (∃ f_65, q_X9_bestOf_65 a1 k (q_X9_bestOf_32 a1 k n_) f_65 S_8 x2 x3 x4 (nI 0)))))))))))))) := rfl
set_option maxRecDepth 100000 in
set_option maxHeartbeats 4000000 in
theorem b_X9_bestOf_32 {p : Program} {l : Launch} {e : Env} {s : State} {m : MethodId} {args : Array Value} {below : List Frame} {meth : Method} {c : Code} {Z : ZT} (hi : injZ 10 Z) (C : Cxt (gM Z) p s m meth c args yX9_bestOf cX9_bestOf 7 (Option.some .int)) {a1 : Int32} {k : Int32 → St → Prop}   : ∀ (n_ : Nat) (S : St) (x2 : Int32) (x3 : Int32) (x4 : Int32) (H : Heap) (locs : List Loc) (ls : Array Slot), va_P Z.1 vwCl (wl shM 10 Z S) H → va_S (aa 10 Z) s.heap H locs → lv_has ls 7 [(0, .ref (Z.2.2.1 0)), (1, .int a1), (2, .int x2), (3, .int x3), (4, .int x4)] → q_X9_bestOf_32 a1 k n_ S x2 x3 x4 → W p l e (rmk 4 97) s m args below meth c H locs 0 0 (Qi below shM 10 Z args s k) (F0 m 32 ls []) := by
  have g := gokM hi
  have hx := C.1.1
  have hb := C.1.2.1
  intro n_
  induction n_ with
  | zero => intro S x2 x3 x4 H locs ls hP hS hl h; exact h.elim
  | succ n_ ih =>
    intro S x2 x3 x4 H locs ls hP hS hl h
    rw [q_X9_bestOf_32_s] at h
    refine lv_iload hx hb dX9_bestOf_32 (lv_at hl 4 rfl) ?_
    refine lv_iload_n hx hb dX9_bestOf_34 rfl (lv_at hl 2 rfl) ?_
    refine lv_icmp_ge (tgt := 140) hx hb dX9_bestOf_35 (by decide) (fun c_1 => ?_) (fun c_1 => ?_)
    · have h := h.1 c_1
      refine lv_aload_n hx hb dX9_bestOf_140 rfl (lv_at hl 0 rfl) ?_
      refine s_gR g C hP 0 20 7 (by decide) rfl rfl cfX9 (by decide) kFL_X9_32 dX9_bestOf_141 ?_
      refine lv_iconst (v := (nI 0)) hx hb dX9_bestOf_144 (by decide) ?_
      refine lv_aload_n hx hb dX9_bestOf_145 rfl (lv_at hl 0 rfl) ?_
      refine s_gR g C hP 0 19 6 (by decide) rfl rfl cfX9 (by decide) kFL_X9_29 dX9_bestOf_146 ?_
      refine lv_iconst (v := (nI 0)) hx hb dX9_bestOf_149 (by decide) ?_
      refine go_v (run_S g C hP hS (As := [.ref (Z.2.2.1 7), .int (nI 0), .ref (Z.2.2.1 6), .int (nI 0)]) (rest := []) (c_X9_copy hi 7 1197 6 1197 ⟨(by decide), rfl⟩ ⟨(by decide), rfl⟩ S (nI 0) (nI 0) _ h) cal_X9_copy kML_X9_205 ⟨rfl, rfl, Nat.le_of_ble_eq_true rfl, Nat.le_of_ble_eq_true rfl⟩ rfl rfl hl.1 (Nat.le_of_ble_eq_true rfl) dX9_bestOf_150) hS (fun S_2 H locs h hP hS => ?_)
      refine lv_iload_n hx hb dX9_bestOf_153 rfl (lv_at hl 3 rfl) ?_
      exact s_ri C hP hS h dX9_bestOf_154
    · have h := h.2 c_1
      refine lv_aload_n hx hb dX9_bestOf_38 rfl (lv_at hl 0 rfl) ?_
      refine go_v (run_V g C hP hS (c0 := 0) (As := []) (rest := []) (c_X9_copyState hi S _ h) cal_X9_copyState kML_X9_216 (by decide) rfl cfX9 ⟨rfl, rfl, Nat.le_of_ble_eq_true rfl, Nat.le_of_ble_eq_true rfl⟩ rfl rfl hl.1 (Nat.le_of_ble_eq_true rfl) dX9_bestOf_39) hS (fun S_3 H locs h hP hS => ?_)
      refine lv_aload_n hx hb dX9_bestOf_42 rfl (lv_at hl 0 rfl) ?_
      refine lv_iload hx hb dX9_bestOf_43 (lv_at hl 4 rfl) ?_
      refine go_v (run_V g C hP hS (c0 := 0) (As := [.int x4]) (rest := []) (c_X9_askAll hi S_3 x4 _ h) cal_X9_askAll kML_X9_219 (by decide) rfl cfX9 ⟨rfl, rfl, Nat.le_of_ble_eq_true rfl, Nat.le_of_ble_eq_true rfl⟩ rfl rfl hl.1 (Nat.le_of_ble_eq_true rfl) dX9_bestOf_45) hS (fun S_4 H locs h hP hS => ?_)
      refine lv_aload_n hx hb dX9_bestOf_48 rfl (lv_at hl 0 rfl) ?_
      refine go_ip (run_V g C hP hS (c0 := 0) (As := []) (rest := []) (c_X9_caught hi S_4 _ h) cal_X9_caught kML_X9_222 (by decide) rfl cfX9 ⟨rfl, rfl, Nat.le_of_ble_eq_true rfl, Nat.le_of_ble_eq_true rfl⟩ rfl rfl hl.1 (Nat.le_of_ble_eq_true rfl) dX9_bestOf_49) hS (fun r_5 H locs h hP hS => ?_)
      refine lv_istore (lv' := [(5, .int r_5), (0, .ref (Z.2.2.1 0)), (1, .int a1), (2, .int x2), (3, .int x3), (4, .int x4)]) hx hb dX9_bestOf_52 hl (by decide) rfl (fun ls hl => ?_)
      refine lv_iload_n hx hb dX9_bestOf_54 rfl (lv_at hl 2 rfl) ?_
      refine lv_if_eq (tgt := 83) hx hb dX9_bestOf_55 (by decide) (fun c_6 => ?_) (fun c_6 => ?_)
      · have h := h.1 c_6
        refine lv_aload_n hx hb dX9_bestOf_83 rfl (lv_at hl 1 rfl) ?_
        refine go_v (run_V g C hP hS (c0 := 0) (As := []) (rest := []) (c_X9_goHour hi S_4 _ h) cal_X9_goHour kML_X9_202 (by decide) rfl cfX9 ⟨rfl, rfl, Nat.le_of_ble_eq_true rfl, Nat.le_of_ble_eq_true rfl⟩ rfl rfl hl.1 (Nat.le_of_ble_eq_true rfl) dX9_bestOf_84) hS (fun S_7 H locs h hP hS => ?_)
        exact b_X9_bestOf_87 hi C ih _ _ _ _ _ _ _ _ hP hS (lv_sub hl [1, 2, 3, 4, 5, 0] rfl) h
      · have h := h.2 c_6
        refine lv_aload_n hx hb dX9_bestOf_58 rfl (lv_at hl 1 rfl) ?_
        refine go_v (run_V g C hP hS (c0 := 0) (As := []) (rest := []) (c_X9_anew hi S_4 _ h) cal_X9_anew kML_X9_158 (by decide) rfl cfX9 ⟨rfl, rfl, Nat.le_of_ble_eq_true rfl, Nat.le_of_ble_eq_true rfl⟩ rfl rfl hl.1 (Nat.le_of_ble_eq_true rfl) dX9_bestOf_59) hS (fun S_8 H locs h hP hS => ?_)
        refine lv_iconst (v := (nI 0)) hx hb dX9_bestOf_62 (by decide) ?_
        refine lv_istore (lv' := [(5, .int (nI 0)), (0, .ref (Z.2.2.1 0)), (1, .int a1), (2, .int x2), (3, .int x3), (4, .int x4)]) hx hb dX9_bestOf_63 hl (by decide) rfl (fun ls hl => ?_)
        obtain ⟨f_65, h⟩ := h
        exact b_X9_bestOf_65 hi C ih f_65 _ _ _ _ _ _ _ _ hP hS (lv_sub hl [1, 2, 3, 4, 5, 0] rfl) h
def q_X9_bestOf (S : St) (a1 : Int32) (k : Int32 → St → Prop) : Prop := q_X9_toldMany S (fun r_1 => (∀ x2_2 : Int32, x2_2 = ((nI 1) <<< (((nI 2) * r_1) &&& 31)) → (∀ S_3 : St, S_3 = sI S 0 23 (-1 : Int32) → (q_X9_copy 6 1197 7 1197 S_3 (nI 0) (nI 0) (fun S_4 => (∃ f_32, q_X9_bestOf_32 a1 k f_32 S_4 x2_2 (-1 : Int32) (nI 0)))))))
set_option maxRecDepth 100000 in
set_option maxHeartbeats 4000000 in
theorem c_X9_bestOf {l : Launch} {Z : ZT} (hi : injZ 10 Z) (S : St) (a1 : Int32) (k : Int32 → St → Prop) (h : q_X9_bestOf S a1 k) : Mi l shM 10 Z (gM Z) yX9_bestOf cX9_bestOf 7 (Option.some .int) (rmk 4 97) [.ref (Z.2.2.1 0), .int a1] S k := by
  have g := gokM hi
  refine e_i (by decide) (Nat.le_of_ble_eq_true rfl) (lv := [(0, .ref (Z.2.2.1 0)), (1, .int a1)]) rfl (fun p e s m args below meth c C hP hS ls hl => ?_)
  have hx := C.1.1
  have hb := C.1.2.1
  unfold q_X9_bestOf at h
  refine lv_iconst (v := (nI 1)) hx hb dX9_bestOf_0 (by decide) ?_
  refine lv_iconst (v := (nI 2)) hx hb dX9_bestOf_1 (by decide) ?_
  refine lv_aload_n hx hb dX9_bestOf_2 rfl (lv_at hl 0 rfl) ?_
  refine go_ip (run_V g C hP hS (c0 := 0) (As := []) (rest := [.int (nI 2), .int (nI 1)]) (c_X9_toldMany hi S _ h) cal_X9_toldMany kML_X9_209 (by decide) rfl cfX9 ⟨rfl, rfl, Nat.le_of_ble_eq_true rfl, Nat.le_of_ble_eq_true rfl⟩ rfl rfl hl.1 (Nat.le_of_ble_eq_true rfl) dX9_bestOf_3) hS (fun r_1 H locs h hP hS => ?_)
  refine lv_imul hx hb dX9_bestOf_6 ?_
  refine lv_ishl hx hb dX9_bestOf_7 ?_
  refine lv_topi (fun x2_2 ex2_2 => ?_)
  have h := h x2_2 ex2_2
  refine lv_istore_n (lv' := [(2, .int x2_2), (0, .ref (Z.2.2.1 0)), (1, .int a1)]) hx hb dX9_bestOf_8 rfl hl (by decide) rfl (fun ls hl => ?_)
  refine lv_iconst (v := (-1 : Int32)) hx hb dX9_bestOf_9 (by decide) ?_
  refine lv_istore_n (lv' := [(3, .int (-1 : Int32)), (2, .int x2_2), (0, .ref (Z.2.2.1 0)), (1, .int a1)]) hx hb dX9_bestOf_10 rfl hl (by decide) rfl (fun ls hl => ?_)
  refine lv_aload_n hx hb dX9_bestOf_11 rfl (lv_at hl 2 rfl) ?_
  refine lv_iconst (v := (-1 : Int32)) hx hb dX9_bestOf_12 (by decide) ?_
  refine s_pI g C hP hS 0 23 (by decide) rfl rfl cfX9 (by decide) rfl rfl rfl kFL_X9_213 dX9_bestOf_13 (fun H locs hP hS => ?_)
  obtain ⟨S_3, eS_3⟩ : ∃ z_ : St, z_ = sI S 0 23 (-1 : Int32) := ⟨_, rfl⟩
  rw [← eS_3] at hP
  have h := h S_3 eS_3
  refine lv_aload_n hx hb dX9_bestOf_16 rfl (lv_at hl 2 rfl) ?_
  refine s_gR g C hP 0 19 6 (by decide) rfl rfl cfX9 (by decide) kFL_X9_29 dX9_bestOf_17 ?_
  refine lv_iconst (v := (nI 0)) hx hb dX9_bestOf_20 (by decide) ?_
  refine lv_aload_n hx hb dX9_bestOf_21 rfl (lv_at hl 2 rfl) ?_
  refine s_gR g C hP 0 20 7 (by decide) rfl rfl cfX9 (by decide) kFL_X9_32 dX9_bestOf_22 ?_
  refine lv_iconst (v := (nI 0)) hx hb dX9_bestOf_25 (by decide) ?_
  refine go_v (run_S g C hP hS (As := [.ref (Z.2.2.1 6), .int (nI 0), .ref (Z.2.2.1 7), .int (nI 0)]) (rest := []) (c_X9_copy hi 6 1197 7 1197 ⟨(by decide), rfl⟩ ⟨(by decide), rfl⟩ S_3 (nI 0) (nI 0) _ h) cal_X9_copy kML_X9_205 ⟨rfl, rfl, Nat.le_of_ble_eq_true rfl, Nat.le_of_ble_eq_true rfl⟩ rfl rfl hl.1 (Nat.le_of_ble_eq_true rfl) dX9_bestOf_26) hS (fun S_4 H locs h hP hS => ?_)
  refine lv_iconst (v := (nI 0)) hx hb dX9_bestOf_29 (by decide) ?_
  refine lv_istore (lv' := [(4, .int (nI 0)), (3, .int (-1 : Int32)), (2, .int x2_2), (0, .ref (Z.2.2.1 0)), (1, .int a1)]) hx hb dX9_bestOf_30 hl (by decide) rfl (fun ls hl => ?_)
  obtain ⟨f_32, h⟩ := h
  exact b_X9_bestOf_32 hi C  f_32 _ _ _ _ _ _ _ hP hS (lv_sub hl [3, 4, 2, 1, 0] rfl) h
def q_X9_heightIn_32 (a1 : Int32) (a2 : Int32) (S : St) (k : Int32 → Prop) (e_7 : Int32 → Int32 → Prop) (x4 : Int32) (t0 : Int32) (t1 : Int32) : Prop := ∀ x3_1 : Int32, x3_1 = (t1 + t0) → (∀ x4_2 : Int32, x4_2 = x4 + (nI 1) → (e_7 x3_1 x4_2))
set_option maxRecDepth 100000 in
set_option maxHeartbeats 4000000 in
theorem b_X9_heightIn_32 {p : Program} {l : Launch} {e : Env} {s : State} {m : MethodId} {args : Array Value} {below : List Frame} {meth : Method} {c : Code} {Z : ZT} (hi : injZ 10 Z) (C : Cxt (gM Z) p s m meth c args yX9_heightIn cX9_heightIn 5 (Option.some .int)) {a1 : Int32} {a2 : Int32} {S : St} {k : Int32 → Prop} {e_7 : Int32 → Int32 → Prop}  (he_7 : ∀ (x3 : Int32) (x4 : Int32) (H : Heap) (locs : List Loc) (ls : Array Slot), va_P Z.1 vwCl (wl shM 10 Z S) H → va_S (aa 10 Z) s.heap H locs → lv_has ls 5 [(0, .ref (Z.2.2.1 0)), (1, .int a1), (3, .int x3), (4, .int x4)] → e_7 x3 x4 → W p l e (rmk 1 21) s m args below meth c H locs 0 0 (Qi below shM 10 Z args s (fun r S' => S' = S ∧ k r)) (F0 m 7 ls [])) (x4 : Int32) (t0 : Int32) (t1 : Int32) (H : Heap) (locs : List Loc) (ls : Array Slot) (hP : va_P Z.1 vwCl (wl shM 10 Z S) H) (hS : va_S (aa 10 Z) s.heap H locs) (hl : lv_has ls 5 [(0, .ref (Z.2.2.1 0)), (1, .int a1), (4, .int x4)]) (h : q_X9_heightIn_32 a1 a2 S k e_7 x4 t0 t1) : W p l e (rmk 1 21) s m args below meth c H locs 0 0 (Qi below shM 10 Z args s (fun r S' => S' = S ∧ k r)) (F0 m 32 ls [.int t0, .int t1]) := by
  have g := gokM hi
  have hx := C.1.1
  have hb := C.1.2.1
  unfold q_X9_heightIn_32 at h
  refine lv_iadd hx hb dX9_heightIn_32 ?_
  refine lv_topi (fun x3_1 ex3_1 => ?_)
  have h := h x3_1 ex3_1
  refine lv_istore_n (lv' := [(3, .int x3_1), (0, .ref (Z.2.2.1 0)), (1, .int a1), (4, .int x4)]) hx hb dX9_heightIn_33 rfl hl (by decide) rfl (fun ls hl => ?_)
  obtain ⟨x4_2, ex4_2⟩ : ∃ y_ : Int32, y_ = x4 + (nI 1) := ⟨_, rfl⟩
  have h := h x4_2 ex4_2
  refine lv_iinc (v := x4_2) (lv' := [(4, .int x4_2), (3, .int x3_1), (0, .ref (Z.2.2.1 0)), (1, .int a1)]) hx hb dX9_heightIn_34 hl (k := 3) rfl (by rw [ex4_2]; rfl) (by decide) rfl (fun ls hl => ?_)
  refine lv_goto (tgt := 7) hx hb dX9_heightIn_37 (by decide) ?_
  exact he_7 _ _ _ _ _ hP hS (lv_sub hl [2, 3, 1, 0] rfl) h
def q_X9_heightIn_7 (a1 : Int32) (a2 : Int32) (S : St) (k : Int32 → Prop) : Nat → Int32 → Int32 → Prop := fun n_ => Nat.rec (motive := fun _ => Int32 → Int32 → Prop) (fun _ _ => False) (fun _ ih => fun x3 x4 => ((nI 6) ≤ x4 → (k ((a1 >>> (((nI 2) * x3) &&& 31)) &&& (nI 3)))) ∧ (¬ (nI 6) ≤ x4 → (q_X9_has S (S.1 0 1) x4 (fun r_2 => ((r_2 = (nI 0) → (q_X9_heightIn_32 a1 a2 S k ih x4 (nI 0) x3)) ∧ (¬ r_2 = (nI 0) → (q_X9_heightIn_32 a1 a2 S k ih x4 (nI 1) x3))))))) n_
theorem q_X9_heightIn_7_s (a1 : Int32) (a2 : Int32) (S : St) (k : Int32 → Prop) (n_ : Nat) (x3 : Int32) (x4 : Int32) : q_X9_heightIn_7 a1 a2 S k (n_ + 1) x3 x4 = (((nI 6) ≤ x4 → (k ((a1 >>> (((nI 2) * x3) &&& 31)) &&& (nI 3)))) ∧ (¬ (nI 6) ≤ x4 → (q_X9_has S (S.1 0 1) x4 (fun r_2 => ((r_2 = (nI 0) → (q_X9_heightIn_32 a1 a2 S k (q_X9_heightIn_7 a1 a2 S k n_) x4 (nI 0) x3)) ∧ (¬ r_2 = (nI 0) → (q_X9_heightIn_32 a1 a2 S k (q_X9_heightIn_7 a1 a2 S k n_) x4 (nI 1) x3))))))) := rfl
set_option maxRecDepth 100000 in
set_option maxHeartbeats 4000000 in
theorem b_X9_heightIn_7 {p : Program} {l : Launch} {e : Env} {s : State} {m : MethodId} {args : Array Value} {below : List Frame} {meth : Method} {c : Code} {Z : ZT} (hi : injZ 10 Z) (C : Cxt (gM Z) p s m meth c args yX9_heightIn cX9_heightIn 5 (Option.some .int)) {a1 : Int32} {a2 : Int32} {S : St} {k : Int32 → Prop}   : ∀ (n_ : Nat) (x3 : Int32) (x4 : Int32) (H : Heap) (locs : List Loc) (ls : Array Slot), va_P Z.1 vwCl (wl shM 10 Z S) H → va_S (aa 10 Z) s.heap H locs → lv_has ls 5 [(0, .ref (Z.2.2.1 0)), (1, .int a1), (3, .int x3), (4, .int x4)] → q_X9_heightIn_7 a1 a2 S k n_ x3 x4 → W p l e (rmk 1 21) s m args below meth c H locs 0 0 (Qi below shM 10 Z args s (fun r S' => S' = S ∧ k r)) (F0 m 7 ls []) := by
  have g := gokM hi
  have hx := C.1.1
  have hb := C.1.2.1
  intro n_
  induction n_ with
  | zero => intro x3 x4 H locs ls hP hS hl h; exact h.elim
  | succ n_ ih =>
    intro x3 x4 H locs ls hP hS hl h
    rw [q_X9_heightIn_7_s] at h
    refine lv_iload hx hb dX9_heightIn_7 (lv_at hl 3 rfl) ?_
    refine lv_bipush (v := (nI 6)) hx hb dX9_heightIn_9 (by decide) ?_
    refine lv_icmp_ge (tgt := 40) hx hb dX9_heightIn_11 (by decide) (fun c_1 => ?_) (fun c_1 => ?_)
    · have h := h.1 c_1
      refine lv_iload_n hx hb dX9_heightIn_40 rfl (lv_at hl 1 rfl) ?_
      refine lv_iconst (v := (nI 2)) hx hb dX9_heightIn_41 (by decide) ?_
      refine lv_iload_n hx hb dX9_heightIn_42 rfl (lv_at hl 2 rfl) ?_
      refine lv_imul hx hb dX9_heightIn_43 ?_
      refine lv_ishr hx hb dX9_heightIn_44 ?_
      refine lv_iconst (v := (nI 3)) hx hb dX9_heightIn_45 (by decide) ?_
      refine lv_iand hx hb dX9_heightIn_46 ?_
      exact s_ri C hP hS ⟨rfl, h⟩ dX9_heightIn_47
    · have h := h.2 c_1
      refine lv_iload_n hx hb dX9_heightIn_14 rfl (lv_at hl 2 rfl) ?_
      refine lv_aload_n hx hb dX9_heightIn_15 rfl (lv_at hl 0 rfl) ?_
      refine s_gI g C hP 0 1 (by decide) rfl rfl cfX9 (by decide) kFL_X9_49 dX9_heightIn_16 ?_
      refine lv_iload hx hb dX9_heightIn_19 (lv_at hl 3 rfl) ?_
      refine go_ip (run_S g C hP hS (As := [.int (S.1 0 1), .int x4]) (rest := [.int x3]) (c_X9_has hi S (S.1 0 1) x4 _ h) cal_X9_has kML_X9_52 ⟨rfl, rfl, Nat.le_of_ble_eq_true rfl, Nat.le_of_ble_eq_true rfl⟩ rfl rfl hl.1 (Nat.le_of_ble_eq_true rfl) dX9_heightIn_21) hS (fun r_2 H locs h hP hS => ?_)
      obtain ⟨hbr_2, h⟩ := h
      refine lv_if_eq (tgt := 31) hx hb dX9_heightIn_24 (by decide) (fun c_3 => ?_) (fun c_3 => ?_)
      · have h := h.1 c_3
        refine lv_iconst (v := (nI 0)) hx hb dX9_heightIn_31 (by decide) ?_
        exact b_X9_heightIn_32 hi C ih _ _ _ _ _ _ hP hS (lv_sub hl [0, 1, 3] rfl) h
      · have h := h.2 c_3
        refine lv_iconst (v := (nI 1)) hx hb dX9_heightIn_27 (by decide) ?_
        refine lv_goto (tgt := 32) hx hb dX9_heightIn_28 (by decide) ?_
        exact b_X9_heightIn_32 hi C ih _ _ _ _ _ _ hP hS (lv_sub hl [0, 1, 3] rfl) h
def q_X9_heightIn (S : St) (a1 : Int32) (a2 : Int32) (k : Int32 → Prop) : Prop := ∀ x4_1 : Int32, x4_1 = (a2 + (nI 1)) → (∃ f_7, q_X9_heightIn_7 a1 a2 S k f_7 (nI 0) x4_1)
set_option maxRecDepth 100000 in
set_option maxHeartbeats 4000000 in
theorem c_X9_heightIn {l : Launch} {Z : ZT} (hi : injZ 10 Z) (S : St) (a1 : Int32) (a2 : Int32) (k : Int32 → Prop) (h : q_X9_heightIn S a1 a2 k) : Mi l shM 10 Z (gM Z) yX9_heightIn cX9_heightIn 5 (Option.some .int) (rmk 1 21) [.ref (Z.2.2.1 0), .int a1, .int a2] S (fun r S' => S' = S ∧ k r) := by
  have g := gokM hi
  refine e_i (by decide) (Nat.le_of_ble_eq_true rfl) (lv := [(0, .ref (Z.2.2.1 0)), (1, .int a1), (2, .int a2)]) rfl (fun p e s m args below meth c C hP hS ls hl => ?_)
  have hx := C.1.1
  have hb := C.1.2.1
  unfold q_X9_heightIn at h
  refine lv_iconst (v := (nI 0)) hx hb dX9_heightIn_0 (by decide) ?_
  refine lv_istore_n (lv' := [(3, .int (nI 0)), (0, .ref (Z.2.2.1 0)), (1, .int a1), (2, .int a2)]) hx hb dX9_heightIn_1 rfl hl (by decide) rfl (fun ls hl => ?_)
  refine lv_iload_n hx hb dX9_heightIn_2 rfl (lv_at hl 3 rfl) ?_
  refine lv_iconst (v := (nI 1)) hx hb dX9_heightIn_3 (by decide) ?_
  refine lv_iadd hx hb dX9_heightIn_4 ?_
  refine lv_topi (fun x4_1 ex4_1 => ?_)
  have h := h x4_1 ex4_1
  refine lv_istore (lv' := [(4, .int x4_1), (3, .int (nI 0)), (0, .ref (Z.2.2.1 0)), (1, .int a1), (2, .int a2)]) hx hb dX9_heightIn_5 hl (by decide) rfl (fun ls hl => ?_)
  obtain ⟨f_7, h⟩ := h
  exact b_X9_heightIn_7 hi C  f_7 _ _ _ _ _ hP hS (lv_sub hl [2, 3, 1, 0] rfl) h
def q_X9_best_16 (a1 : Int32) (k : Int32 → St → Prop) (S : St) : Prop := ((S.1 6 (nI 0).toNatClampNeg) = (nI 12) → (k (-4 : Int32) S)) ∧ (¬ (S.1 6 (nI 0).toNatClampNeg) = (nI 12) → (q_X9_bestOf S (nI 0) (fun r_2 S_3 => ((a1 = (-1 : Int32) → (k (S_3.1 0 23) S_3)) ∧ (¬ a1 = (-1 : Int32) → (q_X9_heightIn S_3 r_2 a1 (fun r_5 => (k r_5 S_3))))))))
set_option maxRecDepth 100000 in
set_option maxHeartbeats 4000000 in
theorem b_X9_best_16 {p : Program} {l : Launch} {e : Env} {s : State} {m : MethodId} {args : Array Value} {below : List Frame} {meth : Method} {c : Code} {Z : ZT} (hi : injZ 10 Z) (C : Cxt (gM Z) p s m meth c args yX9_best cX9_best 3 (Option.some .int)) {a1 : Int32} {k : Int32 → St → Prop}   (S : St) (H : Heap) (locs : List Loc) (ls : Array Slot) (hP : va_P Z.1 vwCl (wl shM 10 Z S) H) (hS : va_S (aa 10 Z) s.heap H locs) (hl : lv_has ls 3 [(0, .ref (Z.2.2.1 0)), (1, .int a1)]) (h : q_X9_best_16 a1 k S) : W p l e (rmk 5 123) s m args below meth c H locs 0 0 (Qi below shM 10 Z args s k) (F0 m 16 ls []) := by
  have g := gokM hi
  have hx := C.1.1
  have hb := C.1.2.1
  unfold q_X9_best_16 at h
  refine lv_aload_n hx hb dX9_best_16 rfl (lv_at hl 0 rfl) ?_
  refine s_gR g C hP 0 19 6 (by decide) rfl rfl cfX9 (by decide) kFL_X9_29 dX9_best_17 ?_
  refine lv_iconst (v := (nI 0)) hx hb dX9_best_20 (by decide) ?_
  refine s_aI g C hP 6 (by decide) rfl (vinL (by decide +kernel)) dX9_best_21 ?_
  refine lv_bipush (v := (nI 12)) hx hb dX9_best_22 (by decide) ?_
  refine lv_icmp_ne (tgt := 30) hx hb dX9_best_24 (by decide) (fun c_1 => ?_) (fun c_1 => ?_)
  · have h := h.2 c_1
    refine lv_aload_n hx hb dX9_best_30 rfl (lv_at hl 0 rfl) ?_
    refine lv_iconst (v := (nI 0)) hx hb dX9_best_31 (by decide) ?_
    refine go_i (run_V g C hP hS (c0 := 0) (As := [.int (nI 0)]) (rest := []) (c_X9_bestOf hi S (nI 0) _ h) cal_X9_bestOf kML_X9_225 (by decide) rfl cfX9 ⟨rfl, rfl, Nat.le_of_ble_eq_true rfl, Nat.le_of_ble_eq_true rfl⟩ rfl rfl hl.1 (Nat.le_of_ble_eq_true rfl) dX9_best_32) hS (fun r_2 S_3 H locs h hP hS => ?_)
    refine lv_istore_n (lv' := [(2, .int r_2), (0, .ref (Z.2.2.1 0)), (1, .int a1)]) hx hb dX9_best_35 rfl hl (by decide) rfl (fun ls hl => ?_)
    refine lv_iload_n hx hb dX9_best_36 rfl (lv_at hl 2 rfl) ?_
    refine lv_iconst (v := (-1 : Int32)) hx hb dX9_best_37 (by decide) ?_
    refine lv_icmp_ne (tgt := 48) hx hb dX9_best_38 (by decide) (fun c_4 => ?_) (fun c_4 => ?_)
    · have h := h.2 c_4
      refine lv_aload_n hx hb dX9_best_48 rfl (lv_at hl 1 rfl) ?_
      refine lv_iload_n hx hb dX9_best_49 rfl (lv_at hl 0 rfl) ?_
      refine lv_iload_n hx hb dX9_best_50 rfl (lv_at hl 2 rfl) ?_
      refine go_ip (run_V g C hP hS (c0 := 0) (As := [.int r_2, .int a1]) (rest := []) (c_X9_heightIn hi S_3 r_2 a1 _ h) cal_X9_heightIn kML_X9_229 (by decide) rfl cfX9 ⟨rfl, rfl, Nat.le_of_ble_eq_true rfl, Nat.le_of_ble_eq_true rfl⟩ rfl rfl hl.1 (Nat.le_of_ble_eq_true rfl) dX9_best_51) hS (fun r_5 H locs h hP hS => ?_)
      exact s_ri C hP hS h dX9_best_54
    · have h := h.1 c_4
      refine lv_aload_n hx hb dX9_best_41 rfl (lv_at hl 1 rfl) ?_
      refine s_gI g C hP 0 23 (by decide) rfl rfl cfX9 (by decide) kFL_X9_213 dX9_best_42 ?_
      refine lv_goto (tgt := 54) hx hb dX9_best_45 (by decide) ?_
      exact s_ri C hP hS h dX9_best_54
  · have h := h.1 c_1
    refine lv_bipush (v := (-4 : Int32)) hx hb dX9_best_27 (by decide) ?_
    exact s_ri C hP hS h dX9_best_29
def q_X9_best (S : St) (a1 : Int32) (k : Int32 → St → Prop) : Prop := (a1 = (-1 : Int32) → (q_X9_best_16 a1 k S)) ∧ (¬ a1 = (-1 : Int32) → (q_X9_isKite S a1 (fun r_2 => ((r_2 = (nI 0) → (k (-2 : Int32) S)) ∧ (¬ r_2 = (nI 0) → (q_X9_best_16 a1 k S))))))
set_option maxRecDepth 100000 in
set_option maxHeartbeats 4000000 in
theorem c_X9_best {l : Launch} {Z : ZT} (hi : injZ 10 Z) (S : St) (a1 : Int32) (k : Int32 → St → Prop) (h : q_X9_best S a1 k) : Mi l shM 10 Z (gM Z) yX9_best cX9_best 3 (Option.some .int) (rmk 5 123) [.ref (Z.2.2.1 0), .int a1] S k := by
  have g := gokM hi
  refine e_i (by decide) (Nat.le_of_ble_eq_true rfl) (lv := [(0, .ref (Z.2.2.1 0)), (1, .int a1)]) rfl (fun p e s m args below meth c C hP hS ls hl => ?_)
  have hx := C.1.1
  have hb := C.1.2.1
  unfold q_X9_best at h
  refine lv_iload_n hx hb dX9_best_0 rfl (lv_at hl 1 rfl) ?_
  refine lv_iconst (v := (-1 : Int32)) hx hb dX9_best_1 (by decide) ?_
  refine lv_icmp_eq (tgt := 16) hx hb dX9_best_2 (by decide) (fun c_1 => ?_) (fun c_1 => ?_)
  · have h := h.1 c_1
    exact b_X9_best_16 hi C  _ _ _ _ hP hS (lv_sub hl [0, 1] rfl) h
  · have h := h.2 c_1
    refine lv_aload_n hx hb dX9_best_5 rfl (lv_at hl 0 rfl) ?_
    refine lv_iload_n hx hb dX9_best_6 rfl (lv_at hl 1 rfl) ?_
    refine go_ip (run_V g C hP hS (c0 := 0) (As := [.int a1]) (rest := []) (c_X9_isKite hi S a1 _ h) cal_X9_isKite kML_X9_171 (by decide) rfl cfX9 ⟨rfl, rfl, Nat.le_of_ble_eq_true rfl, Nat.le_of_ble_eq_true rfl⟩ rfl rfl hl.1 (Nat.le_of_ble_eq_true rfl) dX9_best_7) hS (fun r_2 H locs h hP hS => ?_)
    obtain ⟨hbr_2, h⟩ := h
    refine lv_if_ne (tgt := 16) hx hb dX9_best_10 (by decide) (fun c_3 => ?_) (fun c_3 => ?_)
    · have h := h.2 c_3
      exact b_X9_best_16 hi C  _ _ _ _ hP hS (lv_sub hl [0, 1] rfl) h
    · have h := h.1 c_3
      refine lv_bipush (v := (-2 : Int32)) hx hb dX9_best_13 (by decide) ?_
      exact s_ri C hP hS h dX9_best_15
def q_X9_allDay_16 (a1 : Int32) (k : Int32 → St → Prop) (S : St) : Prop := q_X9_bestOf S (nI 1) (fun r_1 S_2 => ((a1 = (-1 : Int32) → (k (S_2.1 0 23) S_2)) ∧ (¬ a1 = (-1 : Int32) → (q_X9_heightIn S_2 r_1 a1 (fun r_4 => (k r_4 S_2))))))
set_option maxRecDepth 100000 in
set_option maxHeartbeats 4000000 in
theorem b_X9_allDay_16 {p : Program} {l : Launch} {e : Env} {s : State} {m : MethodId} {args : Array Value} {below : List Frame} {meth : Method} {c : Code} {Z : ZT} (hi : injZ 10 Z) (C : Cxt (gM Z) p s m meth c args yX9_allDay cX9_allDay 3 (Option.some .int)) {a1 : Int32} {k : Int32 → St → Prop}   (S : St) (H : Heap) (locs : List Loc) (ls : Array Slot) (hP : va_P Z.1 vwCl (wl shM 10 Z S) H) (hS : va_S (aa 10 Z) s.heap H locs) (hl : lv_has ls 3 [(0, .ref (Z.2.2.1 0)), (1, .int a1)]) (h : q_X9_allDay_16 a1 k S) : W p l e (rmk 5 123) s m args below meth c H locs 0 0 (Qi below shM 10 Z args s k) (F0 m 16 ls []) := by
  have g := gokM hi
  have hx := C.1.1
  have hb := C.1.2.1
  unfold q_X9_allDay_16 at h
  refine lv_aload_n hx hb dX9_allDay_16 rfl (lv_at hl 0 rfl) ?_
  refine lv_iconst (v := (nI 1)) hx hb dX9_allDay_17 (by decide) ?_
  refine go_i (run_V g C hP hS (c0 := 0) (As := [.int (nI 1)]) (rest := []) (c_X9_bestOf hi S (nI 1) _ h) cal_X9_bestOf kML_X9_225 (by decide) rfl cfX9 ⟨rfl, rfl, Nat.le_of_ble_eq_true rfl, Nat.le_of_ble_eq_true rfl⟩ rfl rfl hl.1 (Nat.le_of_ble_eq_true rfl) dX9_allDay_18) hS (fun r_1 S_2 H locs h hP hS => ?_)
  refine lv_istore_n (lv' := [(2, .int r_1), (0, .ref (Z.2.2.1 0)), (1, .int a1)]) hx hb dX9_allDay_21 rfl hl (by decide) rfl (fun ls hl => ?_)
  refine lv_iload_n hx hb dX9_allDay_22 rfl (lv_at hl 2 rfl) ?_
  refine lv_iconst (v := (-1 : Int32)) hx hb dX9_allDay_23 (by decide) ?_
  refine lv_icmp_ne (tgt := 34) hx hb dX9_allDay_24 (by decide) (fun c_3 => ?_) (fun c_3 => ?_)
  · have h := h.2 c_3
    refine lv_aload_n hx hb dX9_allDay_34 rfl (lv_at hl 1 rfl) ?_
    refine lv_iload_n hx hb dX9_allDay_35 rfl (lv_at hl 0 rfl) ?_
    refine lv_iload_n hx hb dX9_allDay_36 rfl (lv_at hl 2 rfl) ?_
    refine go_ip (run_V g C hP hS (c0 := 0) (As := [.int r_1, .int a1]) (rest := []) (c_X9_heightIn hi S_2 r_1 a1 _ h) cal_X9_heightIn kML_X9_229 (by decide) rfl cfX9 ⟨rfl, rfl, Nat.le_of_ble_eq_true rfl, Nat.le_of_ble_eq_true rfl⟩ rfl rfl hl.1 (Nat.le_of_ble_eq_true rfl) dX9_allDay_37) hS (fun r_4 H locs h hP hS => ?_)
    exact s_ri C hP hS h dX9_allDay_40
  · have h := h.1 c_3
    refine lv_aload_n hx hb dX9_allDay_27 rfl (lv_at hl 1 rfl) ?_
    refine s_gI g C hP 0 23 (by decide) rfl rfl cfX9 (by decide) kFL_X9_213 dX9_allDay_28 ?_
    refine lv_goto (tgt := 40) hx hb dX9_allDay_31 (by decide) ?_
    exact s_ri C hP hS h dX9_allDay_40
def q_X9_allDay (S : St) (a1 : Int32) (k : Int32 → St → Prop) : Prop := (a1 = (-1 : Int32) → (q_X9_allDay_16 a1 k S)) ∧ (¬ a1 = (-1 : Int32) → (q_X9_isKite S a1 (fun r_2 => ((r_2 = (nI 0) → (k (-2 : Int32) S)) ∧ (¬ r_2 = (nI 0) → (q_X9_allDay_16 a1 k S))))))
set_option maxRecDepth 100000 in
set_option maxHeartbeats 4000000 in
theorem c_X9_allDay {l : Launch} {Z : ZT} (hi : injZ 10 Z) (S : St) (a1 : Int32) (k : Int32 → St → Prop) (h : q_X9_allDay S a1 k) : Mi l shM 10 Z (gM Z) yX9_allDay cX9_allDay 3 (Option.some .int) (rmk 5 123) [.ref (Z.2.2.1 0), .int a1] S k := by
  have g := gokM hi
  refine e_i (by decide) (Nat.le_of_ble_eq_true rfl) (lv := [(0, .ref (Z.2.2.1 0)), (1, .int a1)]) rfl (fun p e s m args below meth c C hP hS ls hl => ?_)
  have hx := C.1.1
  have hb := C.1.2.1
  unfold q_X9_allDay at h
  refine lv_iload_n hx hb dX9_allDay_0 rfl (lv_at hl 1 rfl) ?_
  refine lv_iconst (v := (-1 : Int32)) hx hb dX9_allDay_1 (by decide) ?_
  refine lv_icmp_eq (tgt := 16) hx hb dX9_allDay_2 (by decide) (fun c_1 => ?_) (fun c_1 => ?_)
  · have h := h.1 c_1
    exact b_X9_allDay_16 hi C  _ _ _ _ hP hS (lv_sub hl [0, 1] rfl) h
  · have h := h.2 c_1
    refine lv_aload_n hx hb dX9_allDay_5 rfl (lv_at hl 0 rfl) ?_
    refine lv_iload_n hx hb dX9_allDay_6 rfl (lv_at hl 1 rfl) ?_
    refine go_ip (run_V g C hP hS (c0 := 0) (As := [.int a1]) (rest := []) (c_X9_isKite hi S a1 _ h) cal_X9_isKite kML_X9_171 (by decide) rfl cfX9 ⟨rfl, rfl, Nat.le_of_ble_eq_true rfl, Nat.le_of_ble_eq_true rfl⟩ rfl rfl hl.1 (Nat.le_of_ble_eq_true rfl) dX9_allDay_7) hS (fun r_2 H locs h hP hS => ?_)
    obtain ⟨hbr_2, h⟩ := h
    refine lv_if_ne (tgt := 16) hx hb dX9_allDay_10 (by decide) (fun c_3 => ?_) (fun c_3 => ?_)
    · have h := h.2 c_3
      exact b_X9_allDay_16 hi C  _ _ _ _ hP hS (lv_sub hl [0, 1] rfl) h
    · have h := h.1 c_3
      refine lv_bipush (v := (-2 : Int32)) hx hb dX9_allDay_13 (by decide) ?_
      exact s_ri C hP hS h dX9_allDay_15
def q_X9_laws_110 (a1 : Int32) (k : Int32 → St → Prop) (e_38 : St → Int32 → Int32 → Int32 → Int32 → Prop) (S : St) (x2 : Int32) (x3 : Int32) (x5 : Int32) (t0 : Int32) : Prop := ∀ x5_1 : Int32, x5_1 = x5 + (nI 1) → (e_38 S x2 x3 t0 x5_1)
set_option maxRecDepth 100000 in
set_option maxHeartbeats 4000000 in
theorem b_X9_laws_110 {p : Program} {l : Launch} {e : Env} {s : State} {m : MethodId} {args : Array Value} {below : List Frame} {meth : Method} {c : Code} {Z : ZT} (hi : injZ 10 Z) (C : Cxt (gM Z) p s m meth c args yX9_laws cX9_laws 6 (Option.some .int)) {a1 : Int32} {k : Int32 → St → Prop} {e_38 : St → Int32 → Int32 → Int32 → Int32 → Prop}  (he_38 : ∀ (S : St) (x2 : Int32) (x3 : Int32) (x4 : Int32) (x5 : Int32) (H : Heap) (locs : List Loc) (ls : Array Slot), va_P Z.1 vwCl (wl shM 10 Z S) H → va_S (aa 10 Z) s.heap H locs → lv_has ls 6 [(0, .ref (Z.2.2.1 0)), (1, .int a1), (2, .int x2), (3, .int x3), (4, .int x4), (5, .int x5)] → e_38 S x2 x3 x4 x5 → W p l e (rmk 4 97) s m args below meth c H locs 0 0 (Qi below shM 10 Z args s k) (F0 m 38 ls [])) (S : St) (x2 : Int32) (x3 : Int32) (x5 : Int32) (t0 : Int32) (H : Heap) (locs : List Loc) (ls : Array Slot) (hP : va_P Z.1 vwCl (wl shM 10 Z S) H) (hS : va_S (aa 10 Z) s.heap H locs) (hl : lv_has ls 6 [(0, .ref (Z.2.2.1 0)), (1, .int a1), (2, .int x2), (3, .int x3), (5, .int x5)]) (h : q_X9_laws_110 a1 k e_38 S x2 x3 x5 t0) : W p l e (rmk 4 97) s m args below meth c H locs 0 0 (Qi below shM 10 Z args s k) (F0 m 110 ls [.int t0]) := by
  have g := gokM hi
  have hx := C.1.1
  have hb := C.1.2.1
  unfold q_X9_laws_110 at h
  refine lv_istore (lv' := [(4, .int t0), (0, .ref (Z.2.2.1 0)), (1, .int a1), (2, .int x2), (3, .int x3), (5, .int x5)]) hx hb dX9_laws_110 hl (by decide) rfl (fun ls hl => ?_)
  obtain ⟨x5_1, ex5_1⟩ : ∃ y_ : Int32, y_ = x5 + (nI 1) := ⟨_, rfl⟩
  have h := h x5_1 ex5_1
  refine lv_iinc (v := x5_1) (lv' := [(5, .int x5_1), (4, .int t0), (0, .ref (Z.2.2.1 0)), (1, .int a1), (2, .int x2), (3, .int x3)]) hx hb dX9_laws_112 hl (k := 5) rfl (by rw [ex5_1]; rfl) (by decide) rfl (fun ls hl => ?_)
  refine lv_goto (tgt := 38) hx hb dX9_laws_115 (by decide) ?_
  exact he_38 _ _ _ _ _ _ _ _ hP hS (lv_sub hl [2, 3, 4, 5, 1, 0] rfl) h
def q_X9_laws_91 (a1 : Int32) (k : Int32 → St → Prop) (e_38 : St → Int32 → Int32 → Int32 → Int32 → Prop) (S : St) (x2 : Int32) (x4 : Int32) (x5 : Int32) (t0 : Int32) : Prop := q_X9_caught S (fun r_1 => ((r_1 ≤ x4 → (q_X9_laws_110 a1 k e_38 S x2 t0 x5 x4)) ∧ (¬ r_1 ≤ x4 → (q_X9_caught S (fun r_3 => (q_X9_laws_110 a1 k e_38 S x2 t0 x5 r_3))))))
set_option maxRecDepth 100000 in
set_option maxHeartbeats 4000000 in
theorem b_X9_laws_91 {p : Program} {l : Launch} {e : Env} {s : State} {m : MethodId} {args : Array Value} {below : List Frame} {meth : Method} {c : Code} {Z : ZT} (hi : injZ 10 Z) (C : Cxt (gM Z) p s m meth c args yX9_laws cX9_laws 6 (Option.some .int)) {a1 : Int32} {k : Int32 → St → Prop} {e_38 : St → Int32 → Int32 → Int32 → Int32 → Prop}  (he_38 : ∀ (S : St) (x2 : Int32) (x3 : Int32) (x4 : Int32) (x5 : Int32) (H : Heap) (locs : List Loc) (ls : Array Slot), va_P Z.1 vwCl (wl shM 10 Z S) H → va_S (aa 10 Z) s.heap H locs → lv_has ls 6 [(0, .ref (Z.2.2.1 0)), (1, .int a1), (2, .int x2), (3, .int x3), (4, .int x4), (5, .int x5)] → e_38 S x2 x3 x4 x5 → W p l e (rmk 4 97) s m args below meth c H locs 0 0 (Qi below shM 10 Z args s k) (F0 m 38 ls [])) (S : St) (x2 : Int32) (x4 : Int32) (x5 : Int32) (t0 : Int32) (H : Heap) (locs : List Loc) (ls : Array Slot) (hP : va_P Z.1 vwCl (wl shM 10 Z S) H) (hS : va_S (aa 10 Z) s.heap H locs) (hl : lv_has ls 6 [(0, .ref (Z.2.2.1 0)), (1, .int a1), (2, .int x2), (4, .int x4), (5, .int x5)]) (h : q_X9_laws_91 a1 k e_38 S x2 x4 x5 t0) : W p l e (rmk 4 97) s m args below meth c H locs 0 0 (Qi below shM 10 Z args s k) (F0 m 91 ls [.int t0]) := by
  have g := gokM hi
  have hx := C.1.1
  have hb := C.1.2.1
  unfold q_X9_laws_91 at h
  refine lv_istore_n (lv' := [(3, .int t0), (0, .ref (Z.2.2.1 0)), (1, .int a1), (2, .int x2), (4, .int x4), (5, .int x5)]) hx hb dX9_laws_91 rfl hl (by decide) rfl (fun ls hl => ?_)
  refine lv_aload_n hx hb dX9_laws_92 rfl (lv_at hl 1 rfl) ?_
  refine go_ip (run_V g C hP hS (c0 := 0) (As := []) (rest := []) (c_X9_caught hi S _ h) cal_X9_caught kML_X9_222 (by decide) rfl cfX9 ⟨rfl, rfl, Nat.le_of_ble_eq_true rfl, Nat.le_of_ble_eq_true rfl⟩ rfl rfl hl.1 (Nat.le_of_ble_eq_true rfl) dX9_laws_93) hS (fun r_1 H locs h hP hS => ?_)
  refine lv_iload hx hb dX9_laws_96 (lv_at hl 4 rfl) ?_
  refine lv_icmp_le (tgt := 108) hx hb dX9_laws_98 (by decide) (fun c_2 => ?_) (fun c_2 => ?_)
  · have h := h.1 c_2
    refine lv_iload hx hb dX9_laws_108 (lv_at hl 4 rfl) ?_
    exact b_X9_laws_110 hi C he_38 _ _ _ _ _ _ _ _ hP hS (lv_sub hl [1, 2, 3, 0, 5] rfl) h
  · have h := h.2 c_2
    refine lv_aload_n hx hb dX9_laws_101 rfl (lv_at hl 1 rfl) ?_
    refine go_ip (run_V g C hP hS (c0 := 0) (As := []) (rest := []) (c_X9_caught hi S _ h) cal_X9_caught kML_X9_222 (by decide) rfl cfX9 ⟨rfl, rfl, Nat.le_of_ble_eq_true rfl, Nat.le_of_ble_eq_true rfl⟩ rfl rfl hl.1 (Nat.le_of_ble_eq_true rfl) dX9_laws_102) hS (fun r_3 H locs h hP hS => ?_)
    refine lv_goto (tgt := 110) hx hb dX9_laws_105 (by decide) ?_
    exact b_X9_laws_110 hi C he_38 _ _ _ _ _ _ _ _ hP hS (lv_sub hl [1, 2, 3, 0, 5] rfl) h
def q_X9_laws_58 (a1 : Int32) (k : Int32 → St → Prop) (e_38 : St → Int32 → Int32 → Int32 → Int32 → Prop) : Nat → St → Int32 → Int32 → Int32 → Int32 → Prop := fun n_ => Nat.rec (motive := fun _ => St → Int32 → Int32 → Int32 → Int32 → Prop) (fun _ _ _ _ _ => False) (fun _ ih => fun S x2 x3 x4 x5 => ((nI 12) ≤ (S.1 6 (nI 0).toNatClampNeg) → (q_X9_caught S (fun r_2 => ((r_2 ≤ x4 → (q_X9_laws_91 a1 k e_38 S x2 x4 x5 x3)) ∧ (¬ r_2 ≤ x4 → (q_X9_laws_91 a1 k e_38 S x2 x4 x5 x5)))))) ∧ (¬ (nI 12) ≤ (S.1 6 (nI 0).toNatClampNeg) → (q_X9_goHour S (fun S_4 => (ih S_4 x2 x3 x4 x5))))) n_
theorem q_X9_laws_58_s (a1 : Int32) (k : Int32 → St → Prop) (e_38 : St → Int32 → Int32 → Int32 → Int32 → Prop) (n_ : Nat) (S : St) (x2 : Int32) (x3 : Int32) (x4 : Int32) (x5 : Int32) : q_X9_laws_58 a1 k e_38 (n_ + 1) S x2 x3 x4 x5 = (((nI 12) ≤ (S.1 6 (nI 0).toNatClampNeg) → (q_X9_caught S (fun r_2 => ((r_2 ≤ x4 → (q_X9_laws_91 a1 k e_38 S x2 x4 x5 x3)) ∧ (¬ r_2 ≤ x4 → (q_X9_laws_91 a1 k e_38 S x2 x4 x5 x5)))))) ∧ (¬ (nI 12) ≤ (S.1 6 (nI 0).toNatClampNeg) → (q_X9_goHour S (fun S_4 => ((q_X9_laws_58 a1 k e_38 n_) S_4 x2 x3 x4 x5))))) := rfl
set_option maxRecDepth 100000 in
set_option maxHeartbeats 4000000 in
theorem b_X9_laws_58 {p : Program} {l : Launch} {e : Env} {s : State} {m : MethodId} {args : Array Value} {below : List Frame} {meth : Method} {c : Code} {Z : ZT} (hi : injZ 10 Z) (C : Cxt (gM Z) p s m meth c args yX9_laws cX9_laws 6 (Option.some .int)) {a1 : Int32} {k : Int32 → St → Prop} {e_38 : St → Int32 → Int32 → Int32 → Int32 → Prop}  (he_38 : ∀ (S : St) (x2 : Int32) (x3 : Int32) (x4 : Int32) (x5 : Int32) (H : Heap) (locs : List Loc) (ls : Array Slot), va_P Z.1 vwCl (wl shM 10 Z S) H → va_S (aa 10 Z) s.heap H locs → lv_has ls 6 [(0, .ref (Z.2.2.1 0)), (1, .int a1), (2, .int x2), (3, .int x3), (4, .int x4), (5, .int x5)] → e_38 S x2 x3 x4 x5 → W p l e (rmk 4 97) s m args below meth c H locs 0 0 (Qi below shM 10 Z args s k) (F0 m 38 ls [])) : ∀ (n_ : Nat) (S : St) (x2 : Int32) (x3 : Int32) (x4 : Int32) (x5 : Int32) (H : Heap) (locs : List Loc) (ls : Array Slot), va_P Z.1 vwCl (wl shM 10 Z S) H → va_S (aa 10 Z) s.heap H locs → lv_has ls 6 [(0, .ref (Z.2.2.1 0)), (1, .int a1), (2, .int x2), (3, .int x3), (4, .int x4), (5, .int x5)] → q_X9_laws_58 a1 k e_38 n_ S x2 x3 x4 x5 → W p l e (rmk 4 97) s m args below meth c H locs 0 0 (Qi below shM 10 Z args s k) (F0 m 58 ls []) := by
  have g := gokM hi
  have hx := C.1.1
  have hb := C.1.2.1
  intro n_
  induction n_ with
  | zero => intro S x2 x3 x4 x5 H locs ls hP hS hl h; exact h.elim
  | succ n_ ih =>
    intro S x2 x3 x4 x5 H locs ls hP hS hl h
    rw [q_X9_laws_58_s] at h
    refine lv_aload_n hx hb dX9_laws_58 rfl (lv_at hl 0 rfl) ?_
    refine s_gR g C hP 0 19 6 (by decide) rfl rfl cfX9 (by decide) kFL_X9_29 dX9_laws_59 ?_
    refine lv_iconst (v := (nI 0)) hx hb dX9_laws_62 (by decide) ?_
    refine s_aI g C hP 6 (by decide) rfl (vinL (by decide +kernel)) dX9_laws_63 ?_
    refine lv_bipush (v := (nI 12)) hx hb dX9_laws_64 (by decide) ?_
    refine lv_icmp_ge (tgt := 76) hx hb dX9_laws_66 (by decide) (fun c_1 => ?_) (fun c_1 => ?_)
    · have h := h.1 c_1
      refine lv_aload_n hx hb dX9_laws_76 rfl (lv_at hl 0 rfl) ?_
      refine go_ip (run_V g C hP hS (c0 := 0) (As := []) (rest := []) (c_X9_caught hi S _ h) cal_X9_caught kML_X9_222 (by decide) rfl cfX9 ⟨rfl, rfl, Nat.le_of_ble_eq_true rfl, Nat.le_of_ble_eq_true rfl⟩ rfl rfl hl.1 (Nat.le_of_ble_eq_true rfl) dX9_laws_77) hS (fun r_2 H locs h hP hS => ?_)
      refine lv_iload hx hb dX9_laws_80 (lv_at hl 4 rfl) ?_
      refine lv_icmp_le (tgt := 90) hx hb dX9_laws_82 (by decide) (fun c_3 => ?_) (fun c_3 => ?_)
      · have h := h.1 c_3
        refine lv_iload_n hx hb dX9_laws_90 rfl (lv_at hl 3 rfl) ?_
        exact b_X9_laws_91 hi C he_38 _ _ _ _ _ _ _ _ hP hS (lv_sub hl [0, 1, 2, 4, 5] rfl) h
      · have h := h.2 c_3
        refine lv_iload hx hb dX9_laws_85 (lv_at hl 5 rfl) ?_
        refine lv_goto (tgt := 91) hx hb dX9_laws_87 (by decide) ?_
        exact b_X9_laws_91 hi C he_38 _ _ _ _ _ _ _ _ hP hS (lv_sub hl [0, 1, 2, 4, 5] rfl) h
    · have h := h.2 c_1
      refine lv_aload_n hx hb dX9_laws_69 rfl (lv_at hl 0 rfl) ?_
      refine go_v (run_V g C hP hS (c0 := 0) (As := []) (rest := []) (c_X9_goHour hi S _ h) cal_X9_goHour kML_X9_202 (by decide) rfl cfX9 ⟨rfl, rfl, Nat.le_of_ble_eq_true rfl, Nat.le_of_ble_eq_true rfl⟩ rfl rfl hl.1 (Nat.le_of_ble_eq_true rfl) dX9_laws_70) hS (fun S_4 H locs h hP hS => ?_)
      refine lv_goto (tgt := 58) hx hb dX9_laws_73 (by decide) ?_
      exact ih _ _ _ _ _ _ _ _ hP hS (lv_sub hl [0, 1, 2, 3, 4, 5] rfl) h
def q_X9_laws_38 (a1 : Int32) (k : Int32 → St → Prop) : Nat → St → Int32 → Int32 → Int32 → Int32 → Prop := fun n_ => Nat.rec (motive := fun _ => St → Int32 → Int32 → Int32 → Int32 → Prop) (fun _ _ _ _ _ => False) (fun _ ih => fun S x2 x3 x4 x5 => ((nI 3) ≤ x5 → (q_X9_copy 7 1197 6 1197 S (nI 0) (nI 0) (fun S_2 => (∀ S_3 : St, S_3 = sI S_2 0 5 x2 → ((a1 = (nI 0) → (k x3 S_3)) ∧ (¬ a1 = (nI 0) → (k x4 S_3))))))) ∧ (¬ (nI 3) ≤ x5 → (∀ S_5 : St, S_5 = sI S 0 5 x5 → (q_X9_copyState S_5 (fun S_6 => (q_X9_anew S_6 (fun S_7 => (∃ f_58, q_X9_laws_58 a1 k ih f_58 S_7 x2 x3 x4 x5)))))))) n_
theorem q_X9_laws_38_s (a1 : Int32) (k : Int32 → St → Prop) (n_ : Nat) (S : St) (x2 : Int32) (x3 : Int32) (x4 : Int32) (x5 : Int32) : q_X9_laws_38 a1 k (n_ + 1) S x2 x3 x4 x5 = (((nI 3) ≤ x5 → (q_X9_copy 7 1197 6 1197 S (nI 0) (nI 0) (fun S_2 => (∀ S_3 : St, S_3 = sI S_2 0 5 x2 → ((a1 = (nI 0) → (k x3 S_3)) ∧ (¬ a1 = (nI 0) → (k x4 S_3))))))) ∧ (¬ (nI 3) ≤ x5 → (∀ S_5 : St, S_5 = sI S 0 5 x5 → (q_X9_copyState S_5 (fun S_6 => (q_X9_anew S_6 (fun S_7 => (∃ f_58, q_X9_laws_58 a1 k (q_X9_laws_38 a1 k n_) f_58 S_7 x2 x3 x4 x5)))))))) := rfl
set_option maxRecDepth 100000 in
set_option maxHeartbeats 4000000 in
theorem b_X9_laws_38 {p : Program} {l : Launch} {e : Env} {s : State} {m : MethodId} {args : Array Value} {below : List Frame} {meth : Method} {c : Code} {Z : ZT} (hi : injZ 10 Z) (C : Cxt (gM Z) p s m meth c args yX9_laws cX9_laws 6 (Option.some .int)) {a1 : Int32} {k : Int32 → St → Prop}   : ∀ (n_ : Nat) (S : St) (x2 : Int32) (x3 : Int32) (x4 : Int32) (x5 : Int32) (H : Heap) (locs : List Loc) (ls : Array Slot), va_P Z.1 vwCl (wl shM 10 Z S) H → va_S (aa 10 Z) s.heap H locs → lv_has ls 6 [(0, .ref (Z.2.2.1 0)), (1, .int a1), (2, .int x2), (3, .int x3), (4, .int x4), (5, .int x5)] → q_X9_laws_38 a1 k n_ S x2 x3 x4 x5 → W p l e (rmk 4 97) s m args below meth c H locs 0 0 (Qi below shM 10 Z args s k) (F0 m 38 ls []) := by
  have g := gokM hi
  have hx := C.1.1
  have hb := C.1.2.1
  intro n_
  induction n_ with
  | zero => intro S x2 x3 x4 x5 H locs ls hP hS hl h; exact h.elim
  | succ n_ ih =>
    intro S x2 x3 x4 x5 H locs ls hP hS hl h
    rw [q_X9_laws_38_s] at h
    refine lv_iload hx hb dX9_laws_38 (lv_at hl 5 rfl) ?_
    refine lv_iconst (v := (nI 3)) hx hb dX9_laws_40 (by decide) ?_
    refine lv_icmp_ge (tgt := 118) hx hb dX9_laws_41 (by decide) (fun c_1 => ?_) (fun c_1 => ?_)
    · have h := h.1 c_1
      refine lv_aload_n hx hb dX9_laws_118 rfl (lv_at hl 0 rfl) ?_
      refine s_gR g C hP 0 20 7 (by decide) rfl rfl cfX9 (by decide) kFL_X9_32 dX9_laws_119 ?_
      refine lv_iconst (v := (nI 0)) hx hb dX9_laws_122 (by decide) ?_
      refine lv_aload_n hx hb dX9_laws_123 rfl (lv_at hl 0 rfl) ?_
      refine s_gR g C hP 0 19 6 (by decide) rfl rfl cfX9 (by decide) kFL_X9_29 dX9_laws_124 ?_
      refine lv_iconst (v := (nI 0)) hx hb dX9_laws_127 (by decide) ?_
      refine go_v (run_S g C hP hS (As := [.ref (Z.2.2.1 7), .int (nI 0), .ref (Z.2.2.1 6), .int (nI 0)]) (rest := []) (c_X9_copy hi 7 1197 6 1197 ⟨(by decide), rfl⟩ ⟨(by decide), rfl⟩ S (nI 0) (nI 0) _ h) cal_X9_copy kML_X9_205 ⟨rfl, rfl, Nat.le_of_ble_eq_true rfl, Nat.le_of_ble_eq_true rfl⟩ rfl rfl hl.1 (Nat.le_of_ble_eq_true rfl) dX9_laws_128) hS (fun S_2 H locs h hP hS => ?_)
      refine lv_aload_n hx hb dX9_laws_131 rfl (lv_at hl 0 rfl) ?_
      refine lv_iload_n hx hb dX9_laws_132 rfl (lv_at hl 2 rfl) ?_
      refine s_pI g C hP hS 0 5 (by decide) rfl rfl cfX9 (by decide) rfl rfl rfl kFL_X9_152 dX9_laws_133 (fun H locs hP hS => ?_)
      obtain ⟨S_3, eS_3⟩ : ∃ z_ : St, z_ = sI S_2 0 5 x2 := ⟨_, rfl⟩
      rw [← eS_3] at hP
      have h := h S_3 eS_3
      refine lv_iload_n hx hb dX9_laws_136 rfl (lv_at hl 1 rfl) ?_
      refine lv_if_ne (tgt := 144) hx hb dX9_laws_137 (by decide) (fun c_4 => ?_) (fun c_4 => ?_)
      · have h := h.2 c_4
        refine lv_iload hx hb dX9_laws_144 (lv_at hl 4 rfl) ?_
        exact s_ri C hP hS h dX9_laws_146
      · have h := h.1 c_4
        refine lv_iload_n hx hb dX9_laws_140 rfl (lv_at hl 3 rfl) ?_
        refine lv_goto (tgt := 146) hx hb dX9_laws_141 (by decide) ?_
        exact s_ri C hP hS h dX9_laws_146
    · have h := h.2 c_1
      refine lv_aload_n hx hb dX9_laws_44 rfl (lv_at hl 0 rfl) ?_
      refine lv_iload hx hb dX9_laws_45 (lv_at hl 5 rfl) ?_
      refine s_pI g C hP hS 0 5 (by decide) rfl rfl cfX9 (by decide) rfl rfl rfl kFL_X9_152 dX9_laws_47 (fun H locs hP hS => ?_)
      obtain ⟨S_5, eS_5⟩ : ∃ z_ : St, z_ = sI S 0 5 x5 := ⟨_, rfl⟩
      rw [← eS_5] at hP
      have h := h S_5 eS_5
      refine lv_aload_n hx hb dX9_laws_50 rfl (lv_at hl 0 rfl) ?_
      refine go_v (run_V g C hP hS (c0 := 0) (As := []) (rest := []) (c_X9_copyState hi S_5 _ h) cal_X9_copyState kML_X9_216 (by decide) rfl cfX9 ⟨rfl, rfl, Nat.le_of_ble_eq_true rfl, Nat.le_of_ble_eq_true rfl⟩ rfl rfl hl.1 (Nat.le_of_ble_eq_true rfl) dX9_laws_51) hS (fun S_6 H locs h hP hS => ?_)
      refine lv_aload_n hx hb dX9_laws_54 rfl (lv_at hl 0 rfl) ?_
      refine go_v (run_V g C hP hS (c0 := 0) (As := []) (rest := []) (c_X9_anew hi S_6 _ h) cal_X9_anew kML_X9_158 (by decide) rfl cfX9 ⟨rfl, rfl, Nat.le_of_ble_eq_true rfl, Nat.le_of_ble_eq_true rfl⟩ rfl rfl hl.1 (Nat.le_of_ble_eq_true rfl) dX9_laws_55) hS (fun S_7 H locs h hP hS => ?_)
      obtain ⟨f_58, h⟩ := h
      exact b_X9_laws_58 hi C ih f_58 _ _ _ _ _ _ _ _ hP hS (lv_sub hl [0, 1, 2, 3, 4, 5] rfl) h
def q_X9_laws (S : St) (a1 : Int32) (k : Int32 → St → Prop) : Prop := q_X9_in S a1 (nI 0) (nI 1) (fun r_1 => ((r_1 = (nI 0) → (k (-3 : Int32) S)) ∧ (¬ r_1 = (nI 0) → (∀ x2_3 : Int32, x2_3 = (S.1 0 5) → (q_X9_copy 6 1197 7 1197 S (nI 0) (nI 0) (fun S_4 => (∃ f_38, q_X9_laws_38 a1 k f_38 S_4 x2_3 (-1 : Int32) (-1 : Int32) (nI 0))))))))
set_option maxRecDepth 100000 in
set_option maxHeartbeats 4000000 in
theorem c_X9_laws {l : Launch} {Z : ZT} (hi : injZ 10 Z) (S : St) (a1 : Int32) (k : Int32 → St → Prop) (h : q_X9_laws S a1 k) : Mi l shM 10 Z (gM Z) yX9_laws cX9_laws 6 (Option.some .int) (rmk 4 97) [.ref (Z.2.2.1 0), .int a1] S k := by
  have g := gokM hi
  refine e_i (by decide) (Nat.le_of_ble_eq_true rfl) (lv := [(0, .ref (Z.2.2.1 0)), (1, .int a1)]) rfl (fun p e s m args below meth c C hP hS ls hl => ?_)
  have hx := C.1.1
  have hb := C.1.2.1
  unfold q_X9_laws at h
  refine lv_iload_n hx hb dX9_laws_0 rfl (lv_at hl 1 rfl) ?_
  refine lv_iconst (v := (nI 0)) hx hb dX9_laws_1 (by decide) ?_
  refine lv_iconst (v := (nI 1)) hx hb dX9_laws_2 (by decide) ?_
  refine go_ip (run_S g C hP hS (As := [.int a1, .int (nI 0), .int (nI 1)]) (rest := []) (c_X9_in hi S a1 (nI 0) (nI 1) _ h) cal_X9_in kML_X9_45 ⟨rfl, rfl, Nat.le_of_ble_eq_true rfl, Nat.le_of_ble_eq_true rfl⟩ rfl rfl hl.1 (Nat.le_of_ble_eq_true rfl) dX9_laws_3) hS (fun r_1 H locs h hP hS => ?_)
  obtain ⟨hbr_1, h⟩ := h
  refine lv_if_ne (tgt := 12) hx hb dX9_laws_6 (by decide) (fun c_2 => ?_) (fun c_2 => ?_)
  · have h := h.2 c_2
    refine lv_aload_n hx hb dX9_laws_12 rfl (lv_at hl 0 rfl) ?_
    refine s_gI g C hP 0 5 (by decide) rfl rfl cfX9 (by decide) kFL_X9_152 dX9_laws_13 ?_
    refine lv_topi (fun x2_3 ex2_3 => ?_)
    have h := h x2_3 ex2_3
    refine lv_istore_n (lv' := [(2, .int x2_3), (0, .ref (Z.2.2.1 0)), (1, .int a1)]) hx hb dX9_laws_16 rfl hl (by decide) rfl (fun ls hl => ?_)
    refine lv_iconst (v := (-1 : Int32)) hx hb dX9_laws_17 (by decide) ?_
    refine lv_istore_n (lv' := [(3, .int (-1 : Int32)), (2, .int x2_3), (0, .ref (Z.2.2.1 0)), (1, .int a1)]) hx hb dX9_laws_18 rfl hl (by decide) rfl (fun ls hl => ?_)
    refine lv_iconst (v := (-1 : Int32)) hx hb dX9_laws_19 (by decide) ?_
    refine lv_istore (lv' := [(4, .int (-1 : Int32)), (3, .int (-1 : Int32)), (2, .int x2_3), (0, .ref (Z.2.2.1 0)), (1, .int a1)]) hx hb dX9_laws_20 hl (by decide) rfl (fun ls hl => ?_)
    refine lv_aload_n hx hb dX9_laws_22 rfl (lv_at hl 3 rfl) ?_
    refine s_gR g C hP 0 19 6 (by decide) rfl rfl cfX9 (by decide) kFL_X9_29 dX9_laws_23 ?_
    refine lv_iconst (v := (nI 0)) hx hb dX9_laws_26 (by decide) ?_
    refine lv_aload_n hx hb dX9_laws_27 rfl (lv_at hl 3 rfl) ?_
    refine s_gR g C hP 0 20 7 (by decide) rfl rfl cfX9 (by decide) kFL_X9_32 dX9_laws_28 ?_
    refine lv_iconst (v := (nI 0)) hx hb dX9_laws_31 (by decide) ?_
    refine go_v (run_S g C hP hS (As := [.ref (Z.2.2.1 6), .int (nI 0), .ref (Z.2.2.1 7), .int (nI 0)]) (rest := []) (c_X9_copy hi 6 1197 7 1197 ⟨(by decide), rfl⟩ ⟨(by decide), rfl⟩ S (nI 0) (nI 0) _ h) cal_X9_copy kML_X9_205 ⟨rfl, rfl, Nat.le_of_ble_eq_true rfl, Nat.le_of_ble_eq_true rfl⟩ rfl rfl hl.1 (Nat.le_of_ble_eq_true rfl) dX9_laws_32) hS (fun S_4 H locs h hP hS => ?_)
    refine lv_iconst (v := (nI 0)) hx hb dX9_laws_35 (by decide) ?_
    refine lv_istore (lv' := [(5, .int (nI 0)), (4, .int (-1 : Int32)), (3, .int (-1 : Int32)), (2, .int x2_3), (0, .ref (Z.2.2.1 0)), (1, .int a1)]) hx hb dX9_laws_36 hl (by decide) rfl (fun ls hl => ?_)
    obtain ⟨f_38, h⟩ := h
    exact b_X9_laws_38 hi C  f_38 _ _ _ _ _ _ _ _ hP hS (lv_sub hl [4, 5, 3, 2, 1, 0] rfl) h
  · have h := h.1 c_2
    refine lv_bipush (v := (-3 : Int32)) hx hb dX9_laws_9 (by decide) ?_
    exact s_ri C hP hS h dX9_laws_11
def q_X9_part_6 (a1 : Int64) (a2 : Int64) (a3 : Int32) (S : St) (k : Int64 → Prop) : Nat → Int64 → Int64 → Prop := fun n_ => Nat.rec (motive := fun _ => Int64 → Int64 → Prop) (fun _ _ => False) (fun _ ih => fun x5 x7 => ((lg_cmp x7 (lN 0)) = (nI 0) → ((a3 = (nI 0) → (¬ x5 = (lN 0) ∧ (k (a1 / x5)))) ∧ (¬ a3 = (nI 0) → (¬ x5 = (lN 0) ∧ (k (a2 / x5)))))) ∧ (¬ (lg_cmp x7 (lN 0)) = (nI 0) → (¬ x7 = (lN 0) ∧ (∀ x9_6 : Int64, x9_6 = (x5 - x5 / x7 * x7) → (ih x7 x9_6))))) n_
theorem q_X9_part_6_s (a1 : Int64) (a2 : Int64) (a3 : Int32) (S : St) (k : Int64 → Prop) (n_ : Nat) (x5 : Int64) (x7 : Int64) : q_X9_part_6 a1 a2 a3 S k (n_ + 1) x5 x7 = (((lg_cmp x7 (lN 0)) = (nI 0) → ((a3 = (nI 0) → (¬ x5 = (lN 0) ∧ (k (a1 / x5)))) ∧ (¬ a3 = (nI 0) → (¬ x5 = (lN 0) ∧ (k (a2 / x5)))))) ∧ (¬ (lg_cmp x7 (lN 0)) = (nI 0) → (¬ x7 = (lN 0) ∧ (∀ x9_6 : Int64, x9_6 = (x5 - x5 / x7 * x7) → ((q_X9_part_6 a1 a2 a3 S k n_) x7 x9_6))))) := rfl
set_option maxRecDepth 100000 in
set_option maxHeartbeats 4000000 in
theorem b_X9_part_6 {p : Program} {l : Launch} {e : Env} {s : State} {m : MethodId} {args : Array Value} {below : List Frame} {meth : Method} {c : Code} {Z : ZT} (hi : injZ 10 Z) (C : Cxt (gM Z) p s m meth c args yX9_part cX9_part 11 (Option.some .long)) {a1 : Int64} {a2 : Int64} {a3 : Int32} {S : St} {k : Int64 → Prop}   : ∀ (n_ : Nat) (x5 : Int64) (x7 : Int64) (H : Heap) (locs : List Loc) (ls : Array Slot), va_P Z.1 vwCl (wl shM 10 Z S) H → va_S (aa 10 Z) s.heap H locs → lv_has ls 11 [(0, .long a1), (2, .long a2), (4, .int a3), (5, .long x5), (7, .long x7)] → q_X9_part_6 a1 a2 a3 S k n_ x5 x7 → W p l e (rmk 0 0) s m args below meth c H locs 0 0 (Ql below shM 10 Z args s (fun r S' => S' = S ∧ k r)) (F0 m 6 ls []) := by
  have g := gokM hi
  have hx := C.1.1
  have hb := C.1.2.1
  intro n_
  induction n_ with
  | zero => intro x5 x7 H locs ls hP hS hl h; exact h.elim
  | succ n_ ih =>
    intro x5 x7 H locs ls hP hS hl h
    rw [q_X9_part_6_s] at h
    refine lv_lload hx hb dX9_part_6 (lv_at hl 4 rfl) ?_
    refine lv_lconst (v := (lN 0)) hx hb dX9_part_8 (by decide) ?_
    refine W.lcmp hx hb dX9_part_9 ?_
    refine lv_if_eq (tgt := 31) hx hb dX9_part_10 (by decide) (fun c_1 => ?_) (fun c_1 => ?_)
    · have h := h.1 c_1
      refine lv_iload hx hb dX9_part_31 (lv_at hl 2 rfl) ?_
      refine lv_if_ne (tgt := 40) hx hb dX9_part_33 (by decide) (fun c_2 => ?_) (fun c_2 => ?_)
      · have h := h.2 c_2
        refine lv_lload_n hx hb dX9_part_40 rfl (lv_at hl 1 rfl) ?_
        refine lv_lload hx hb dX9_part_41 (lv_at hl 3 rfl) ?_
        have hn_3 := h.1
        have h := h.2
        refine lv_ldiv hx hb dX9_part_43 hn_3 ?_
        exact s_rl C hP hS ⟨rfl, h⟩ dX9_part_44
      · have h := h.1 c_2
        refine lv_lload_n hx hb dX9_part_36 rfl (lv_at hl 0 rfl) ?_
        refine lv_goto (tgt := 41) hx hb dX9_part_37 (by decide) ?_
        refine lv_lload hx hb dX9_part_41 (lv_at hl 3 rfl) ?_
        have hn_4 := h.1
        have h := h.2
        refine lv_ldiv hx hb dX9_part_43 hn_4 ?_
        exact s_rl C hP hS ⟨rfl, h⟩ dX9_part_44
    · have h := h.2 c_1
      refine lv_lload hx hb dX9_part_13 (lv_at hl 3 rfl) ?_
      refine lv_lload hx hb dX9_part_15 (lv_at hl 4 rfl) ?_
      have hn_5 := h.1
      have h := h.2
      refine lv_lrem hx hb dX9_part_17 hn_5 ?_
      refine lv_topl (fun x9_6 ex9_6 => ?_)
      have h := h x9_6 ex9_6
      refine lv_lstore (lv' := [(9, .long x9_6), (0, .long a1), (2, .long a2), (4, .int a3), (5, .long x5), (7, .long x7)]) hx hb dX9_part_18 hl (by decide) rfl (fun ls hl => ?_)
      refine lv_lload hx hb dX9_part_20 (lv_at hl 5 rfl) ?_
      refine lv_lstore (lv' := [(5, .long x7), (9, .long x9_6), (0, .long a1), (2, .long a2), (4, .int a3), (7, .long x7)]) hx hb dX9_part_22 hl (by decide) rfl (fun ls hl => ?_)
      refine lv_lload hx hb dX9_part_24 (lv_at hl 1 rfl) ?_
      refine lv_lstore (lv' := [(7, .long x9_6), (5, .long x7), (9, .long x9_6), (0, .long a1), (2, .long a2), (4, .int a3)]) hx hb dX9_part_26 hl (by decide) rfl (fun ls hl => ?_)
      refine lv_goto (tgt := 6) hx hb dX9_part_28 (by decide) ?_
      exact ih _ _ _ _ _ hP hS (lv_sub hl [3, 4, 5, 1, 0] rfl) h
def q_X9_part (S : St) (a1 : Int64) (a2 : Int64) (a3 : Int32) (k : Int64 → Prop) : Prop := ∃ f_6, q_X9_part_6 a1 a2 a3 S k f_6 a1 a2
set_option maxRecDepth 100000 in
set_option maxHeartbeats 4000000 in
theorem c_X9_part {l : Launch} {Z : ZT} (hi : injZ 10 Z) (S : St) (a1 : Int64) (a2 : Int64) (a3 : Int32) (k : Int64 → Prop) (h : q_X9_part S a1 a2 a3 k) : Ml l shM 10 Z (gM Z) yX9_part cX9_part 11 (Option.some .long) (rmk 0 0) [.long a1, .long a2, .int a3] S (fun r S' => S' = S ∧ k r) := by
  have g := gokM hi
  refine e_l (by decide) (Nat.le_of_ble_eq_true rfl) (lv := [(0, .long a1), (2, .long a2), (4, .int a3)]) rfl (fun p e s m args below meth c C hP hS ls hl => ?_)
  have hx := C.1.1
  have hb := C.1.2.1
  unfold q_X9_part at h
  refine lv_lload_n hx hb dX9_part_0 rfl (lv_at hl 0 rfl) ?_
  refine lv_lstore (lv' := [(5, .long a1), (0, .long a1), (2, .long a2), (4, .int a3)]) hx hb dX9_part_1 hl (by decide) rfl (fun ls hl => ?_)
  refine lv_lload_n hx hb dX9_part_3 rfl (lv_at hl 2 rfl) ?_
  refine lv_lstore (lv' := [(7, .long a2), (5, .long a1), (0, .long a1), (2, .long a2), (4, .int a3)]) hx hb dX9_part_4 hl (by decide) rfl (fun ls hl => ?_)
  obtain ⟨f_6, h⟩ := h
  exact b_X9_part_6 hi C  f_6 _ _ _ _ _ hP hS (lv_sub hl [2, 3, 4, 1, 0] rfl) h
def q_X9_food_198 (a1 : Int32) (a2 : Int32) (a3 : Int32) (a4 : Int32) (a5 : Int32) (a6 : Int32) (S : St) (k : Int64 → Prop) : Nat → Int64 → Int64 → Int32 → Prop := fun n_ => Nat.rec (motive := fun _ => Int64 → Int64 → Int32 → Prop) (fun _ _ _ => False) (fun _ ih => fun x7 x9 x11 => (a5 ≤ x11 → (q_X9_part S x7 x9 a6 (fun r_2 => (k r_2)))) ∧ (¬ a5 ≤ x11 → (∀ x9_3 : Int64, x9_3 = (x9 * (lN 10)) → (∀ x11_4 : Int32, x11_4 = x11 + (nI 1) → (ih x7 x9_3 x11_4))))) n_
theorem q_X9_food_198_s (a1 : Int32) (a2 : Int32) (a3 : Int32) (a4 : Int32) (a5 : Int32) (a6 : Int32) (S : St) (k : Int64 → Prop) (n_ : Nat) (x7 : Int64) (x9 : Int64) (x11 : Int32) : q_X9_food_198 a1 a2 a3 a4 a5 a6 S k (n_ + 1) x7 x9 x11 = ((a5 ≤ x11 → (q_X9_part S x7 x9 a6 (fun r_2 => (k r_2)))) ∧ (¬ a5 ≤ x11 → (∀ x9_3 : Int64, x9_3 = (x9 * (lN 10)) → (∀ x11_4 : Int32, x11_4 = x11 + (nI 1) → ((q_X9_food_198 a1 a2 a3 a4 a5 a6 S k n_) x7 x9_3 x11_4))))) := rfl
set_option maxRecDepth 100000 in
set_option maxHeartbeats 4000000 in
theorem b_X9_food_198 {p : Program} {l : Launch} {e : Env} {s : State} {m : MethodId} {args : Array Value} {below : List Frame} {meth : Method} {c : Code} {Z : ZT} (hi : injZ 10 Z) (C : Cxt (gM Z) p s m meth c args yX9_food cX9_food 17 (Option.some .long)) {a1 : Int32} {a2 : Int32} {a3 : Int32} {a4 : Int32} {a5 : Int32} {a6 : Int32} {S : St} {k : Int64 → Prop}   : ∀ (n_ : Nat) (x7 : Int64) (x9 : Int64) (x11 : Int32) (H : Heap) (locs : List Loc) (ls : Array Slot), va_P Z.1 vwCl (wl shM 10 Z S) H → va_S (aa 10 Z) s.heap H locs → lv_has ls 17 [(5, .int a5), (6, .int a6), (7, .long x7), (9, .long x9), (11, .int x11)] → q_X9_food_198 a1 a2 a3 a4 a5 a6 S k n_ x7 x9 x11 → W p l e (rmk 1 30) s m args below meth c H locs 0 0 (Ql below shM 10 Z args s (fun r S' => S' = S ∧ k r)) (F0 m 198 ls []) := by
  have g := gokM hi
  have hx := C.1.1
  have hb := C.1.2.1
  intro n_
  induction n_ with
  | zero => intro x7 x9 x11 H locs ls hP hS hl h; exact h.elim
  | succ n_ ih =>
    intro x7 x9 x11 H locs ls hP hS hl h
    rw [q_X9_food_198_s] at h
    refine lv_iload hx hb dX9_food_198 (lv_at hl 4 rfl) ?_
    refine lv_iload hx hb dX9_food_200 (lv_at hl 0 rfl) ?_
    refine lv_icmp_ge (tgt := 219) hx hb dX9_food_202 (by decide) (fun c_1 => ?_) (fun c_1 => ?_)
    · have h := h.1 c_1
      refine lv_lload hx hb dX9_food_219 (lv_at hl 2 rfl) ?_
      refine lv_lload hx hb dX9_food_221 (lv_at hl 3 rfl) ?_
      refine lv_iload hx hb dX9_food_223 (lv_at hl 1 rfl) ?_
      refine go_lp (run_S g C hP hS (As := [.long x7, .long x9, .int a6]) (rest := []) (c_X9_part hi S x7 x9 a6 _ h) cal_X9_part kML_X9_234 ⟨rfl, rfl, Nat.le_of_ble_eq_true rfl, Nat.le_of_ble_eq_true rfl⟩ rfl rfl hl.1 (Nat.le_of_ble_eq_true rfl) dX9_food_225) hS (fun r_2 H locs h hP hS => ?_)
      exact s_rl C hP hS ⟨rfl, h⟩ dX9_food_228
    · have h := h.2 c_1
      refine lv_lload hx hb dX9_food_205 (lv_at hl 3 rfl) ?_
      refine lv_ldc2 (v := (lN 10)) hx hb C.1.2.2.2.1 (C.1.2.2.2.2 _ (List.mem_cons_of_mem _ kCO_X9_232)) dX9_food_207 ?_
      refine lv_lmul hx hb dX9_food_210 ?_
      refine lv_topl (fun x9_3 ex9_3 => ?_)
      have h := h x9_3 ex9_3
      refine lv_lstore (lv' := [(9, .long x9_3), (5, .int a5), (6, .int a6), (7, .long x7), (11, .int x11)]) hx hb dX9_food_211 hl (by decide) rfl (fun ls hl => ?_)
      obtain ⟨x11_4, ex11_4⟩ : ∃ y_ : Int32, y_ = x11 + (nI 1) := ⟨_, rfl⟩
      have h := h x11_4 ex11_4
      refine lv_iinc (v := x11_4) (lv' := [(11, .int x11_4), (9, .long x9_3), (5, .int a5), (6, .int a6), (7, .long x7)]) hx hb dX9_food_213 hl (k := 4) rfl (by rw [ex11_4]; rfl) (by decide) rfl (fun ls hl => ?_)
      refine lv_goto (tgt := 198) hx hb dX9_food_216 (by decide) ?_
      exact ih _ _ _ _ _ _ hP hS (lv_sub hl [2, 3, 4, 1, 0] rfl) h
def q_X9_food_186 (a1 : Int32) (a2 : Int32) (a3 : Int32) (a4 : Int32) (a5 : Int32) (a6 : Int32) (S : St) (k : Int64 → Prop) (e_76 : Int64 → Int64 → Int32 → Prop) (x9 : Int64) (x11 : Int32) (t0 : Int64) (t1 : Int64) : Prop := ∀ x7_1 : Int64, x7_1 = (t1 + t0) → (∀ x11_2 : Int32, x11_2 = x11 + (nI 1) → (e_76 x7_1 x9 x11_2))
set_option maxRecDepth 100000 in
set_option maxHeartbeats 4000000 in
theorem b_X9_food_186 {p : Program} {l : Launch} {e : Env} {s : State} {m : MethodId} {args : Array Value} {below : List Frame} {meth : Method} {c : Code} {Z : ZT} (hi : injZ 10 Z) (C : Cxt (gM Z) p s m meth c args yX9_food cX9_food 17 (Option.some .long)) {a1 : Int32} {a2 : Int32} {a3 : Int32} {a4 : Int32} {a5 : Int32} {a6 : Int32} {S : St} {k : Int64 → Prop} {e_76 : Int64 → Int64 → Int32 → Prop}  (he_76 : ∀ (x7 : Int64) (x9 : Int64) (x11 : Int32) (H : Heap) (locs : List Loc) (ls : Array Slot), va_P Z.1 vwCl (wl shM 10 Z S) H → va_S (aa 10 Z) s.heap H locs → lv_has ls 17 [(1, .int a1), (2, .int a2), (3, .int a3), (4, .int a4), (5, .int a5), (6, .int a6), (7, .long x7), (9, .long x9), (11, .int x11)] → e_76 x7 x9 x11 → W p l e (rmk 1 30) s m args below meth c H locs 0 0 (Ql below shM 10 Z args s (fun r S' => S' = S ∧ k r)) (F0 m 76 ls [])) (x9 : Int64) (x11 : Int32) (t0 : Int64) (t1 : Int64) (H : Heap) (locs : List Loc) (ls : Array Slot) (hP : va_P Z.1 vwCl (wl shM 10 Z S) H) (hS : va_S (aa 10 Z) s.heap H locs) (hl : lv_has ls 17 [(1, .int a1), (2, .int a2), (3, .int a3), (4, .int a4), (5, .int a5), (6, .int a6), (9, .long x9), (11, .int x11)]) (h : q_X9_food_186 a1 a2 a3 a4 a5 a6 S k e_76 x9 x11 t0 t1) : W p l e (rmk 1 30) s m args below meth c H locs 0 0 (Ql below shM 10 Z args s (fun r S' => S' = S ∧ k r)) (F0 m 186 ls [.long t0, .long t1]) := by
  have g := gokM hi
  have hx := C.1.1
  have hb := C.1.2.1
  unfold q_X9_food_186 at h
  refine lv_ladd hx hb dX9_food_186 ?_
  refine lv_topl (fun x7_1 ex7_1 => ?_)
  have h := h x7_1 ex7_1
  refine lv_lstore (lv' := [(7, .long x7_1), (1, .int a1), (2, .int a2), (3, .int a3), (4, .int a4), (5, .int a5), (6, .int a6), (9, .long x9), (11, .int x11)]) hx hb dX9_food_187 hl (by decide) rfl (fun ls hl => ?_)
  obtain ⟨x11_2, ex11_2⟩ : ∃ y_ : Int32, y_ = x11 + (nI 1) := ⟨_, rfl⟩
  have h := h x11_2 ex11_2
  refine lv_iinc (v := x11_2) (lv' := [(11, .int x11_2), (7, .long x7_1), (1, .int a1), (2, .int a2), (3, .int a3), (4, .int a4), (5, .int a5), (6, .int a6), (9, .long x9)]) hx hb dX9_food_189 hl (k := 8) rfl (by rw [ex11_2]; rfl) (by decide) rfl (fun ls hl => ?_)
  refine lv_goto (tgt := 76) hx hb dX9_food_192 (by decide) ?_
  exact he_76 _ _ _ _ _ _ hP hS (lv_sub hl [2, 3, 4, 5, 6, 7, 1, 8, 0] rfl) h
def q_X9_food_164 (a1 : Int32) (a2 : Int32) (a3 : Int32) (a4 : Int32) (a5 : Int32) (a6 : Int32) (S : St) (k : Int64 → Prop) (e_76 : Int64 → Int64 → Int32 → Prop) (e_94 : Int64 → Int64 → Int32 → Int32 → Int64 → Int32 → Prop) (x7 : Int64) (x9 : Int64) (x11 : Int32) (x13 : Int64) (x15 : Int32) (t0 : Int32) (t1 : Int32) : Prop := ∀ x12_1 : Int32, x12_1 = (t1 - t0) → (∀ x15_2 : Int32, x15_2 = x15 + (nI 1) → (e_94 x7 x9 x11 x12_1 x13 x15_2))
set_option maxRecDepth 100000 in
set_option maxHeartbeats 4000000 in
theorem b_X9_food_164 {p : Program} {l : Launch} {e : Env} {s : State} {m : MethodId} {args : Array Value} {below : List Frame} {meth : Method} {c : Code} {Z : ZT} (hi : injZ 10 Z) (C : Cxt (gM Z) p s m meth c args yX9_food cX9_food 17 (Option.some .long)) {a1 : Int32} {a2 : Int32} {a3 : Int32} {a4 : Int32} {a5 : Int32} {a6 : Int32} {S : St} {k : Int64 → Prop} {e_76 : Int64 → Int64 → Int32 → Prop} {e_94 : Int64 → Int64 → Int32 → Int32 → Int64 → Int32 → Prop}  (he_76 : ∀ (x7 : Int64) (x9 : Int64) (x11 : Int32) (H : Heap) (locs : List Loc) (ls : Array Slot), va_P Z.1 vwCl (wl shM 10 Z S) H → va_S (aa 10 Z) s.heap H locs → lv_has ls 17 [(1, .int a1), (2, .int a2), (3, .int a3), (4, .int a4), (5, .int a5), (6, .int a6), (7, .long x7), (9, .long x9), (11, .int x11)] → e_76 x7 x9 x11 → W p l e (rmk 1 30) s m args below meth c H locs 0 0 (Ql below shM 10 Z args s (fun r S' => S' = S ∧ k r)) (F0 m 76 ls [])) (he_94 : ∀ (x7 : Int64) (x9 : Int64) (x11 : Int32) (x12 : Int32) (x13 : Int64) (x15 : Int32) (H : Heap) (locs : List Loc) (ls : Array Slot), va_P Z.1 vwCl (wl shM 10 Z S) H → va_S (aa 10 Z) s.heap H locs → lv_has ls 17 [(1, .int a1), (2, .int a2), (3, .int a3), (4, .int a4), (5, .int a5), (6, .int a6), (7, .long x7), (9, .long x9), (11, .int x11), (12, .int x12), (13, .long x13), (15, .int x15)] → e_94 x7 x9 x11 x12 x13 x15 → W p l e (rmk 1 30) s m args below meth c H locs 0 0 (Ql below shM 10 Z args s (fun r S' => S' = S ∧ k r)) (F0 m 94 ls [])) (x7 : Int64) (x9 : Int64) (x11 : Int32) (x13 : Int64) (x15 : Int32) (t0 : Int32) (t1 : Int32) (H : Heap) (locs : List Loc) (ls : Array Slot) (hP : va_P Z.1 vwCl (wl shM 10 Z S) H) (hS : va_S (aa 10 Z) s.heap H locs) (hl : lv_has ls 17 [(1, .int a1), (2, .int a2), (3, .int a3), (4, .int a4), (5, .int a5), (6, .int a6), (7, .long x7), (9, .long x9), (11, .int x11), (13, .long x13), (15, .int x15)]) (h : q_X9_food_164 a1 a2 a3 a4 a5 a6 S k e_76 e_94 x7 x9 x11 x13 x15 t0 t1) : W p l e (rmk 1 30) s m args below meth c H locs 0 0 (Ql below shM 10 Z args s (fun r S' => S' = S ∧ k r)) (F0 m 164 ls [.int t0, .int t1]) := by
  have g := gokM hi
  have hx := C.1.1
  have hb := C.1.2.1
  unfold q_X9_food_164 at h
  refine lv_isub hx hb dX9_food_164 ?_
  refine lv_topi (fun x12_1 ex12_1 => ?_)
  have h := h x12_1 ex12_1
  refine lv_istore (lv' := [(12, .int x12_1), (1, .int a1), (2, .int a2), (3, .int a3), (4, .int a4), (5, .int a5), (6, .int a6), (7, .long x7), (9, .long x9), (11, .int x11), (13, .long x13), (15, .int x15)]) hx hb dX9_food_165 hl (by decide) rfl (fun ls hl => ?_)
  obtain ⟨x15_2, ex15_2⟩ : ∃ y_ : Int32, y_ = x15 + (nI 1) := ⟨_, rfl⟩
  have h := h x15_2 ex15_2
  refine lv_iinc (v := x15_2) (lv' := [(15, .int x15_2), (12, .int x12_1), (1, .int a1), (2, .int a2), (3, .int a3), (4, .int a4), (5, .int a5), (6, .int a6), (7, .long x7), (9, .long x9), (11, .int x11), (13, .long x13)]) hx hb dX9_food_167 hl (k := 11) rfl (by rw [ex15_2]; rfl) (by decide) rfl (fun ls hl => ?_)
  refine lv_goto (tgt := 94) hx hb dX9_food_170 (by decide) ?_
  exact he_94 _ _ _ _ _ _ _ _ _ hP hS (lv_sub hl [2, 3, 4, 5, 6, 7, 8, 9, 10, 1, 11, 0] rfl) h
def q_X9_food_149 (a1 : Int32) (a2 : Int32) (a3 : Int32) (a4 : Int32) (a5 : Int32) (a6 : Int32) (S : St) (k : Int64 → Prop) (e_76 : Int64 → Int64 → Int32 → Prop) (e_94 : Int64 → Int64 → Int32 → Int32 → Int64 → Int32 → Prop) (x7 : Int64) (x9 : Int64) (x11 : Int32) (x13 : Int64) (x15 : Int32) (t0 : Int32) (t1 : Int32) : Prop := ∀ x12_1 : Int32, x12_1 = (t1 + t0) → (((nI 0) ≤ x12_1 → (q_X9_food_164 a1 a2 a3 a4 a5 a6 S k e_76 e_94 x7 x9 x11 x13 x15 a2 x12_1)) ∧ (¬ (nI 0) ≤ x12_1 → (q_X9_food_164 a1 a2 a3 a4 a5 a6 S k e_76 e_94 x7 x9 x11 x13 x15 (nI 0) x12_1)))
set_option maxRecDepth 100000 in
set_option maxHeartbeats 4000000 in
theorem b_X9_food_149 {p : Program} {l : Launch} {e : Env} {s : State} {m : MethodId} {args : Array Value} {below : List Frame} {meth : Method} {c : Code} {Z : ZT} (hi : injZ 10 Z) (C : Cxt (gM Z) p s m meth c args yX9_food cX9_food 17 (Option.some .long)) {a1 : Int32} {a2 : Int32} {a3 : Int32} {a4 : Int32} {a5 : Int32} {a6 : Int32} {S : St} {k : Int64 → Prop} {e_76 : Int64 → Int64 → Int32 → Prop} {e_94 : Int64 → Int64 → Int32 → Int32 → Int64 → Int32 → Prop}  (he_76 : ∀ (x7 : Int64) (x9 : Int64) (x11 : Int32) (H : Heap) (locs : List Loc) (ls : Array Slot), va_P Z.1 vwCl (wl shM 10 Z S) H → va_S (aa 10 Z) s.heap H locs → lv_has ls 17 [(1, .int a1), (2, .int a2), (3, .int a3), (4, .int a4), (5, .int a5), (6, .int a6), (7, .long x7), (9, .long x9), (11, .int x11)] → e_76 x7 x9 x11 → W p l e (rmk 1 30) s m args below meth c H locs 0 0 (Ql below shM 10 Z args s (fun r S' => S' = S ∧ k r)) (F0 m 76 ls [])) (he_94 : ∀ (x7 : Int64) (x9 : Int64) (x11 : Int32) (x12 : Int32) (x13 : Int64) (x15 : Int32) (H : Heap) (locs : List Loc) (ls : Array Slot), va_P Z.1 vwCl (wl shM 10 Z S) H → va_S (aa 10 Z) s.heap H locs → lv_has ls 17 [(1, .int a1), (2, .int a2), (3, .int a3), (4, .int a4), (5, .int a5), (6, .int a6), (7, .long x7), (9, .long x9), (11, .int x11), (12, .int x12), (13, .long x13), (15, .int x15)] → e_94 x7 x9 x11 x12 x13 x15 → W p l e (rmk 1 30) s m args below meth c H locs 0 0 (Ql below shM 10 Z args s (fun r S' => S' = S ∧ k r)) (F0 m 94 ls [])) (x7 : Int64) (x9 : Int64) (x11 : Int32) (x13 : Int64) (x15 : Int32) (t0 : Int32) (t1 : Int32) (H : Heap) (locs : List Loc) (ls : Array Slot) (hP : va_P Z.1 vwCl (wl shM 10 Z S) H) (hS : va_S (aa 10 Z) s.heap H locs) (hl : lv_has ls 17 [(1, .int a1), (2, .int a2), (3, .int a3), (4, .int a4), (5, .int a5), (6, .int a6), (7, .long x7), (9, .long x9), (11, .int x11), (13, .long x13), (15, .int x15)]) (h : q_X9_food_149 a1 a2 a3 a4 a5 a6 S k e_76 e_94 x7 x9 x11 x13 x15 t0 t1) : W p l e (rmk 1 30) s m args below meth c H locs 0 0 (Ql below shM 10 Z args s (fun r S' => S' = S ∧ k r)) (F0 m 149 ls [.int t0, .int t1]) := by
  have g := gokM hi
  have hx := C.1.1
  have hb := C.1.2.1
  unfold q_X9_food_149 at h
  refine lv_iadd hx hb dX9_food_149 ?_
  refine lv_topi (fun x12_1 ex12_1 => ?_)
  have h := h x12_1 ex12_1
  refine lv_istore (lv' := [(12, .int x12_1), (1, .int a1), (2, .int a2), (3, .int a3), (4, .int a4), (5, .int a5), (6, .int a6), (7, .long x7), (9, .long x9), (11, .int x11), (13, .long x13), (15, .int x15)]) hx hb dX9_food_150 hl (by decide) rfl (fun ls hl => ?_)
  refine lv_iload hx hb dX9_food_152 (lv_at hl 0 rfl) ?_
  refine lv_iload hx hb dX9_food_154 (lv_at hl 0 rfl) ?_
  refine lv_if_ge (tgt := 163) hx hb dX9_food_156 (by decide) (fun c_2 => ?_) (fun c_2 => ?_)
  · have h := h.1 c_2
    refine lv_iload_n hx hb dX9_food_163 rfl (lv_at hl 2 rfl) ?_
    exact b_X9_food_164 hi C he_76 he_94 _ _ _ _ _ _ _ _ _ _ hP hS (lv_sub hl [1, 2, 3, 4, 5, 6, 7, 8, 9, 10, 11] rfl) h
  · have h := h.2 c_2
    refine lv_iconst (v := (nI 0)) hx hb dX9_food_159 (by decide) ?_
    refine lv_goto (tgt := 164) hx hb dX9_food_160 (by decide) ?_
    exact b_X9_food_164 hi C he_76 he_94 _ _ _ _ _ _ _ _ _ _ hP hS (lv_sub hl [1, 2, 3, 4, 5, 6, 7, 8, 9, 10, 11] rfl) h
def q_X9_food_144 (a1 : Int32) (a2 : Int32) (a3 : Int32) (a4 : Int32) (a5 : Int32) (a6 : Int32) (S : St) (k : Int64 → Prop) (e_76 : Int64 → Int64 → Int32 → Prop) (e_94 : Int64 → Int64 → Int32 → Int32 → Int64 → Int32 → Prop) (x7 : Int64) (x9 : Int64) (x11 : Int32) (x13 : Int64) (x15 : Int32) (t0 : Int32) : Prop := q_X9_food_149 a1 a2 a3 a4 a5 a6 S k e_76 e_94 x7 x9 x11 x13 x15 (nI 0) t0
set_option maxRecDepth 100000 in
set_option maxHeartbeats 4000000 in
theorem b_X9_food_144 {p : Program} {l : Launch} {e : Env} {s : State} {m : MethodId} {args : Array Value} {below : List Frame} {meth : Method} {c : Code} {Z : ZT} (hi : injZ 10 Z) (C : Cxt (gM Z) p s m meth c args yX9_food cX9_food 17 (Option.some .long)) {a1 : Int32} {a2 : Int32} {a3 : Int32} {a4 : Int32} {a5 : Int32} {a6 : Int32} {S : St} {k : Int64 → Prop} {e_76 : Int64 → Int64 → Int32 → Prop} {e_94 : Int64 → Int64 → Int32 → Int32 → Int64 → Int32 → Prop}  (he_76 : ∀ (x7 : Int64) (x9 : Int64) (x11 : Int32) (H : Heap) (locs : List Loc) (ls : Array Slot), va_P Z.1 vwCl (wl shM 10 Z S) H → va_S (aa 10 Z) s.heap H locs → lv_has ls 17 [(1, .int a1), (2, .int a2), (3, .int a3), (4, .int a4), (5, .int a5), (6, .int a6), (7, .long x7), (9, .long x9), (11, .int x11)] → e_76 x7 x9 x11 → W p l e (rmk 1 30) s m args below meth c H locs 0 0 (Ql below shM 10 Z args s (fun r S' => S' = S ∧ k r)) (F0 m 76 ls [])) (he_94 : ∀ (x7 : Int64) (x9 : Int64) (x11 : Int32) (x12 : Int32) (x13 : Int64) (x15 : Int32) (H : Heap) (locs : List Loc) (ls : Array Slot), va_P Z.1 vwCl (wl shM 10 Z S) H → va_S (aa 10 Z) s.heap H locs → lv_has ls 17 [(1, .int a1), (2, .int a2), (3, .int a3), (4, .int a4), (5, .int a5), (6, .int a6), (7, .long x7), (9, .long x9), (11, .int x11), (12, .int x12), (13, .long x13), (15, .int x15)] → e_94 x7 x9 x11 x12 x13 x15 → W p l e (rmk 1 30) s m args below meth c H locs 0 0 (Ql below shM 10 Z args s (fun r S' => S' = S ∧ k r)) (F0 m 94 ls [])) (x7 : Int64) (x9 : Int64) (x11 : Int32) (x13 : Int64) (x15 : Int32) (t0 : Int32) (H : Heap) (locs : List Loc) (ls : Array Slot) (hP : va_P Z.1 vwCl (wl shM 10 Z S) H) (hS : va_S (aa 10 Z) s.heap H locs) (hl : lv_has ls 17 [(1, .int a1), (2, .int a2), (3, .int a3), (4, .int a4), (5, .int a5), (6, .int a6), (7, .long x7), (9, .long x9), (11, .int x11), (13, .long x13), (15, .int x15)]) (h : q_X9_food_144 a1 a2 a3 a4 a5 a6 S k e_76 e_94 x7 x9 x11 x13 x15 t0) : W p l e (rmk 1 30) s m args below meth c H locs 0 0 (Ql below shM 10 Z args s (fun r S' => S' = S ∧ k r)) (F0 m 144 ls [.int t0]) := by
  have g := gokM hi
  have hx := C.1.1
  have hb := C.1.2.1
  unfold q_X9_food_144 at h
  refine lv_iconst (v := (nI 0)) hx hb dX9_food_144 (by decide) ?_
  refine lv_goto (tgt := 149) hx hb dX9_food_145 (by decide) ?_
  exact b_X9_food_149 hi C he_76 he_94 _ _ _ _ _ _ _ _ _ _ hP hS (lv_sub hl [0, 1, 2, 3, 4, 5, 6, 7, 8, 9, 10] rfl) h
def q_X9_food_129 (a1 : Int32) (a2 : Int32) (a3 : Int32) (a4 : Int32) (a5 : Int32) (a6 : Int32) (S : St) (k : Int64 → Prop) (e_76 : Int64 → Int64 → Int32 → Prop) (e_94 : Int64 → Int64 → Int32 → Int32 → Int64 → Int32 → Prop) (x7 : Int64) (x9 : Int64) (x11 : Int32) (x12 : Int32) (x15 : Int32) (x16 : Int32) (t0 : Int64) (t1 : Int64) : Prop := ∀ x13_1 : Int64, x13_1 = (t1 * t0) → ((x12 < (nI 0) → (q_X9_food_144 a1 a2 a3 a4 a5 a6 S k e_76 e_94 x7 x9 x11 x13_1 x15 x12)) ∧ (¬ x12 < (nI 0) → ((x16 = (nI 0) → (q_X9_food_149 a1 a2 a3 a4 a5 a6 S k e_76 e_94 x7 x9 x11 x13_1 x15 a3 x12)) ∧ (¬ x16 = (nI 0) → (q_X9_food_144 a1 a2 a3 a4 a5 a6 S k e_76 e_94 x7 x9 x11 x13_1 x15 x12)))))
set_option maxRecDepth 100000 in
set_option maxHeartbeats 4000000 in
theorem b_X9_food_129 {p : Program} {l : Launch} {e : Env} {s : State} {m : MethodId} {args : Array Value} {below : List Frame} {meth : Method} {c : Code} {Z : ZT} (hi : injZ 10 Z) (C : Cxt (gM Z) p s m meth c args yX9_food cX9_food 17 (Option.some .long)) {a1 : Int32} {a2 : Int32} {a3 : Int32} {a4 : Int32} {a5 : Int32} {a6 : Int32} {S : St} {k : Int64 → Prop} {e_76 : Int64 → Int64 → Int32 → Prop} {e_94 : Int64 → Int64 → Int32 → Int32 → Int64 → Int32 → Prop}  (he_76 : ∀ (x7 : Int64) (x9 : Int64) (x11 : Int32) (H : Heap) (locs : List Loc) (ls : Array Slot), va_P Z.1 vwCl (wl shM 10 Z S) H → va_S (aa 10 Z) s.heap H locs → lv_has ls 17 [(1, .int a1), (2, .int a2), (3, .int a3), (4, .int a4), (5, .int a5), (6, .int a6), (7, .long x7), (9, .long x9), (11, .int x11)] → e_76 x7 x9 x11 → W p l e (rmk 1 30) s m args below meth c H locs 0 0 (Ql below shM 10 Z args s (fun r S' => S' = S ∧ k r)) (F0 m 76 ls [])) (he_94 : ∀ (x7 : Int64) (x9 : Int64) (x11 : Int32) (x12 : Int32) (x13 : Int64) (x15 : Int32) (H : Heap) (locs : List Loc) (ls : Array Slot), va_P Z.1 vwCl (wl shM 10 Z S) H → va_S (aa 10 Z) s.heap H locs → lv_has ls 17 [(1, .int a1), (2, .int a2), (3, .int a3), (4, .int a4), (5, .int a5), (6, .int a6), (7, .long x7), (9, .long x9), (11, .int x11), (12, .int x12), (13, .long x13), (15, .int x15)] → e_94 x7 x9 x11 x12 x13 x15 → W p l e (rmk 1 30) s m args below meth c H locs 0 0 (Ql below shM 10 Z args s (fun r S' => S' = S ∧ k r)) (F0 m 94 ls [])) (x7 : Int64) (x9 : Int64) (x11 : Int32) (x12 : Int32) (x15 : Int32) (x16 : Int32) (t0 : Int64) (t1 : Int64) (H : Heap) (locs : List Loc) (ls : Array Slot) (hP : va_P Z.1 vwCl (wl shM 10 Z S) H) (hS : va_S (aa 10 Z) s.heap H locs) (hl : lv_has ls 17 [(1, .int a1), (2, .int a2), (3, .int a3), (4, .int a4), (5, .int a5), (6, .int a6), (7, .long x7), (9, .long x9), (11, .int x11), (12, .int x12), (15, .int x15), (16, .int x16)]) (h : q_X9_food_129 a1 a2 a3 a4 a5 a6 S k e_76 e_94 x7 x9 x11 x12 x15 x16 t0 t1) : W p l e (rmk 1 30) s m args below meth c H locs 0 0 (Ql below shM 10 Z args s (fun r S' => S' = S ∧ k r)) (F0 m 129 ls [.long t0, .long t1]) := by
  have g := gokM hi
  have hx := C.1.1
  have hb := C.1.2.1
  unfold q_X9_food_129 at h
  refine lv_lmul hx hb dX9_food_129 ?_
  refine lv_topl (fun x13_1 ex13_1 => ?_)
  have h := h x13_1 ex13_1
  refine lv_lstore (lv' := [(13, .long x13_1), (1, .int a1), (2, .int a2), (3, .int a3), (4, .int a4), (5, .int a5), (6, .int a6), (7, .long x7), (9, .long x9), (11, .int x11), (12, .int x12), (15, .int x15), (16, .int x16)]) hx hb dX9_food_130 hl (by decide) rfl (fun ls hl => ?_)
  refine lv_iload hx hb dX9_food_132 (lv_at hl 10 rfl) ?_
  refine lv_iload hx hb dX9_food_134 (lv_at hl 10 rfl) ?_
  refine lv_if_lt (tgt := 144) hx hb dX9_food_136 (by decide) (fun c_2 => ?_) (fun c_2 => ?_)
  · have h := h.1 c_2
    exact b_X9_food_144 hi C he_76 he_94 _ _ _ _ _ _ _ _ _ hP hS (lv_sub hl [1, 2, 3, 4, 5, 6, 7, 8, 9, 0, 11] rfl) h
  · have h := h.2 c_2
    refine lv_iload hx hb dX9_food_139 (lv_at hl 12 rfl) ?_
    refine lv_if_eq (tgt := 148) hx hb dX9_food_141 (by decide) (fun c_3 => ?_) (fun c_3 => ?_)
    · have h := h.1 c_3
      refine lv_iload_n hx hb dX9_food_148 rfl (lv_at hl 3 rfl) ?_
      exact b_X9_food_149 hi C he_76 he_94 _ _ _ _ _ _ _ _ _ _ hP hS (lv_sub hl [1, 2, 3, 4, 5, 6, 7, 8, 9, 0, 11] rfl) h
    · have h := h.2 c_3
      exact b_X9_food_144 hi C he_76 he_94 _ _ _ _ _ _ _ _ _ hP hS (lv_sub hl [1, 2, 3, 4, 5, 6, 7, 8, 9, 0, 11] rfl) h
def q_X9_food_94 (a1 : Int32) (a2 : Int32) (a3 : Int32) (a4 : Int32) (a5 : Int32) (a6 : Int32) (S : St) (k : Int64 → Prop) (e_76 : Int64 → Int64 → Int32 → Prop) : Nat → Int64 → Int64 → Int32 → Int32 → Int64 → Int32 → Prop := fun n_ => Nat.rec (motive := fun _ => Int64 → Int64 → Int32 → Int32 → Int64 → Int32 → Prop) (fun _ _ _ _ _ _ => False) (fun _ ih => fun x7 x9 x11 x12 x13 x15 => (a5 ≤ x15 → (((nI 0) ≤ x12 → (q_X9_food_186 a1 a2 a3 a4 a5 a6 S k e_76 x9 x11 x13 x7)) ∧ (¬ (nI 0) ≤ x12 → (q_X9_food_186 a1 a2 a3 a4 a5 a6 S k e_76 x9 x11 (lN 0) x7)))) ∧ (¬ a5 ≤ x15 → (q_X9_has S x11 x15 (fun r_3 => ((r_3 = (nI 0) → (q_X9_food_129 a1 a2 a3 a4 a5 a6 S k e_76 ih x7 x9 x11 x12 x15 r_3 (((nI 10) - a4)).toInt64 x13)) ∧ (¬ r_3 = (nI 0) → (q_X9_food_129 a1 a2 a3 a4 a5 a6 S k e_76 ih x7 x9 x11 x12 x15 r_3 a4.toInt64 x13))))))) n_
theorem q_X9_food_94_s (a1 : Int32) (a2 : Int32) (a3 : Int32) (a4 : Int32) (a5 : Int32) (a6 : Int32) (S : St) (k : Int64 → Prop) (e_76 : Int64 → Int64 → Int32 → Prop) (n_ : Nat) (x7 : Int64) (x9 : Int64) (x11 : Int32) (x12 : Int32) (x13 : Int64) (x15 : Int32) : q_X9_food_94 a1 a2 a3 a4 a5 a6 S k e_76 (n_ + 1) x7 x9 x11 x12 x13 x15 = ((a5 ≤ x15 → (((nI 0) ≤ x12 → (q_X9_food_186 a1 a2 a3 a4 a5 a6 S k e_76 x9 x11 x13 x7)) ∧ (¬ (nI 0) ≤ x12 → (q_X9_food_186 a1 a2 a3 a4 a5 a6 S k e_76 x9 x11 (lN 0) x7)))) ∧ (¬ a5 ≤ x15 → (q_X9_has S x11 x15 (fun r_3 => ((r_3 = (nI 0) → (q_X9_food_129 a1 a2 a3 a4 a5 a6 S k e_76 (q_X9_food_94 a1 a2 a3 a4 a5 a6 S k e_76 n_) x7 x9 x11 x12 x15 r_3 (((nI 10) - a4)).toInt64 x13)) ∧ (¬ r_3 = (nI 0) → (q_X9_food_129 a1 a2 a3 a4 a5 a6 S k e_76 (q_X9_food_94 a1 a2 a3 a4 a5 a6 S k e_76 n_) x7 x9 x11 x12 x15 r_3 a4.toInt64 x13))))))) := rfl
set_option maxRecDepth 100000 in
set_option maxHeartbeats 4000000 in
theorem b_X9_food_94 {p : Program} {l : Launch} {e : Env} {s : State} {m : MethodId} {args : Array Value} {below : List Frame} {meth : Method} {c : Code} {Z : ZT} (hi : injZ 10 Z) (C : Cxt (gM Z) p s m meth c args yX9_food cX9_food 17 (Option.some .long)) {a1 : Int32} {a2 : Int32} {a3 : Int32} {a4 : Int32} {a5 : Int32} {a6 : Int32} {S : St} {k : Int64 → Prop} {e_76 : Int64 → Int64 → Int32 → Prop}  (he_76 : ∀ (x7 : Int64) (x9 : Int64) (x11 : Int32) (H : Heap) (locs : List Loc) (ls : Array Slot), va_P Z.1 vwCl (wl shM 10 Z S) H → va_S (aa 10 Z) s.heap H locs → lv_has ls 17 [(1, .int a1), (2, .int a2), (3, .int a3), (4, .int a4), (5, .int a5), (6, .int a6), (7, .long x7), (9, .long x9), (11, .int x11)] → e_76 x7 x9 x11 → W p l e (rmk 1 30) s m args below meth c H locs 0 0 (Ql below shM 10 Z args s (fun r S' => S' = S ∧ k r)) (F0 m 76 ls [])) : ∀ (n_ : Nat) (x7 : Int64) (x9 : Int64) (x11 : Int32) (x12 : Int32) (x13 : Int64) (x15 : Int32) (H : Heap) (locs : List Loc) (ls : Array Slot), va_P Z.1 vwCl (wl shM 10 Z S) H → va_S (aa 10 Z) s.heap H locs → lv_has ls 17 [(1, .int a1), (2, .int a2), (3, .int a3), (4, .int a4), (5, .int a5), (6, .int a6), (7, .long x7), (9, .long x9), (11, .int x11), (12, .int x12), (13, .long x13), (15, .int x15)] → q_X9_food_94 a1 a2 a3 a4 a5 a6 S k e_76 n_ x7 x9 x11 x12 x13 x15 → W p l e (rmk 1 30) s m args below meth c H locs 0 0 (Ql below shM 10 Z args s (fun r S' => S' = S ∧ k r)) (F0 m 94 ls []) := by
  have g := gokM hi
  have hx := C.1.1
  have hb := C.1.2.1
  intro n_
  induction n_ with
  | zero => intro x7 x9 x11 x12 x13 x15 H locs ls hP hS hl h; exact h.elim
  | succ n_ ih =>
    intro x7 x9 x11 x12 x13 x15 H locs ls hP hS hl h
    rw [q_X9_food_94_s] at h
    refine lv_iload hx hb dX9_food_94 (lv_at hl 11 rfl) ?_
    refine lv_iload hx hb dX9_food_96 (lv_at hl 4 rfl) ?_
    refine lv_icmp_ge (tgt := 173) hx hb dX9_food_98 (by decide) (fun c_1 => ?_) (fun c_1 => ?_)
    · have h := h.1 c_1
      refine lv_lload hx hb dX9_food_173 (lv_at hl 6 rfl) ?_
      refine lv_iload hx hb dX9_food_175 (lv_at hl 9 rfl) ?_
      refine lv_if_ge (tgt := 184) hx hb dX9_food_177 (by decide) (fun c_2 => ?_) (fun c_2 => ?_)
      · have h := h.1 c_2
        refine lv_lload hx hb dX9_food_184 (lv_at hl 10 rfl) ?_
        exact b_X9_food_186 hi C he_76 _ _ _ _ _ _ _ hP hS (lv_sub hl [0, 1, 2, 3, 4, 5, 7, 8] rfl) h
      · have h := h.2 c_2
        refine lv_lconst (v := (lN 0)) hx hb dX9_food_180 (by decide) ?_
        refine lv_goto (tgt := 186) hx hb dX9_food_181 (by decide) ?_
        exact b_X9_food_186 hi C he_76 _ _ _ _ _ _ _ hP hS (lv_sub hl [0, 1, 2, 3, 4, 5, 7, 8] rfl) h
    · have h := h.2 c_1
      refine lv_iload hx hb dX9_food_101 (lv_at hl 8 rfl) ?_
      refine lv_iload hx hb dX9_food_103 (lv_at hl 11 rfl) ?_
      refine go_ip (run_S g C hP hS (As := [.int x11, .int x15]) (rest := []) (c_X9_has hi S x11 x15 _ h) cal_X9_has kML_X9_52 ⟨rfl, rfl, Nat.le_of_ble_eq_true rfl, Nat.le_of_ble_eq_true rfl⟩ rfl rfl hl.1 (Nat.le_of_ble_eq_true rfl) dX9_food_105) hS (fun r_3 H locs h hP hS => ?_)
      obtain ⟨hbr_3, h⟩ := h
      refine lv_istore (lv' := [(16, .int r_3), (1, .int a1), (2, .int a2), (3, .int a3), (4, .int a4), (5, .int a5), (6, .int a6), (7, .long x7), (9, .long x9), (11, .int x11), (12, .int x12), (13, .long x13), (15, .int x15)]) hx hb dX9_food_108 hl (by decide) rfl (fun ls hl => ?_)
      refine lv_lload hx hb dX9_food_110 (lv_at hl 11 rfl) ?_
      refine lv_iload hx hb dX9_food_112 (lv_at hl 0 rfl) ?_
      refine lv_if_eq (tgt := 123) hx hb dX9_food_114 (by decide) (fun c_4 => ?_) (fun c_4 => ?_)
      · have h := h.1 c_4
        refine lv_bipush (v := (nI 10)) hx hb dX9_food_123 (by decide) ?_
        refine lv_iload hx hb dX9_food_125 (lv_at hl 4 rfl) ?_
        refine lv_isub hx hb dX9_food_127 ?_
        refine lv_i2l hx hb dX9_food_128 rfl ?_
        exact b_X9_food_129 hi C he_76 ih _ _ _ _ _ _ _ _ _ _ _ hP hS (lv_sub hl [1, 2, 3, 4, 5, 6, 7, 8, 9, 10, 12, 0] rfl) h
      · have h := h.2 c_4
        refine lv_iload hx hb dX9_food_117 (lv_at hl 4 rfl) ?_
        refine lv_i2l hx hb dX9_food_119 rfl ?_
        refine lv_goto (tgt := 129) hx hb dX9_food_120 (by decide) ?_
        exact b_X9_food_129 hi C he_76 ih _ _ _ _ _ _ _ _ _ _ _ hP hS (lv_sub hl [1, 2, 3, 4, 5, 6, 7, 8, 9, 10, 12, 0] rfl) h
def q_X9_food_76 (a1 : Int32) (a2 : Int32) (a3 : Int32) (a4 : Int32) (a5 : Int32) (a6 : Int32) (S : St) (k : Int64 → Prop) : Nat → Int64 → Int64 → Int32 → Prop := fun n_ => Nat.rec (motive := fun _ => Int64 → Int64 → Int32 → Prop) (fun _ _ _ => False) (fun _ ih => fun x7 x9 x11 => (((nI 1) <<< (a5 &&& 31)) ≤ x11 → (∃ f_198, q_X9_food_198 a1 a2 a3 a4 a5 a6 S k f_198 x7 x9 (nI 0))) ∧ (¬ ((nI 1) <<< (a5 &&& 31)) ≤ x11 → (∃ f_94, q_X9_food_94 a1 a2 a3 a4 a5 a6 S k ih f_94 x7 x9 x11 a1 (lN 1) (nI 0)))) n_
theorem q_X9_food_76_s (a1 : Int32) (a2 : Int32) (a3 : Int32) (a4 : Int32) (a5 : Int32) (a6 : Int32) (S : St) (k : Int64 → Prop) (n_ : Nat) (x7 : Int64) (x9 : Int64) (x11 : Int32) : q_X9_food_76 a1 a2 a3 a4 a5 a6 S k (n_ + 1) x7 x9 x11 = ((((nI 1) <<< (a5 &&& 31)) ≤ x11 → (∃ f_198, q_X9_food_198 a1 a2 a3 a4 a5 a6 S k f_198 x7 x9 (nI 0))) ∧ (¬ ((nI 1) <<< (a5 &&& 31)) ≤ x11 → (∃ f_94, q_X9_food_94 a1 a2 a3 a4 a5 a6 S k (q_X9_food_76 a1 a2 a3 a4 a5 a6 S k n_) f_94 x7 x9 x11 a1 (lN 1) (nI 0)))) := rfl
set_option maxRecDepth 100000 in
set_option maxHeartbeats 4000000 in
theorem b_X9_food_76 {p : Program} {l : Launch} {e : Env} {s : State} {m : MethodId} {args : Array Value} {below : List Frame} {meth : Method} {c : Code} {Z : ZT} (hi : injZ 10 Z) (C : Cxt (gM Z) p s m meth c args yX9_food cX9_food 17 (Option.some .long)) {a1 : Int32} {a2 : Int32} {a3 : Int32} {a4 : Int32} {a5 : Int32} {a6 : Int32} {S : St} {k : Int64 → Prop}   : ∀ (n_ : Nat) (x7 : Int64) (x9 : Int64) (x11 : Int32) (H : Heap) (locs : List Loc) (ls : Array Slot), va_P Z.1 vwCl (wl shM 10 Z S) H → va_S (aa 10 Z) s.heap H locs → lv_has ls 17 [(1, .int a1), (2, .int a2), (3, .int a3), (4, .int a4), (5, .int a5), (6, .int a6), (7, .long x7), (9, .long x9), (11, .int x11)] → q_X9_food_76 a1 a2 a3 a4 a5 a6 S k n_ x7 x9 x11 → W p l e (rmk 1 30) s m args below meth c H locs 0 0 (Ql below shM 10 Z args s (fun r S' => S' = S ∧ k r)) (F0 m 76 ls []) := by
  have g := gokM hi
  have hx := C.1.1
  have hb := C.1.2.1
  intro n_
  induction n_ with
  | zero => intro x7 x9 x11 H locs ls hP hS hl h; exact h.elim
  | succ n_ ih =>
    intro x7 x9 x11 H locs ls hP hS hl h
    rw [q_X9_food_76_s] at h
    refine lv_iload hx hb dX9_food_76 (lv_at hl 8 rfl) ?_
    refine lv_iconst (v := (nI 1)) hx hb dX9_food_78 (by decide) ?_
    refine lv_iload hx hb dX9_food_79 (lv_at hl 4 rfl) ?_
    refine lv_ishl hx hb dX9_food_81 ?_
    refine lv_icmp_ge (tgt := 195) hx hb dX9_food_82 (by decide) (fun c_1 => ?_) (fun c_1 => ?_)
    · have h := h.1 c_1
      refine lv_iconst (v := (nI 0)) hx hb dX9_food_195 (by decide) ?_
      refine lv_istore (lv' := [(11, .int (nI 0)), (1, .int a1), (2, .int a2), (3, .int a3), (4, .int a4), (5, .int a5), (6, .int a6), (7, .long x7), (9, .long x9)]) hx hb dX9_food_196 hl (by decide) rfl (fun ls hl => ?_)
      obtain ⟨f_198, h⟩ := h
      exact b_X9_food_198 hi C  f_198 _ _ _ _ _ _ hP hS (lv_sub hl [5, 6, 7, 8, 0] rfl) h
    · have h := h.2 c_1
      refine lv_iload_n hx hb dX9_food_85 rfl (lv_at hl 0 rfl) ?_
      refine lv_istore (lv' := [(12, .int a1), (1, .int a1), (2, .int a2), (3, .int a3), (4, .int a4), (5, .int a5), (6, .int a6), (7, .long x7), (9, .long x9), (11, .int x11)]) hx hb dX9_food_86 hl (by decide) rfl (fun ls hl => ?_)
      refine lv_lconst (v := (lN 1)) hx hb dX9_food_88 (by decide) ?_
      refine lv_lstore (lv' := [(13, .long (lN 1)), (12, .int a1), (1, .int a1), (2, .int a2), (3, .int a3), (4, .int a4), (5, .int a5), (6, .int a6), (7, .long x7), (9, .long x9), (11, .int x11)]) hx hb dX9_food_89 hl (by decide) rfl (fun ls hl => ?_)
      refine lv_iconst (v := (nI 0)) hx hb dX9_food_91 (by decide) ?_
      refine lv_istore (lv' := [(15, .int (nI 0)), (13, .long (lN 1)), (12, .int a1), (1, .int a1), (2, .int a2), (3, .int a3), (4, .int a4), (5, .int a5), (6, .int a6), (7, .long x7), (9, .long x9), (11, .int x11)]) hx hb dX9_food_92 hl (by decide) rfl (fun ls hl => ?_)
      obtain ⟨f_94, h⟩ := h
      exact b_X9_food_94 hi C ih f_94 _ _ _ _ _ _ _ _ _ hP hS (lv_sub hl [3, 4, 5, 6, 7, 8, 9, 10, 11, 2, 1, 0] rfl) h
def q_X9_food (S : St) (a1 : Int32) (a2 : Int32) (a3 : Int32) (a4 : Int32) (a5 : Int32) (a6 : Int32) (k : Int64 → Prop) : Prop := q_X9_in S a1 (nI 0) (nI 999) (fun r_1 => ((r_1 = (nI 0) → (k (-3 : Int64))) ∧ (¬ r_1 = (nI 0) → (q_X9_in S a2 (nI 1) (nI 99) (fun r_3 => ((r_3 = (nI 0) → (k (-3 : Int64))) ∧ (¬ r_3 = (nI 0) → (q_X9_in S a3 (nI 0) (nI 99) (fun r_5 => ((r_5 = (nI 0) → (k (-3 : Int64))) ∧ (¬ r_5 = (nI 0) → (q_X9_in S a4 (nI 0) (nI 10) (fun r_7 => ((r_7 = (nI 0) → (k (-3 : Int64))) ∧ (¬ r_7 = (nI 0) → (q_X9_in S a5 (nI 0) (nI 8) (fun r_9 => ((r_9 = (nI 0) → (k (-3 : Int64))) ∧ (¬ r_9 = (nI 0) → (q_X9_in S a6 (nI 0) (nI 1) (fun r_11 => ((r_11 = (nI 0) → (k (-3 : Int64))) ∧ (¬ r_11 = (nI 0) → (∃ f_76, q_X9_food_76 a1 a2 a3 a4 a5 a6 S k f_76 (lN 0) (lN 1) (nI 0)))))))))))))))))))))))))
set_option maxRecDepth 100000 in
set_option maxHeartbeats 4000000 in
theorem c_X9_food {l : Launch} {Z : ZT} (hi : injZ 10 Z) (S : St) (a1 : Int32) (a2 : Int32) (a3 : Int32) (a4 : Int32) (a5 : Int32) (a6 : Int32) (k : Int64 → Prop) (h : q_X9_food S a1 a2 a3 a4 a5 a6 k) : Ml l shM 10 Z (gM Z) yX9_food cX9_food 17 (Option.some .long) (rmk 1 30) [.ref (Z.2.2.1 0), .int a1, .int a2, .int a3, .int a4, .int a5, .int a6] S (fun r S' => S' = S ∧ k r) := by
  have g := gokM hi
  refine e_l (by decide) (Nat.le_of_ble_eq_true rfl) (lv := [(0, .ref (Z.2.2.1 0)), (1, .int a1), (2, .int a2), (3, .int a3), (4, .int a4), (5, .int a5), (6, .int a6)]) rfl (fun p e s m args below meth c C hP hS ls hl => ?_)
  have hx := C.1.1
  have hb := C.1.2.1
  unfold q_X9_food at h
  refine lv_iload_n hx hb dX9_food_0 rfl (lv_at hl 1 rfl) ?_
  refine lv_iconst (v := (nI 0)) hx hb dX9_food_1 (by decide) ?_
  refine lv_sipush (v := (nI 999)) hx hb dX9_food_2 (by decide) ?_
  refine go_ip (run_S g C hP hS (As := [.int a1, .int (nI 0), .int (nI 999)]) (rest := []) (c_X9_in hi S a1 (nI 0) (nI 999) _ h) cal_X9_in kML_X9_45 ⟨rfl, rfl, Nat.le_of_ble_eq_true rfl, Nat.le_of_ble_eq_true rfl⟩ rfl rfl hl.1 (Nat.le_of_ble_eq_true rfl) dX9_food_5) hS (fun r_1 H locs h hP hS => ?_)
  obtain ⟨hbr_1, h⟩ := h
  refine lv_if_eq (tgt := 63) hx hb dX9_food_8 (by decide) (fun c_2 => ?_) (fun c_2 => ?_)
  · have h := h.1 c_2
    refine lv_ldc2 (v := (-3 : Int64)) hx hb C.1.2.2.2.1 (C.1.2.2.2.2 _ (List.mem_cons_of_mem _ kCO_X9_87)) dX9_food_63 ?_
    exact s_rl C hP hS ⟨rfl, h⟩ dX9_food_66
  · have h := h.2 c_2
    refine lv_iload_n hx hb dX9_food_11 rfl (lv_at hl 2 rfl) ?_
    refine lv_iconst (v := (nI 1)) hx hb dX9_food_12 (by decide) ?_
    refine lv_bipush (v := (nI 99)) hx hb dX9_food_13 (by decide) ?_
    refine go_ip (run_S g C hP hS (As := [.int a2, .int (nI 1), .int (nI 99)]) (rest := []) (c_X9_in hi S a2 (nI 1) (nI 99) _ h) cal_X9_in kML_X9_45 ⟨rfl, rfl, Nat.le_of_ble_eq_true rfl, Nat.le_of_ble_eq_true rfl⟩ rfl rfl hl.1 (Nat.le_of_ble_eq_true rfl) dX9_food_15) hS (fun r_3 H locs h hP hS => ?_)
    obtain ⟨hbr_3, h⟩ := h
    refine lv_if_eq (tgt := 63) hx hb dX9_food_18 (by decide) (fun c_4 => ?_) (fun c_4 => ?_)
    · have h := h.1 c_4
      refine lv_ldc2 (v := (-3 : Int64)) hx hb C.1.2.2.2.1 (C.1.2.2.2.2 _ (List.mem_cons_of_mem _ kCO_X9_87)) dX9_food_63 ?_
      exact s_rl C hP hS ⟨rfl, h⟩ dX9_food_66
    · have h := h.2 c_4
      refine lv_iload_n hx hb dX9_food_21 rfl (lv_at hl 3 rfl) ?_
      refine lv_iconst (v := (nI 0)) hx hb dX9_food_22 (by decide) ?_
      refine lv_bipush (v := (nI 99)) hx hb dX9_food_23 (by decide) ?_
      refine go_ip (run_S g C hP hS (As := [.int a3, .int (nI 0), .int (nI 99)]) (rest := []) (c_X9_in hi S a3 (nI 0) (nI 99) _ h) cal_X9_in kML_X9_45 ⟨rfl, rfl, Nat.le_of_ble_eq_true rfl, Nat.le_of_ble_eq_true rfl⟩ rfl rfl hl.1 (Nat.le_of_ble_eq_true rfl) dX9_food_25) hS (fun r_5 H locs h hP hS => ?_)
      obtain ⟨hbr_5, h⟩ := h
      refine lv_if_eq (tgt := 63) hx hb dX9_food_28 (by decide) (fun c_6 => ?_) (fun c_6 => ?_)
      · have h := h.1 c_6
        refine lv_ldc2 (v := (-3 : Int64)) hx hb C.1.2.2.2.1 (C.1.2.2.2.2 _ (List.mem_cons_of_mem _ kCO_X9_87)) dX9_food_63 ?_
        exact s_rl C hP hS ⟨rfl, h⟩ dX9_food_66
      · have h := h.2 c_6
        refine lv_iload hx hb dX9_food_31 (lv_at hl 4 rfl) ?_
        refine lv_iconst (v := (nI 0)) hx hb dX9_food_33 (by decide) ?_
        refine lv_bipush (v := (nI 10)) hx hb dX9_food_34 (by decide) ?_
        refine go_ip (run_S g C hP hS (As := [.int a4, .int (nI 0), .int (nI 10)]) (rest := []) (c_X9_in hi S a4 (nI 0) (nI 10) _ h) cal_X9_in kML_X9_45 ⟨rfl, rfl, Nat.le_of_ble_eq_true rfl, Nat.le_of_ble_eq_true rfl⟩ rfl rfl hl.1 (Nat.le_of_ble_eq_true rfl) dX9_food_36) hS (fun r_7 H locs h hP hS => ?_)
        obtain ⟨hbr_7, h⟩ := h
        refine lv_if_eq (tgt := 63) hx hb dX9_food_39 (by decide) (fun c_8 => ?_) (fun c_8 => ?_)
        · have h := h.1 c_8
          refine lv_ldc2 (v := (-3 : Int64)) hx hb C.1.2.2.2.1 (C.1.2.2.2.2 _ (List.mem_cons_of_mem _ kCO_X9_87)) dX9_food_63 ?_
          exact s_rl C hP hS ⟨rfl, h⟩ dX9_food_66
        · have h := h.2 c_8
          refine lv_iload hx hb dX9_food_42 (lv_at hl 5 rfl) ?_
          refine lv_iconst (v := (nI 0)) hx hb dX9_food_44 (by decide) ?_
          refine lv_bipush (v := (nI 8)) hx hb dX9_food_45 (by decide) ?_
          refine go_ip (run_S g C hP hS (As := [.int a5, .int (nI 0), .int (nI 8)]) (rest := []) (c_X9_in hi S a5 (nI 0) (nI 8) _ h) cal_X9_in kML_X9_45 ⟨rfl, rfl, Nat.le_of_ble_eq_true rfl, Nat.le_of_ble_eq_true rfl⟩ rfl rfl hl.1 (Nat.le_of_ble_eq_true rfl) dX9_food_47) hS (fun r_9 H locs h hP hS => ?_)
          obtain ⟨hbr_9, h⟩ := h
          refine lv_if_eq (tgt := 63) hx hb dX9_food_50 (by decide) (fun c_10 => ?_) (fun c_10 => ?_)
          · have h := h.1 c_10
            refine lv_ldc2 (v := (-3 : Int64)) hx hb C.1.2.2.2.1 (C.1.2.2.2.2 _ (List.mem_cons_of_mem _ kCO_X9_87)) dX9_food_63 ?_
            exact s_rl C hP hS ⟨rfl, h⟩ dX9_food_66
          · have h := h.2 c_10
            refine lv_iload hx hb dX9_food_53 (lv_at hl 6 rfl) ?_
            refine lv_iconst (v := (nI 0)) hx hb dX9_food_55 (by decide) ?_
            refine lv_iconst (v := (nI 1)) hx hb dX9_food_56 (by decide) ?_
            refine go_ip (run_S g C hP hS (As := [.int a6, .int (nI 0), .int (nI 1)]) (rest := []) (c_X9_in hi S a6 (nI 0) (nI 1) _ h) cal_X9_in kML_X9_45 ⟨rfl, rfl, Nat.le_of_ble_eq_true rfl, Nat.le_of_ble_eq_true rfl⟩ rfl rfl hl.1 (Nat.le_of_ble_eq_true rfl) dX9_food_57) hS (fun r_11 H locs h hP hS => ?_)
            obtain ⟨hbr_11, h⟩ := h
            refine lv_if_ne (tgt := 67) hx hb dX9_food_60 (by decide) (fun c_12 => ?_) (fun c_12 => ?_)
            · have h := h.2 c_12
              refine lv_lconst (v := (lN 0)) hx hb dX9_food_67 (by decide) ?_
              refine lv_lstore (lv' := [(7, .long (lN 0)), (0, .ref (Z.2.2.1 0)), (1, .int a1), (2, .int a2), (3, .int a3), (4, .int a4), (5, .int a5), (6, .int a6)]) hx hb dX9_food_68 hl (by decide) rfl (fun ls hl => ?_)
              refine lv_lconst (v := (lN 1)) hx hb dX9_food_70 (by decide) ?_
              refine lv_lstore (lv' := [(9, .long (lN 1)), (7, .long (lN 0)), (0, .ref (Z.2.2.1 0)), (1, .int a1), (2, .int a2), (3, .int a3), (4, .int a4), (5, .int a5), (6, .int a6)]) hx hb dX9_food_71 hl (by decide) rfl (fun ls hl => ?_)
              refine lv_iconst (v := (nI 0)) hx hb dX9_food_73 (by decide) ?_
              refine lv_istore (lv' := [(11, .int (nI 0)), (9, .long (lN 1)), (7, .long (lN 0)), (0, .ref (Z.2.2.1 0)), (1, .int a1), (2, .int a2), (3, .int a3), (4, .int a4), (5, .int a5), (6, .int a6)]) hx hb dX9_food_74 hl (by decide) rfl (fun ls hl => ?_)
              obtain ⟨f_76, h⟩ := h
              exact b_X9_food_76 hi C  f_76 _ _ _ _ _ _ hP hS (lv_sub hl [4, 5, 6, 7, 8, 9, 2, 1, 0] rfl) h
            · have h := h.1 c_12
              refine lv_ldc2 (v := (-3 : Int64)) hx hb C.1.2.2.2.1 (C.1.2.2.2.2 _ (List.mem_cons_of_mem _ kCO_X9_87)) dX9_food_63 ?_
              exact s_rl C hP hS ⟨rfl, h⟩ dX9_food_66
def q_X9_cut_213 (a1 : Int32) (a2 : Int32) (a3 : Int32) (a4 : Int32) (a5 : Int32) (S : St) (k : Int64 → Prop) : Nat → Int64 → Int64 → Int32 → Prop := fun n_ => Nat.rec (motive := fun _ => Int64 → Int64 → Int32 → Prop) (fun _ _ _ => False) (fun _ ih => fun x7 x9 x11 => ((nI 12) ≤ x11 → (q_X9_part S x7 x9 a5 (fun r_2 => (k r_2)))) ∧ (¬ (nI 12) ≤ x11 → (∀ x9_3 : Int64, x9_3 = (x9 * (lN 10)) → (∀ x11_4 : Int32, x11_4 = x11 + (nI 1) → (ih x7 x9_3 x11_4))))) n_
theorem q_X9_cut_213_s (a1 : Int32) (a2 : Int32) (a3 : Int32) (a4 : Int32) (a5 : Int32) (S : St) (k : Int64 → Prop) (n_ : Nat) (x7 : Int64) (x9 : Int64) (x11 : Int32) : q_X9_cut_213 a1 a2 a3 a4 a5 S k (n_ + 1) x7 x9 x11 = (((nI 12) ≤ x11 → (q_X9_part S x7 x9 a5 (fun r_2 => (k r_2)))) ∧ (¬ (nI 12) ≤ x11 → (∀ x9_3 : Int64, x9_3 = (x9 * (lN 10)) → (∀ x11_4 : Int32, x11_4 = x11 + (nI 1) → ((q_X9_cut_213 a1 a2 a3 a4 a5 S k n_) x7 x9_3 x11_4))))) := rfl
set_option maxRecDepth 100000 in
set_option maxHeartbeats 4000000 in
theorem b_X9_cut_213 {p : Program} {l : Launch} {e : Env} {s : State} {m : MethodId} {args : Array Value} {below : List Frame} {meth : Method} {c : Code} {Z : ZT} (hi : injZ 10 Z) (C : Cxt (gM Z) p s m meth c args yX9_cut cX9_cut 17 (Option.some .long)) {a1 : Int32} {a2 : Int32} {a3 : Int32} {a4 : Int32} {a5 : Int32} {S : St} {k : Int64 → Prop}   : ∀ (n_ : Nat) (x7 : Int64) (x9 : Int64) (x11 : Int32) (H : Heap) (locs : List Loc) (ls : Array Slot), va_P Z.1 vwCl (wl shM 10 Z S) H → va_S (aa 10 Z) s.heap H locs → lv_has ls 17 [(5, .int a5), (7, .long x7), (9, .long x9), (11, .int x11)] → q_X9_cut_213 a1 a2 a3 a4 a5 S k n_ x7 x9 x11 → W p l e (rmk 2 43) s m args below meth c H locs 0 0 (Ql below shM 10 Z args s (fun r S' => S' = S ∧ k r)) (F0 m 213 ls []) := by
  have g := gokM hi
  have hx := C.1.1
  have hb := C.1.2.1
  intro n_
  induction n_ with
  | zero => intro x7 x9 x11 H locs ls hP hS hl h; exact h.elim
  | succ n_ ih =>
    intro x7 x9 x11 H locs ls hP hS hl h
    rw [q_X9_cut_213_s] at h
    refine lv_iload hx hb dX9_cut_213 (lv_at hl 3 rfl) ?_
    refine lv_bipush (v := (nI 12)) hx hb dX9_cut_215 (by decide) ?_
    refine lv_icmp_ge (tgt := 234) hx hb dX9_cut_217 (by decide) (fun c_1 => ?_) (fun c_1 => ?_)
    · have h := h.1 c_1
      refine lv_lload hx hb dX9_cut_234 (lv_at hl 1 rfl) ?_
      refine lv_lload hx hb dX9_cut_236 (lv_at hl 2 rfl) ?_
      refine lv_iload hx hb dX9_cut_238 (lv_at hl 0 rfl) ?_
      refine go_lp (run_S g C hP hS (As := [.long x7, .long x9, .int a5]) (rest := []) (c_X9_part hi S x7 x9 a5 _ h) cal_X9_part kML_X9_234 ⟨rfl, rfl, Nat.le_of_ble_eq_true rfl, Nat.le_of_ble_eq_true rfl⟩ rfl rfl hl.1 (Nat.le_of_ble_eq_true rfl) dX9_cut_240) hS (fun r_2 H locs h hP hS => ?_)
      exact s_rl C hP hS ⟨rfl, h⟩ dX9_cut_243
    · have h := h.2 c_1
      refine lv_lload hx hb dX9_cut_220 (lv_at hl 2 rfl) ?_
      refine lv_ldc2 (v := (lN 10)) hx hb C.1.2.2.2.1 (C.1.2.2.2.2 _ (List.mem_cons_of_mem _ kCO_X9_232)) dX9_cut_222 ?_
      refine lv_lmul hx hb dX9_cut_225 ?_
      refine lv_topl (fun x9_3 ex9_3 => ?_)
      have h := h x9_3 ex9_3
      refine lv_lstore (lv' := [(9, .long x9_3), (5, .int a5), (7, .long x7), (11, .int x11)]) hx hb dX9_cut_226 hl (by decide) rfl (fun ls hl => ?_)
      obtain ⟨x11_4, ex11_4⟩ : ∃ y_ : Int32, y_ = x11 + (nI 1) := ⟨_, rfl⟩
      have h := h x11_4 ex11_4
      refine lv_iinc (v := x11_4) (lv' := [(11, .int x11_4), (9, .long x9_3), (5, .int a5), (7, .long x7)]) hx hb dX9_cut_228 hl (k := 3) rfl (by rw [ex11_4]; rfl) (by decide) rfl (fun ls hl => ?_)
      refine lv_goto (tgt := 213) hx hb dX9_cut_231 (by decide) ?_
      exact ih _ _ _ _ _ _ hP hS (lv_sub hl [2, 3, 1, 0] rfl) h
def q_X9_cut_201 (a1 : Int32) (a2 : Int32) (a3 : Int32) (a4 : Int32) (a5 : Int32) (S : St) (k : Int64 → Prop) (e_83 : Int32 → Int64 → Int64 → Int32 → Prop) (x6 : Int32) (x9 : Int64) (x11 : Int32) (t0 : Int64) (t1 : Int64) : Prop := ∀ x7_1 : Int64, x7_1 = (t1 + t0) → (∀ x11_2 : Int32, x11_2 = x11 + (nI 1) → (e_83 x6 x7_1 x9 x11_2))
set_option maxRecDepth 100000 in
set_option maxHeartbeats 4000000 in
theorem b_X9_cut_201 {p : Program} {l : Launch} {e : Env} {s : State} {m : MethodId} {args : Array Value} {below : List Frame} {meth : Method} {c : Code} {Z : ZT} (hi : injZ 10 Z) (C : Cxt (gM Z) p s m meth c args yX9_cut cX9_cut 17 (Option.some .long)) {a1 : Int32} {a2 : Int32} {a3 : Int32} {a4 : Int32} {a5 : Int32} {S : St} {k : Int64 → Prop} {e_83 : Int32 → Int64 → Int64 → Int32 → Prop}  (he_83 : ∀ (x6 : Int32) (x7 : Int64) (x9 : Int64) (x11 : Int32) (H : Heap) (locs : List Loc) (ls : Array Slot), va_P Z.1 vwCl (wl shM 10 Z S) H → va_S (aa 10 Z) s.heap H locs → lv_has ls 17 [(0, .ref (Z.2.2.1 0)), (1, .int a1), (2, .int a2), (3, .int a3), (4, .int a4), (5, .int a5), (6, .int x6), (7, .long x7), (9, .long x9), (11, .int x11)] → e_83 x6 x7 x9 x11 → W p l e (rmk 2 43) s m args below meth c H locs 0 0 (Ql below shM 10 Z args s (fun r S' => S' = S ∧ k r)) (F0 m 83 ls [])) (x6 : Int32) (x9 : Int64) (x11 : Int32) (t0 : Int64) (t1 : Int64) (H : Heap) (locs : List Loc) (ls : Array Slot) (hP : va_P Z.1 vwCl (wl shM 10 Z S) H) (hS : va_S (aa 10 Z) s.heap H locs) (hl : lv_has ls 17 [(0, .ref (Z.2.2.1 0)), (1, .int a1), (2, .int a2), (3, .int a3), (4, .int a4), (5, .int a5), (6, .int x6), (9, .long x9), (11, .int x11)]) (h : q_X9_cut_201 a1 a2 a3 a4 a5 S k e_83 x6 x9 x11 t0 t1) : W p l e (rmk 2 43) s m args below meth c H locs 0 0 (Ql below shM 10 Z args s (fun r S' => S' = S ∧ k r)) (F0 m 201 ls [.long t0, .long t1]) := by
  have g := gokM hi
  have hx := C.1.1
  have hb := C.1.2.1
  unfold q_X9_cut_201 at h
  refine lv_ladd hx hb dX9_cut_201 ?_
  refine lv_topl (fun x7_1 ex7_1 => ?_)
  have h := h x7_1 ex7_1
  refine lv_lstore (lv' := [(7, .long x7_1), (0, .ref (Z.2.2.1 0)), (1, .int a1), (2, .int a2), (3, .int a3), (4, .int a4), (5, .int a5), (6, .int x6), (9, .long x9), (11, .int x11)]) hx hb dX9_cut_202 hl (by decide) rfl (fun ls hl => ?_)
  obtain ⟨x11_2, ex11_2⟩ : ∃ y_ : Int32, y_ = x11 + (nI 1) := ⟨_, rfl⟩
  have h := h x11_2 ex11_2
  refine lv_iinc (v := x11_2) (lv' := [(11, .int x11_2), (7, .long x7_1), (0, .ref (Z.2.2.1 0)), (1, .int a1), (2, .int a2), (3, .int a3), (4, .int a4), (5, .int a5), (6, .int x6), (9, .long x9)]) hx hb dX9_cut_204 hl (k := 9) rfl (by rw [ex11_2]; rfl) (by decide) rfl (fun ls hl => ?_)
  refine lv_goto (tgt := 83) hx hb dX9_cut_207 (by decide) ?_
  exact he_83 _ _ _ _ _ _ _ hP hS (lv_sub hl [2, 3, 4, 5, 6, 7, 8, 1, 9, 0] rfl) h
def q_X9_cut_178 (a1 : Int32) (a2 : Int32) (a3 : Int32) (a4 : Int32) (a5 : Int32) (S : St) (k : Int64 → Prop) (e_83 : Int32 → Int64 → Int64 → Int32 → Prop) (e_110 : Int32 → Int64 → Int64 → Int32 → Int32 → Int64 → Int32 → Prop) (x6 : Int32) (x7 : Int64) (x9 : Int64) (x11 : Int32) (x13 : Int64) (x15 : Int32) (t0 : Int32) (t1 : Int32) : Prop := ∀ x12_1 : Int32, x12_1 = (t1 + t0) → (∀ x15_2 : Int32, x15_2 = x15 + (nI 1) → (e_110 x6 x7 x9 x11 x12_1 x13 x15_2))
set_option maxRecDepth 100000 in
set_option maxHeartbeats 4000000 in
theorem b_X9_cut_178 {p : Program} {l : Launch} {e : Env} {s : State} {m : MethodId} {args : Array Value} {below : List Frame} {meth : Method} {c : Code} {Z : ZT} (hi : injZ 10 Z) (C : Cxt (gM Z) p s m meth c args yX9_cut cX9_cut 17 (Option.some .long)) {a1 : Int32} {a2 : Int32} {a3 : Int32} {a4 : Int32} {a5 : Int32} {S : St} {k : Int64 → Prop} {e_83 : Int32 → Int64 → Int64 → Int32 → Prop} {e_110 : Int32 → Int64 → Int64 → Int32 → Int32 → Int64 → Int32 → Prop}  (he_83 : ∀ (x6 : Int32) (x7 : Int64) (x9 : Int64) (x11 : Int32) (H : Heap) (locs : List Loc) (ls : Array Slot), va_P Z.1 vwCl (wl shM 10 Z S) H → va_S (aa 10 Z) s.heap H locs → lv_has ls 17 [(0, .ref (Z.2.2.1 0)), (1, .int a1), (2, .int a2), (3, .int a3), (4, .int a4), (5, .int a5), (6, .int x6), (7, .long x7), (9, .long x9), (11, .int x11)] → e_83 x6 x7 x9 x11 → W p l e (rmk 2 43) s m args below meth c H locs 0 0 (Ql below shM 10 Z args s (fun r S' => S' = S ∧ k r)) (F0 m 83 ls [])) (he_110 : ∀ (x6 : Int32) (x7 : Int64) (x9 : Int64) (x11 : Int32) (x12 : Int32) (x13 : Int64) (x15 : Int32) (H : Heap) (locs : List Loc) (ls : Array Slot), va_P Z.1 vwCl (wl shM 10 Z S) H → va_S (aa 10 Z) s.heap H locs → lv_has ls 17 [(0, .ref (Z.2.2.1 0)), (1, .int a1), (2, .int a2), (3, .int a3), (4, .int a4), (5, .int a5), (6, .int x6), (7, .long x7), (9, .long x9), (11, .int x11), (12, .int x12), (13, .long x13), (15, .int x15)] → e_110 x6 x7 x9 x11 x12 x13 x15 → W p l e (rmk 2 43) s m args below meth c H locs 0 0 (Ql below shM 10 Z args s (fun r S' => S' = S ∧ k r)) (F0 m 110 ls [])) (x6 : Int32) (x7 : Int64) (x9 : Int64) (x11 : Int32) (x13 : Int64) (x15 : Int32) (t0 : Int32) (t1 : Int32) (H : Heap) (locs : List Loc) (ls : Array Slot) (hP : va_P Z.1 vwCl (wl shM 10 Z S) H) (hS : va_S (aa 10 Z) s.heap H locs) (hl : lv_has ls 17 [(0, .ref (Z.2.2.1 0)), (1, .int a1), (2, .int a2), (3, .int a3), (4, .int a4), (5, .int a5), (6, .int x6), (7, .long x7), (9, .long x9), (11, .int x11), (13, .long x13), (15, .int x15)]) (h : q_X9_cut_178 a1 a2 a3 a4 a5 S k e_83 e_110 x6 x7 x9 x11 x13 x15 t0 t1) : W p l e (rmk 2 43) s m args below meth c H locs 0 0 (Ql below shM 10 Z args s (fun r S' => S' = S ∧ k r)) (F0 m 178 ls [.int t0, .int t1]) := by
  have g := gokM hi
  have hx := C.1.1
  have hb := C.1.2.1
  unfold q_X9_cut_178 at h
  refine lv_iadd hx hb dX9_cut_178 ?_
  refine lv_topi (fun x12_1 ex12_1 => ?_)
  have h := h x12_1 ex12_1
  refine lv_istore (lv' := [(12, .int x12_1), (0, .ref (Z.2.2.1 0)), (1, .int a1), (2, .int a2), (3, .int a3), (4, .int a4), (5, .int a5), (6, .int x6), (7, .long x7), (9, .long x9), (11, .int x11), (13, .long x13), (15, .int x15)]) hx hb dX9_cut_179 hl (by decide) rfl (fun ls hl => ?_)
  obtain ⟨x15_2, ex15_2⟩ : ∃ y_ : Int32, y_ = x15 + (nI 1) := ⟨_, rfl⟩
  have h := h x15_2 ex15_2
  refine lv_iinc (v := x15_2) (lv' := [(15, .int x15_2), (12, .int x12_1), (0, .ref (Z.2.2.1 0)), (1, .int a1), (2, .int a2), (3, .int a3), (4, .int a4), (5, .int a5), (6, .int x6), (7, .long x7), (9, .long x9), (11, .int x11), (13, .long x13)]) hx hb dX9_cut_181 hl (k := 12) rfl (by rw [ex15_2]; rfl) (by decide) rfl (fun ls hl => ?_)
  refine lv_goto (tgt := 110) hx hb dX9_cut_184 (by decide) ?_
  exact he_110 _ _ _ _ _ _ _ _ _ _ hP hS (lv_sub hl [2, 3, 4, 5, 6, 7, 8, 9, 10, 11, 1, 12, 0] rfl) h
def q_X9_cut_147 (a1 : Int32) (a2 : Int32) (a3 : Int32) (a4 : Int32) (a5 : Int32) (S : St) (k : Int64 → Prop) (e_83 : Int32 → Int64 → Int64 → Int32 → Prop) (e_110 : Int32 → Int64 → Int64 → Int32 → Int32 → Int64 → Int32 → Prop) (x6 : Int32) (x7 : Int64) (x9 : Int64) (x11 : Int32) (x12 : Int32) (x15 : Int32) (x16 : Int32) (t0 : Int64) (t1 : Int64) : Prop := ∀ x13_1 : Int64, x13_1 = (t1 * t0) → ((x16 = (nI 0) → (q_X9_cut_178 a1 a2 a3 a4 a5 S k e_83 e_110 x6 x7 x9 x11 x13_1 x15 (nI 0) x12)) ∧ (¬ x16 = (nI 0) → (vp_in ((((nI 24) * x6) + ((nI 2) * x15)) + (nI 1)) 96 ∧ (q_X9_cut_178 a1 a2 a3 a4 a5 S k e_83 e_110 x6 x7 x9 x11 x13_1 x15 (S.1 1 ((((nI 24) * x6) + ((nI 2) * x15)) + (nI 1)).toNatClampNeg) x12))))
set_option maxRecDepth 100000 in
set_option maxHeartbeats 4000000 in
theorem b_X9_cut_147 {p : Program} {l : Launch} {e : Env} {s : State} {m : MethodId} {args : Array Value} {below : List Frame} {meth : Method} {c : Code} {Z : ZT} (hi : injZ 10 Z) (C : Cxt (gM Z) p s m meth c args yX9_cut cX9_cut 17 (Option.some .long)) {a1 : Int32} {a2 : Int32} {a3 : Int32} {a4 : Int32} {a5 : Int32} {S : St} {k : Int64 → Prop} {e_83 : Int32 → Int64 → Int64 → Int32 → Prop} {e_110 : Int32 → Int64 → Int64 → Int32 → Int32 → Int64 → Int32 → Prop}  (he_83 : ∀ (x6 : Int32) (x7 : Int64) (x9 : Int64) (x11 : Int32) (H : Heap) (locs : List Loc) (ls : Array Slot), va_P Z.1 vwCl (wl shM 10 Z S) H → va_S (aa 10 Z) s.heap H locs → lv_has ls 17 [(0, .ref (Z.2.2.1 0)), (1, .int a1), (2, .int a2), (3, .int a3), (4, .int a4), (5, .int a5), (6, .int x6), (7, .long x7), (9, .long x9), (11, .int x11)] → e_83 x6 x7 x9 x11 → W p l e (rmk 2 43) s m args below meth c H locs 0 0 (Ql below shM 10 Z args s (fun r S' => S' = S ∧ k r)) (F0 m 83 ls [])) (he_110 : ∀ (x6 : Int32) (x7 : Int64) (x9 : Int64) (x11 : Int32) (x12 : Int32) (x13 : Int64) (x15 : Int32) (H : Heap) (locs : List Loc) (ls : Array Slot), va_P Z.1 vwCl (wl shM 10 Z S) H → va_S (aa 10 Z) s.heap H locs → lv_has ls 17 [(0, .ref (Z.2.2.1 0)), (1, .int a1), (2, .int a2), (3, .int a3), (4, .int a4), (5, .int a5), (6, .int x6), (7, .long x7), (9, .long x9), (11, .int x11), (12, .int x12), (13, .long x13), (15, .int x15)] → e_110 x6 x7 x9 x11 x12 x13 x15 → W p l e (rmk 2 43) s m args below meth c H locs 0 0 (Ql below shM 10 Z args s (fun r S' => S' = S ∧ k r)) (F0 m 110 ls [])) (x6 : Int32) (x7 : Int64) (x9 : Int64) (x11 : Int32) (x12 : Int32) (x15 : Int32) (x16 : Int32) (t0 : Int64) (t1 : Int64) (H : Heap) (locs : List Loc) (ls : Array Slot) (hP : va_P Z.1 vwCl (wl shM 10 Z S) H) (hS : va_S (aa 10 Z) s.heap H locs) (hl : lv_has ls 17 [(0, .ref (Z.2.2.1 0)), (1, .int a1), (2, .int a2), (3, .int a3), (4, .int a4), (5, .int a5), (6, .int x6), (7, .long x7), (9, .long x9), (11, .int x11), (12, .int x12), (15, .int x15), (16, .int x16)]) (h : q_X9_cut_147 a1 a2 a3 a4 a5 S k e_83 e_110 x6 x7 x9 x11 x12 x15 x16 t0 t1) : W p l e (rmk 2 43) s m args below meth c H locs 0 0 (Ql below shM 10 Z args s (fun r S' => S' = S ∧ k r)) (F0 m 147 ls [.long t0, .long t1]) := by
  have g := gokM hi
  have hx := C.1.1
  have hb := C.1.2.1
  unfold q_X9_cut_147 at h
  refine lv_lmul hx hb dX9_cut_147 ?_
  refine lv_topl (fun x13_1 ex13_1 => ?_)
  have h := h x13_1 ex13_1
  refine lv_lstore (lv' := [(13, .long x13_1), (0, .ref (Z.2.2.1 0)), (1, .int a1), (2, .int a2), (3, .int a3), (4, .int a4), (5, .int a5), (6, .int x6), (7, .long x7), (9, .long x9), (11, .int x11), (12, .int x12), (15, .int x15), (16, .int x16)]) hx hb dX9_cut_148 hl (by decide) rfl (fun ls hl => ?_)
  refine lv_iload hx hb dX9_cut_150 (lv_at hl 11 rfl) ?_
  refine lv_iload hx hb dX9_cut_152 (lv_at hl 13 rfl) ?_
  refine lv_if_eq (tgt := 177) hx hb dX9_cut_154 (by decide) (fun c_2 => ?_) (fun c_2 => ?_)
  · have h := h.1 c_2
    refine lv_iconst (v := (nI 0)) hx hb dX9_cut_177 (by decide) ?_
    exact b_X9_cut_178 hi C he_83 he_110 _ _ _ _ _ _ _ _ _ _ _ hP hS (lv_sub hl [1, 2, 3, 4, 5, 6, 7, 8, 9, 10, 0, 12] rfl) h
  · have h := h.2 c_2
    refine lv_aload_n hx hb dX9_cut_157 rfl (lv_at hl 1 rfl) ?_
    refine s_gR g C hP 0 0 1 (by decide) rfl rfl cfX9 (by decide) kFL_X9_7 dX9_cut_158 ?_
    refine lv_bipush (v := (nI 24)) hx hb dX9_cut_161 (by decide) ?_
    refine lv_iload hx hb dX9_cut_163 (lv_at hl 7 rfl) ?_
    refine lv_imul hx hb dX9_cut_165 ?_
    refine lv_iconst (v := (nI 2)) hx hb dX9_cut_166 (by decide) ?_
    refine lv_iload hx hb dX9_cut_167 (lv_at hl 12 rfl) ?_
    refine lv_imul hx hb dX9_cut_169 ?_
    refine lv_iadd hx hb dX9_cut_170 ?_
    refine lv_iconst (v := (nI 1)) hx hb dX9_cut_171 (by decide) ?_
    refine lv_iadd hx hb dX9_cut_172 ?_
    have hv_3 := h.1
    have h := h.2
    refine s_aI g C hP 1 (by decide) rfl hv_3 dX9_cut_173 ?_
    refine lv_goto (tgt := 178) hx hb dX9_cut_174 (by decide) ?_
    exact b_X9_cut_178 hi C he_83 he_110 _ _ _ _ _ _ _ _ _ _ _ hP hS (lv_sub hl [1, 2, 3, 4, 5, 6, 7, 8, 9, 10, 0, 12] rfl) h
def q_X9_cut_110 (a1 : Int32) (a2 : Int32) (a3 : Int32) (a4 : Int32) (a5 : Int32) (S : St) (k : Int64 → Prop) (e_83 : Int32 → Int64 → Int64 → Int32 → Prop) : Nat → Int32 → Int64 → Int64 → Int32 → Int32 → Int64 → Int32 → Prop := fun n_ => Nat.rec (motive := fun _ => Int32 → Int64 → Int64 → Int32 → Int32 → Int64 → Int32 → Prop) (fun _ _ _ _ _ _ _ => False) (fun _ ih => fun x6 x7 x9 x11 x12 x13 x15 => ((nI 12) ≤ x15 → ((x12 < a3 → (q_X9_cut_201 a1 a2 a3 a4 a5 S k e_83 x6 x9 x11 (lN 0) x7)) ∧ (¬ x12 < a3 → (q_X9_cut_201 a1 a2 a3 a4 a5 S k e_83 x6 x9 x11 x13 x7)))) ∧ (¬ (nI 12) ≤ x15 → (q_X9_has S x11 (x15 - a2) (fun r_3 => ((r_3 = (nI 0) → (q_X9_cut_147 a1 a2 a3 a4 a5 S k e_83 ih x6 x7 x9 x11 x12 x15 r_3 (((nI 10) - a4)).toInt64 x13)) ∧ (¬ r_3 = (nI 0) → (q_X9_cut_147 a1 a2 a3 a4 a5 S k e_83 ih x6 x7 x9 x11 x12 x15 r_3 a4.toInt64 x13))))))) n_
theorem q_X9_cut_110_s (a1 : Int32) (a2 : Int32) (a3 : Int32) (a4 : Int32) (a5 : Int32) (S : St) (k : Int64 → Prop) (e_83 : Int32 → Int64 → Int64 → Int32 → Prop) (n_ : Nat) (x6 : Int32) (x7 : Int64) (x9 : Int64) (x11 : Int32) (x12 : Int32) (x13 : Int64) (x15 : Int32) : q_X9_cut_110 a1 a2 a3 a4 a5 S k e_83 (n_ + 1) x6 x7 x9 x11 x12 x13 x15 = (((nI 12) ≤ x15 → ((x12 < a3 → (q_X9_cut_201 a1 a2 a3 a4 a5 S k e_83 x6 x9 x11 (lN 0) x7)) ∧ (¬ x12 < a3 → (q_X9_cut_201 a1 a2 a3 a4 a5 S k e_83 x6 x9 x11 x13 x7)))) ∧ (¬ (nI 12) ≤ x15 → (q_X9_has S x11 (x15 - a2) (fun r_3 => ((r_3 = (nI 0) → (q_X9_cut_147 a1 a2 a3 a4 a5 S k e_83 (q_X9_cut_110 a1 a2 a3 a4 a5 S k e_83 n_) x6 x7 x9 x11 x12 x15 r_3 (((nI 10) - a4)).toInt64 x13)) ∧ (¬ r_3 = (nI 0) → (q_X9_cut_147 a1 a2 a3 a4 a5 S k e_83 (q_X9_cut_110 a1 a2 a3 a4 a5 S k e_83 n_) x6 x7 x9 x11 x12 x15 r_3 a4.toInt64 x13))))))) := rfl
set_option maxRecDepth 100000 in
set_option maxHeartbeats 4000000 in
theorem b_X9_cut_110 {p : Program} {l : Launch} {e : Env} {s : State} {m : MethodId} {args : Array Value} {below : List Frame} {meth : Method} {c : Code} {Z : ZT} (hi : injZ 10 Z) (C : Cxt (gM Z) p s m meth c args yX9_cut cX9_cut 17 (Option.some .long)) {a1 : Int32} {a2 : Int32} {a3 : Int32} {a4 : Int32} {a5 : Int32} {S : St} {k : Int64 → Prop} {e_83 : Int32 → Int64 → Int64 → Int32 → Prop}  (he_83 : ∀ (x6 : Int32) (x7 : Int64) (x9 : Int64) (x11 : Int32) (H : Heap) (locs : List Loc) (ls : Array Slot), va_P Z.1 vwCl (wl shM 10 Z S) H → va_S (aa 10 Z) s.heap H locs → lv_has ls 17 [(0, .ref (Z.2.2.1 0)), (1, .int a1), (2, .int a2), (3, .int a3), (4, .int a4), (5, .int a5), (6, .int x6), (7, .long x7), (9, .long x9), (11, .int x11)] → e_83 x6 x7 x9 x11 → W p l e (rmk 2 43) s m args below meth c H locs 0 0 (Ql below shM 10 Z args s (fun r S' => S' = S ∧ k r)) (F0 m 83 ls [])) : ∀ (n_ : Nat) (x6 : Int32) (x7 : Int64) (x9 : Int64) (x11 : Int32) (x12 : Int32) (x13 : Int64) (x15 : Int32) (H : Heap) (locs : List Loc) (ls : Array Slot), va_P Z.1 vwCl (wl shM 10 Z S) H → va_S (aa 10 Z) s.heap H locs → lv_has ls 17 [(0, .ref (Z.2.2.1 0)), (1, .int a1), (2, .int a2), (3, .int a3), (4, .int a4), (5, .int a5), (6, .int x6), (7, .long x7), (9, .long x9), (11, .int x11), (12, .int x12), (13, .long x13), (15, .int x15)] → q_X9_cut_110 a1 a2 a3 a4 a5 S k e_83 n_ x6 x7 x9 x11 x12 x13 x15 → W p l e (rmk 2 43) s m args below meth c H locs 0 0 (Ql below shM 10 Z args s (fun r S' => S' = S ∧ k r)) (F0 m 110 ls []) := by
  have g := gokM hi
  have hx := C.1.1
  have hb := C.1.2.1
  intro n_
  induction n_ with
  | zero => intro x6 x7 x9 x11 x12 x13 x15 H locs ls hP hS hl h; exact h.elim
  | succ n_ ih =>
    intro x6 x7 x9 x11 x12 x13 x15 H locs ls hP hS hl h
    rw [q_X9_cut_110_s] at h
    refine lv_iload hx hb dX9_cut_110 (lv_at hl 12 rfl) ?_
    refine lv_bipush (v := (nI 12)) hx hb dX9_cut_112 (by decide) ?_
    refine lv_icmp_ge (tgt := 187) hx hb dX9_cut_114 (by decide) (fun c_1 => ?_) (fun c_1 => ?_)
    · have h := h.1 c_1
      refine lv_lload hx hb dX9_cut_187 (lv_at hl 7 rfl) ?_
      refine lv_iload hx hb dX9_cut_189 (lv_at hl 10 rfl) ?_
      refine lv_iload_n hx hb dX9_cut_191 rfl (lv_at hl 3 rfl) ?_
      refine lv_icmp_lt (tgt := 200) hx hb dX9_cut_192 (by decide) (fun c_2 => ?_) (fun c_2 => ?_)
      · have h := h.1 c_2
        refine lv_lconst (v := (lN 0)) hx hb dX9_cut_200 (by decide) ?_
        exact b_X9_cut_201 hi C he_83 _ _ _ _ _ _ _ _ hP hS (lv_sub hl [0, 1, 2, 3, 4, 5, 6, 8, 9] rfl) h
      · have h := h.2 c_2
        refine lv_lload hx hb dX9_cut_195 (lv_at hl 11 rfl) ?_
        refine lv_goto (tgt := 201) hx hb dX9_cut_197 (by decide) ?_
        exact b_X9_cut_201 hi C he_83 _ _ _ _ _ _ _ _ hP hS (lv_sub hl [0, 1, 2, 3, 4, 5, 6, 8, 9] rfl) h
    · have h := h.2 c_1
      refine lv_iload hx hb dX9_cut_117 (lv_at hl 9 rfl) ?_
      refine lv_iload hx hb dX9_cut_119 (lv_at hl 12 rfl) ?_
      refine lv_iload_n hx hb dX9_cut_121 rfl (lv_at hl 2 rfl) ?_
      refine lv_isub hx hb dX9_cut_122 ?_
      refine go_ip (run_S g C hP hS (As := [.int x11, .int (x15 - a2)]) (rest := []) (c_X9_has hi S x11 (x15 - a2) _ h) cal_X9_has kML_X9_52 ⟨rfl, rfl, Nat.le_of_ble_eq_true rfl, Nat.le_of_ble_eq_true rfl⟩ rfl rfl hl.1 (Nat.le_of_ble_eq_true rfl) dX9_cut_123) hS (fun r_3 H locs h hP hS => ?_)
      obtain ⟨hbr_3, h⟩ := h
      refine lv_istore (lv' := [(16, .int r_3), (0, .ref (Z.2.2.1 0)), (1, .int a1), (2, .int a2), (3, .int a3), (4, .int a4), (5, .int a5), (6, .int x6), (7, .long x7), (9, .long x9), (11, .int x11), (12, .int x12), (13, .long x13), (15, .int x15)]) hx hb dX9_cut_126 hl (by decide) rfl (fun ls hl => ?_)
      refine lv_lload hx hb dX9_cut_128 (lv_at hl 12 rfl) ?_
      refine lv_iload hx hb dX9_cut_130 (lv_at hl 0 rfl) ?_
      refine lv_if_eq (tgt := 141) hx hb dX9_cut_132 (by decide) (fun c_4 => ?_) (fun c_4 => ?_)
      · have h := h.1 c_4
        refine lv_bipush (v := (nI 10)) hx hb dX9_cut_141 (by decide) ?_
        refine lv_iload hx hb dX9_cut_143 (lv_at hl 5 rfl) ?_
        refine lv_isub hx hb dX9_cut_145 ?_
        refine lv_i2l hx hb dX9_cut_146 rfl ?_
        exact b_X9_cut_147 hi C he_83 ih _ _ _ _ _ _ _ _ _ _ _ _ hP hS (lv_sub hl [1, 2, 3, 4, 5, 6, 7, 8, 9, 10, 11, 13, 0] rfl) h
      · have h := h.2 c_4
        refine lv_iload hx hb dX9_cut_135 (lv_at hl 5 rfl) ?_
        refine lv_i2l hx hb dX9_cut_137 rfl ?_
        refine lv_goto (tgt := 147) hx hb dX9_cut_138 (by decide) ?_
        exact b_X9_cut_147 hi C he_83 ih _ _ _ _ _ _ _ _ _ _ _ _ hP hS (lv_sub hl [1, 2, 3, 4, 5, 6, 7, 8, 9, 10, 11, 13, 0] rfl) h
def q_X9_cut_83 (a1 : Int32) (a2 : Int32) (a3 : Int32) (a4 : Int32) (a5 : Int32) (S : St) (k : Int64 → Prop) : Nat → Int32 → Int64 → Int64 → Int32 → Prop := fun n_ => Nat.rec (motive := fun _ => Int32 → Int64 → Int64 → Int32 → Prop) (fun _ _ _ _ => False) (fun _ ih => fun x6 x7 x9 x11 => (((nI 1) <<< (((nI 12) - a2) &&& 31)) ≤ x11 → (∃ f_213, q_X9_cut_213 a1 a2 a3 a4 a5 S k f_213 x7 x9 a2)) ∧ (¬ ((nI 1) <<< (((nI 12) - a2) &&& 31)) ≤ x11 → (q_X9_xOf S a1 x6 a2 (fun r_2 => (∃ f_110, q_X9_cut_110 a1 a2 a3 a4 a5 S k ih f_110 x6 x7 x9 x11 r_2 (lN 1) a2))))) n_
theorem q_X9_cut_83_s (a1 : Int32) (a2 : Int32) (a3 : Int32) (a4 : Int32) (a5 : Int32) (S : St) (k : Int64 → Prop) (n_ : Nat) (x6 : Int32) (x7 : Int64) (x9 : Int64) (x11 : Int32) : q_X9_cut_83 a1 a2 a3 a4 a5 S k (n_ + 1) x6 x7 x9 x11 = ((((nI 1) <<< (((nI 12) - a2) &&& 31)) ≤ x11 → (∃ f_213, q_X9_cut_213 a1 a2 a3 a4 a5 S k f_213 x7 x9 a2)) ∧ (¬ ((nI 1) <<< (((nI 12) - a2) &&& 31)) ≤ x11 → (q_X9_xOf S a1 x6 a2 (fun r_2 => (∃ f_110, q_X9_cut_110 a1 a2 a3 a4 a5 S k (q_X9_cut_83 a1 a2 a3 a4 a5 S k n_) f_110 x6 x7 x9 x11 r_2 (lN 1) a2))))) := rfl
set_option maxRecDepth 100000 in
set_option maxHeartbeats 4000000 in
theorem b_X9_cut_83 {p : Program} {l : Launch} {e : Env} {s : State} {m : MethodId} {args : Array Value} {below : List Frame} {meth : Method} {c : Code} {Z : ZT} (hi : injZ 10 Z) (C : Cxt (gM Z) p s m meth c args yX9_cut cX9_cut 17 (Option.some .long)) {a1 : Int32} {a2 : Int32} {a3 : Int32} {a4 : Int32} {a5 : Int32} {S : St} {k : Int64 → Prop}   : ∀ (n_ : Nat) (x6 : Int32) (x7 : Int64) (x9 : Int64) (x11 : Int32) (H : Heap) (locs : List Loc) (ls : Array Slot), va_P Z.1 vwCl (wl shM 10 Z S) H → va_S (aa 10 Z) s.heap H locs → lv_has ls 17 [(0, .ref (Z.2.2.1 0)), (1, .int a1), (2, .int a2), (3, .int a3), (4, .int a4), (5, .int a5), (6, .int x6), (7, .long x7), (9, .long x9), (11, .int x11)] → q_X9_cut_83 a1 a2 a3 a4 a5 S k n_ x6 x7 x9 x11 → W p l e (rmk 2 43) s m args below meth c H locs 0 0 (Ql below shM 10 Z args s (fun r S' => S' = S ∧ k r)) (F0 m 83 ls []) := by
  have g := gokM hi
  have hx := C.1.1
  have hb := C.1.2.1
  intro n_
  induction n_ with
  | zero => intro x6 x7 x9 x11 H locs ls hP hS hl h; exact h.elim
  | succ n_ ih =>
    intro x6 x7 x9 x11 H locs ls hP hS hl h
    rw [q_X9_cut_83_s] at h
    refine lv_iload hx hb dX9_cut_83 (lv_at hl 9 rfl) ?_
    refine lv_iconst (v := (nI 1)) hx hb dX9_cut_85 (by decide) ?_
    refine lv_bipush (v := (nI 12)) hx hb dX9_cut_86 (by decide) ?_
    refine lv_iload_n hx hb dX9_cut_88 rfl (lv_at hl 2 rfl) ?_
    refine lv_isub hx hb dX9_cut_89 ?_
    refine lv_ishl hx hb dX9_cut_90 ?_
    refine lv_icmp_ge (tgt := 210) hx hb dX9_cut_91 (by decide) (fun c_1 => ?_) (fun c_1 => ?_)
    · have h := h.1 c_1
      refine lv_iload_n hx hb dX9_cut_210 rfl (lv_at hl 2 rfl) ?_
      refine lv_istore (lv' := [(11, .int a2), (0, .ref (Z.2.2.1 0)), (1, .int a1), (2, .int a2), (3, .int a3), (4, .int a4), (5, .int a5), (6, .int x6), (7, .long x7), (9, .long x9)]) hx hb dX9_cut_211 hl (by decide) rfl (fun ls hl => ?_)
      obtain ⟨f_213, h⟩ := h
      exact b_X9_cut_213 hi C  f_213 _ _ _ _ _ _ hP hS (lv_sub hl [6, 8, 9, 0] rfl) h
    · have h := h.2 c_1
      refine lv_aload_n hx hb dX9_cut_94 rfl (lv_at hl 0 rfl) ?_
      refine lv_iload_n hx hb dX9_cut_95 rfl (lv_at hl 1 rfl) ?_
      refine lv_iload hx hb dX9_cut_96 (lv_at hl 6 rfl) ?_
      refine lv_iload_n hx hb dX9_cut_98 rfl (lv_at hl 2 rfl) ?_
      refine go_ip (run_V g C hP hS (c0 := 0) (As := [.int a1, .int x6, .int a2]) (rest := []) (c_X9_xOf hi S a1 x6 a2 _ h) cal_X9_xOf kML_X9_174 (by decide) rfl cfX9 ⟨rfl, rfl, Nat.le_of_ble_eq_true rfl, Nat.le_of_ble_eq_true rfl⟩ rfl rfl hl.1 (Nat.le_of_ble_eq_true rfl) dX9_cut_99) hS (fun r_2 H locs h hP hS => ?_)
      refine lv_istore (lv' := [(12, .int r_2), (0, .ref (Z.2.2.1 0)), (1, .int a1), (2, .int a2), (3, .int a3), (4, .int a4), (5, .int a5), (6, .int x6), (7, .long x7), (9, .long x9), (11, .int x11)]) hx hb dX9_cut_102 hl (by decide) rfl (fun ls hl => ?_)
      refine lv_lconst (v := (lN 1)) hx hb dX9_cut_104 (by decide) ?_
      refine lv_lstore (lv' := [(13, .long (lN 1)), (12, .int r_2), (0, .ref (Z.2.2.1 0)), (1, .int a1), (2, .int a2), (3, .int a3), (4, .int a4), (5, .int a5), (6, .int x6), (7, .long x7), (9, .long x9), (11, .int x11)]) hx hb dX9_cut_105 hl (by decide) rfl (fun ls hl => ?_)
      refine lv_iload_n hx hb dX9_cut_107 rfl (lv_at hl 4 rfl) ?_
      refine lv_istore (lv' := [(15, .int a2), (13, .long (lN 1)), (12, .int r_2), (0, .ref (Z.2.2.1 0)), (1, .int a1), (2, .int a2), (3, .int a3), (4, .int a4), (5, .int a5), (6, .int x6), (7, .long x7), (9, .long x9), (11, .int x11)]) hx hb dX9_cut_108 hl (by decide) rfl (fun ls hl => ?_)
      obtain ⟨f_110, h⟩ := h
      exact b_X9_cut_110 hi C ih f_110 _ _ _ _ _ _ _ _ _ _ hP hS (lv_sub hl [3, 4, 5, 6, 7, 8, 9, 10, 11, 12, 2, 1, 0] rfl) h
def q_X9_cut (S : St) (a1 : Int32) (a2 : Int32) (a3 : Int32) (a4 : Int32) (a5 : Int32) (k : Int64 → Prop) : Prop := q_X9_isKite S a1 (fun r_1 => ((r_1 = (nI 0) → (k (-2 : Int64))) ∧ (¬ r_1 = (nI 0) → (q_X9_isHour S a2 (fun r_3 => ((r_3 = (nI 0) → (k (-2 : Int64))) ∧ (¬ r_3 = (nI 0) → (q_X9_in S a3 (nI 0) (nI 40) (fun r_5 => ((r_5 = (nI 0) → (k (-3 : Int64))) ∧ (¬ r_5 = (nI 0) → (q_X9_in S a4 (nI 0) (nI 10) (fun r_7 => ((r_7 = (nI 0) → (k (-3 : Int64))) ∧ (¬ r_7 = (nI 0) → (q_X9_in S a5 (nI 0) (nI 1) (fun r_9 => ((r_9 = (nI 0) → (k (-3 : Int64))) ∧ (¬ r_9 = (nI 0) → (vp_in ((nI 7) + a1) 1197 ∧ (∀ x6_12 : Int32, x6_12 = (S.1 6 ((nI 7) + a1).toNatClampNeg) → ((x6_12 = (nI 0) → (k (-4 : Int64))) ∧ (¬ x6_12 = (nI 0) → (∃ f_83, q_X9_cut_83 a1 a2 a3 a4 a5 S k f_83 x6_12 (lN 0) (lN 1) (nI 0)))))))))))))))))))))))))
set_option maxRecDepth 100000 in
set_option maxHeartbeats 4000000 in
theorem c_X9_cut {l : Launch} {Z : ZT} (hi : injZ 10 Z) (S : St) (a1 : Int32) (a2 : Int32) (a3 : Int32) (a4 : Int32) (a5 : Int32) (k : Int64 → Prop) (h : q_X9_cut S a1 a2 a3 a4 a5 k) : Ml l shM 10 Z (gM Z) yX9_cut cX9_cut 17 (Option.some .long) (rmk 2 43) [.ref (Z.2.2.1 0), .int a1, .int a2, .int a3, .int a4, .int a5] S (fun r S' => S' = S ∧ k r) := by
  have g := gokM hi
  refine e_l (by decide) (Nat.le_of_ble_eq_true rfl) (lv := [(0, .ref (Z.2.2.1 0)), (1, .int a1), (2, .int a2), (3, .int a3), (4, .int a4), (5, .int a5)]) rfl (fun p e s m args below meth c C hP hS ls hl => ?_)
  have hx := C.1.1
  have hb := C.1.2.1
  unfold q_X9_cut at h
  refine lv_aload_n hx hb dX9_cut_0 rfl (lv_at hl 0 rfl) ?_
  refine lv_iload_n hx hb dX9_cut_1 rfl (lv_at hl 1 rfl) ?_
  refine go_ip (run_V g C hP hS (c0 := 0) (As := [.int a1]) (rest := []) (c_X9_isKite hi S a1 _ h) cal_X9_isKite kML_X9_171 (by decide) rfl cfX9 ⟨rfl, rfl, Nat.le_of_ble_eq_true rfl, Nat.le_of_ble_eq_true rfl⟩ rfl rfl hl.1 (Nat.le_of_ble_eq_true rfl) dX9_cut_2) hS (fun r_1 H locs h hP hS => ?_)
  obtain ⟨hbr_1, h⟩ := h
  refine lv_if_eq (tgt := 15) hx hb dX9_cut_5 (by decide) (fun c_2 => ?_) (fun c_2 => ?_)
  · have h := h.1 c_2
    refine lv_ldc2 (v := (-2 : Int64)) hx hb C.1.2.2.2.1 (C.1.2.2.2.2 _ (List.mem_cons_of_mem _ kCO_X9_73)) dX9_cut_15 ?_
    exact s_rl C hP hS ⟨rfl, h⟩ dX9_cut_18
  · have h := h.2 c_2
    refine lv_iload_n hx hb dX9_cut_8 rfl (lv_at hl 2 rfl) ?_
    refine go_ip (run_S g C hP hS (As := [.int a2]) (rest := []) (c_X9_isHour hi S a2 _ h) cal_X9_isHour kML_X9_168 ⟨rfl, rfl, Nat.le_of_ble_eq_true rfl, Nat.le_of_ble_eq_true rfl⟩ rfl rfl hl.1 (Nat.le_of_ble_eq_true rfl) dX9_cut_9) hS (fun r_3 H locs h hP hS => ?_)
    obtain ⟨hbr_3, h⟩ := h
    refine lv_if_ne (tgt := 19) hx hb dX9_cut_12 (by decide) (fun c_4 => ?_) (fun c_4 => ?_)
    · have h := h.2 c_4
      refine lv_iload_n hx hb dX9_cut_19 rfl (lv_at hl 3 rfl) ?_
      refine lv_iconst (v := (nI 0)) hx hb dX9_cut_20 (by decide) ?_
      refine lv_bipush (v := (nI 40)) hx hb dX9_cut_21 (by decide) ?_
      refine go_ip (run_S g C hP hS (As := [.int a3, .int (nI 0), .int (nI 40)]) (rest := []) (c_X9_in hi S a3 (nI 0) (nI 40) _ h) cal_X9_in kML_X9_45 ⟨rfl, rfl, Nat.le_of_ble_eq_true rfl, Nat.le_of_ble_eq_true rfl⟩ rfl rfl hl.1 (Nat.le_of_ble_eq_true rfl) dX9_cut_23) hS (fun r_5 H locs h hP hS => ?_)
      obtain ⟨hbr_5, h⟩ := h
      refine lv_if_eq (tgt := 50) hx hb dX9_cut_26 (by decide) (fun c_6 => ?_) (fun c_6 => ?_)
      · have h := h.1 c_6
        refine lv_ldc2 (v := (-3 : Int64)) hx hb C.1.2.2.2.1 (C.1.2.2.2.2 _ (List.mem_cons_of_mem _ kCO_X9_87)) dX9_cut_50 ?_
        exact s_rl C hP hS ⟨rfl, h⟩ dX9_cut_53
      · have h := h.2 c_6
        refine lv_iload hx hb dX9_cut_29 (lv_at hl 4 rfl) ?_
        refine lv_iconst (v := (nI 0)) hx hb dX9_cut_31 (by decide) ?_
        refine lv_bipush (v := (nI 10)) hx hb dX9_cut_32 (by decide) ?_
        refine go_ip (run_S g C hP hS (As := [.int a4, .int (nI 0), .int (nI 10)]) (rest := []) (c_X9_in hi S a4 (nI 0) (nI 10) _ h) cal_X9_in kML_X9_45 ⟨rfl, rfl, Nat.le_of_ble_eq_true rfl, Nat.le_of_ble_eq_true rfl⟩ rfl rfl hl.1 (Nat.le_of_ble_eq_true rfl) dX9_cut_34) hS (fun r_7 H locs h hP hS => ?_)
        obtain ⟨hbr_7, h⟩ := h
        refine lv_if_eq (tgt := 50) hx hb dX9_cut_37 (by decide) (fun c_8 => ?_) (fun c_8 => ?_)
        · have h := h.1 c_8
          refine lv_ldc2 (v := (-3 : Int64)) hx hb C.1.2.2.2.1 (C.1.2.2.2.2 _ (List.mem_cons_of_mem _ kCO_X9_87)) dX9_cut_50 ?_
          exact s_rl C hP hS ⟨rfl, h⟩ dX9_cut_53
        · have h := h.2 c_8
          refine lv_iload hx hb dX9_cut_40 (lv_at hl 5 rfl) ?_
          refine lv_iconst (v := (nI 0)) hx hb dX9_cut_42 (by decide) ?_
          refine lv_iconst (v := (nI 1)) hx hb dX9_cut_43 (by decide) ?_
          refine go_ip (run_S g C hP hS (As := [.int a5, .int (nI 0), .int (nI 1)]) (rest := []) (c_X9_in hi S a5 (nI 0) (nI 1) _ h) cal_X9_in kML_X9_45 ⟨rfl, rfl, Nat.le_of_ble_eq_true rfl, Nat.le_of_ble_eq_true rfl⟩ rfl rfl hl.1 (Nat.le_of_ble_eq_true rfl) dX9_cut_44) hS (fun r_9 H locs h hP hS => ?_)
          obtain ⟨hbr_9, h⟩ := h
          refine lv_if_ne (tgt := 54) hx hb dX9_cut_47 (by decide) (fun c_10 => ?_) (fun c_10 => ?_)
          · have h := h.2 c_10
            refine lv_aload_n hx hb dX9_cut_54 rfl (lv_at hl 0 rfl) ?_
            refine s_gR g C hP 0 19 6 (by decide) rfl rfl cfX9 (by decide) kFL_X9_29 dX9_cut_55 ?_
            refine lv_bipush (v := (nI 7)) hx hb dX9_cut_58 (by decide) ?_
            refine lv_iload_n hx hb dX9_cut_60 rfl (lv_at hl 1 rfl) ?_
            refine lv_iadd hx hb dX9_cut_61 ?_
            have hv_11 := h.1
            have h := h.2
            refine s_aI g C hP 6 (by decide) rfl hv_11 dX9_cut_62 ?_
            refine lv_topi (fun x6_12 ex6_12 => ?_)
            have h := h x6_12 ex6_12
            refine lv_istore (lv' := [(6, .int x6_12), (0, .ref (Z.2.2.1 0)), (1, .int a1), (2, .int a2), (3, .int a3), (4, .int a4), (5, .int a5)]) hx hb dX9_cut_63 hl (by decide) rfl (fun ls hl => ?_)
            refine lv_iload hx hb dX9_cut_65 (lv_at hl 0 rfl) ?_
            refine lv_if_ne (tgt := 74) hx hb dX9_cut_67 (by decide) (fun c_13 => ?_) (fun c_13 => ?_)
            · have h := h.2 c_13
              refine lv_lconst (v := (lN 0)) hx hb dX9_cut_74 (by decide) ?_
              refine lv_lstore (lv' := [(7, .long (lN 0)), (6, .int x6_12), (0, .ref (Z.2.2.1 0)), (1, .int a1), (2, .int a2), (3, .int a3), (4, .int a4), (5, .int a5)]) hx hb dX9_cut_75 hl (by decide) rfl (fun ls hl => ?_)
              refine lv_lconst (v := (lN 1)) hx hb dX9_cut_77 (by decide) ?_
              refine lv_lstore (lv' := [(9, .long (lN 1)), (7, .long (lN 0)), (6, .int x6_12), (0, .ref (Z.2.2.1 0)), (1, .int a1), (2, .int a2), (3, .int a3), (4, .int a4), (5, .int a5)]) hx hb dX9_cut_78 hl (by decide) rfl (fun ls hl => ?_)
              refine lv_iconst (v := (nI 0)) hx hb dX9_cut_80 (by decide) ?_
              refine lv_istore (lv' := [(11, .int (nI 0)), (9, .long (lN 1)), (7, .long (lN 0)), (6, .int x6_12), (0, .ref (Z.2.2.1 0)), (1, .int a1), (2, .int a2), (3, .int a3), (4, .int a4), (5, .int a5)]) hx hb dX9_cut_81 hl (by decide) rfl (fun ls hl => ?_)
              obtain ⟨f_83, h⟩ := h
              exact b_X9_cut_83 hi C  f_83 _ _ _ _ _ _ _ hP hS (lv_sub hl [4, 5, 6, 7, 8, 9, 3, 2, 1, 0] rfl) h
            · have h := h.1 c_13
              refine lv_ldc2 (v := (-4 : Int64)) hx hb C.1.2.2.2.1 (C.1.2.2.2.2 _ (List.mem_cons_of_mem _ kCO_X9_83)) dX9_cut_70 ?_
              exact s_rl C hP hS ⟨rfl, h⟩ dX9_cut_73
          · have h := h.1 c_10
            refine lv_ldc2 (v := (-3 : Int64)) hx hb C.1.2.2.2.1 (C.1.2.2.2.2 _ (List.mem_cons_of_mem _ kCO_X9_87)) dX9_cut_50 ?_
            exact s_rl C hP hS ⟨rfl, h⟩ dX9_cut_53
    · have h := h.1 c_4
      refine lv_ldc2 (v := (-2 : Int64)) hx hb C.1.2.2.2.1 (C.1.2.2.2.2 _ (List.mem_cons_of_mem _ kCO_X9_73)) dX9_cut_15 ?_
      exact s_rl C hP hS ⟨rfl, h⟩ dX9_cut_18
def q_X9_share_200 (a1 : Int32) (a2 : Int32) (S : St) (k : Int32 → Prop) (e_114 : Int32 → Int32 → Int32 → Int32 → Int32 → Int32 → Prop) (x3 : Int32) (x4 : Int32) (x5 : Int32) (x6 : Int32) (x7 : Int32) (x8 : Int32) : Prop := ∀ x8_1 : Int32, x8_1 = x8 + (nI 1) → (e_114 x3 x4 x5 x6 x7 x8_1)
set_option maxRecDepth 100000 in
set_option maxHeartbeats 4000000 in
theorem b_X9_share_200 {p : Program} {l : Launch} {e : Env} {s : State} {m : MethodId} {args : Array Value} {below : List Frame} {meth : Method} {c : Code} {Z : ZT} (hi : injZ 10 Z) (C : Cxt (gM Z) p s m meth c args yX9_share cX9_share 10 (Option.some .int)) {a1 : Int32} {a2 : Int32} {S : St} {k : Int32 → Prop} {e_114 : Int32 → Int32 → Int32 → Int32 → Int32 → Int32 → Prop}  (he_114 : ∀ (x3 : Int32) (x4 : Int32) (x5 : Int32) (x6 : Int32) (x7 : Int32) (x8 : Int32) (H : Heap) (locs : List Loc) (ls : Array Slot), va_P Z.1 vwCl (wl shM 10 Z S) H → va_S (aa 10 Z) s.heap H locs → lv_has ls 10 [(0, .ref (Z.2.2.1 0)), (1, .int a1), (2, .int a2), (3, .int x3), (4, .int x4), (5, .int x5), (6, .int x6), (7, .int x7), (8, .int x8)] → e_114 x3 x4 x5 x6 x7 x8 → W p l e (rmk 2 43) s m args below meth c H locs 0 0 (Qi below shM 10 Z args s (fun r S' => S' = S ∧ k r)) (F0 m 114 ls [])) (x3 : Int32) (x4 : Int32) (x5 : Int32) (x6 : Int32) (x7 : Int32) (x8 : Int32) (H : Heap) (locs : List Loc) (ls : Array Slot) (hP : va_P Z.1 vwCl (wl shM 10 Z S) H) (hS : va_S (aa 10 Z) s.heap H locs) (hl : lv_has ls 10 [(0, .ref (Z.2.2.1 0)), (1, .int a1), (2, .int a2), (3, .int x3), (4, .int x4), (5, .int x5), (6, .int x6), (7, .int x7), (8, .int x8)]) (h : q_X9_share_200 a1 a2 S k e_114 x3 x4 x5 x6 x7 x8) : W p l e (rmk 2 43) s m args below meth c H locs 0 0 (Qi below shM 10 Z args s (fun r S' => S' = S ∧ k r)) (F0 m 200 ls []) := by
  have g := gokM hi
  have hx := C.1.1
  have hb := C.1.2.1
  unfold q_X9_share_200 at h
  obtain ⟨x8_1, ex8_1⟩ : ∃ y_ : Int32, y_ = x8 + (nI 1) := ⟨_, rfl⟩
  have h := h x8_1 ex8_1
  refine lv_iinc (v := x8_1) (lv' := [(8, .int x8_1), (0, .ref (Z.2.2.1 0)), (1, .int a1), (2, .int a2), (3, .int x3), (4, .int x4), (5, .int x5), (6, .int x6), (7, .int x7)]) hx hb dX9_share_200 hl (k := 8) rfl (by rw [ex8_1]; rfl) (by decide) rfl (fun ls hl => ?_)
  refine lv_goto (tgt := 114) hx hb dX9_share_203 (by decide) ?_
  exact he_114 _ _ _ _ _ _ _ _ _ hP hS (lv_sub hl [1, 2, 3, 4, 5, 6, 7, 8, 0] rfl) h
def q_X9_share_197 (a1 : Int32) (a2 : Int32) (S : St) (k : Int32 → Prop) (e_114 : Int32 → Int32 → Int32 → Int32 → Int32 → Int32 → Prop) (x3 : Int32) (x4 : Int32) (x5 : Int32) (x6 : Int32) (x8 : Int32) (t0 : Int32) (t1 : Int32) : Prop := ∀ x7_1 : Int32, x7_1 = (t1 + t0) → (q_X9_share_200 a1 a2 S k e_114 x3 x4 x5 x6 x7_1 x8)
set_option maxRecDepth 100000 in
set_option maxHeartbeats 4000000 in
theorem b_X9_share_197 {p : Program} {l : Launch} {e : Env} {s : State} {m : MethodId} {args : Array Value} {below : List Frame} {meth : Method} {c : Code} {Z : ZT} (hi : injZ 10 Z) (C : Cxt (gM Z) p s m meth c args yX9_share cX9_share 10 (Option.some .int)) {a1 : Int32} {a2 : Int32} {S : St} {k : Int32 → Prop} {e_114 : Int32 → Int32 → Int32 → Int32 → Int32 → Int32 → Prop}  (he_114 : ∀ (x3 : Int32) (x4 : Int32) (x5 : Int32) (x6 : Int32) (x7 : Int32) (x8 : Int32) (H : Heap) (locs : List Loc) (ls : Array Slot), va_P Z.1 vwCl (wl shM 10 Z S) H → va_S (aa 10 Z) s.heap H locs → lv_has ls 10 [(0, .ref (Z.2.2.1 0)), (1, .int a1), (2, .int a2), (3, .int x3), (4, .int x4), (5, .int x5), (6, .int x6), (7, .int x7), (8, .int x8)] → e_114 x3 x4 x5 x6 x7 x8 → W p l e (rmk 2 43) s m args below meth c H locs 0 0 (Qi below shM 10 Z args s (fun r S' => S' = S ∧ k r)) (F0 m 114 ls [])) (x3 : Int32) (x4 : Int32) (x5 : Int32) (x6 : Int32) (x8 : Int32) (t0 : Int32) (t1 : Int32) (H : Heap) (locs : List Loc) (ls : Array Slot) (hP : va_P Z.1 vwCl (wl shM 10 Z S) H) (hS : va_S (aa 10 Z) s.heap H locs) (hl : lv_has ls 10 [(0, .ref (Z.2.2.1 0)), (1, .int a1), (2, .int a2), (3, .int x3), (4, .int x4), (5, .int x5), (6, .int x6), (8, .int x8)]) (h : q_X9_share_197 a1 a2 S k e_114 x3 x4 x5 x6 x8 t0 t1) : W p l e (rmk 2 43) s m args below meth c H locs 0 0 (Qi below shM 10 Z args s (fun r S' => S' = S ∧ k r)) (F0 m 197 ls [.int t0, .int t1]) := by
  have g := gokM hi
  have hx := C.1.1
  have hb := C.1.2.1
  unfold q_X9_share_197 at h
  refine lv_iadd hx hb dX9_share_197 ?_
  refine lv_topi (fun x7_1 ex7_1 => ?_)
  have h := h x7_1 ex7_1
  refine lv_istore (lv' := [(7, .int x7_1), (0, .ref (Z.2.2.1 0)), (1, .int a1), (2, .int a2), (3, .int x3), (4, .int x4), (5, .int x5), (6, .int x6), (8, .int x8)]) hx hb dX9_share_198 hl (by decide) rfl (fun ls hl => ?_)
  exact b_X9_share_200 hi C he_114 _ _ _ _ _ _ _ _ _ hP hS (lv_sub hl [1, 2, 3, 4, 5, 6, 7, 0, 8] rfl) h
def q_X9_share_192 (a1 : Int32) (a2 : Int32) (S : St) (k : Int32 → Prop) (e_114 : Int32 → Int32 → Int32 → Int32 → Int32 → Int32 → Prop) (x3 : Int32) (x4 : Int32) (x5 : Int32) (x6 : Int32) (x8 : Int32) (t0 : Int32) : Prop := q_X9_share_197 a1 a2 S k e_114 x3 x4 x5 x6 x8 (nI 1) t0
set_option maxRecDepth 100000 in
set_option maxHeartbeats 4000000 in
theorem b_X9_share_192 {p : Program} {l : Launch} {e : Env} {s : State} {m : MethodId} {args : Array Value} {below : List Frame} {meth : Method} {c : Code} {Z : ZT} (hi : injZ 10 Z) (C : Cxt (gM Z) p s m meth c args yX9_share cX9_share 10 (Option.some .int)) {a1 : Int32} {a2 : Int32} {S : St} {k : Int32 → Prop} {e_114 : Int32 → Int32 → Int32 → Int32 → Int32 → Int32 → Prop}  (he_114 : ∀ (x3 : Int32) (x4 : Int32) (x5 : Int32) (x6 : Int32) (x7 : Int32) (x8 : Int32) (H : Heap) (locs : List Loc) (ls : Array Slot), va_P Z.1 vwCl (wl shM 10 Z S) H → va_S (aa 10 Z) s.heap H locs → lv_has ls 10 [(0, .ref (Z.2.2.1 0)), (1, .int a1), (2, .int a2), (3, .int x3), (4, .int x4), (5, .int x5), (6, .int x6), (7, .int x7), (8, .int x8)] → e_114 x3 x4 x5 x6 x7 x8 → W p l e (rmk 2 43) s m args below meth c H locs 0 0 (Qi below shM 10 Z args s (fun r S' => S' = S ∧ k r)) (F0 m 114 ls [])) (x3 : Int32) (x4 : Int32) (x5 : Int32) (x6 : Int32) (x8 : Int32) (t0 : Int32) (H : Heap) (locs : List Loc) (ls : Array Slot) (hP : va_P Z.1 vwCl (wl shM 10 Z S) H) (hS : va_S (aa 10 Z) s.heap H locs) (hl : lv_has ls 10 [(0, .ref (Z.2.2.1 0)), (1, .int a1), (2, .int a2), (3, .int x3), (4, .int x4), (5, .int x5), (6, .int x6), (8, .int x8)]) (h : q_X9_share_192 a1 a2 S k e_114 x3 x4 x5 x6 x8 t0) : W p l e (rmk 2 43) s m args below meth c H locs 0 0 (Qi below shM 10 Z args s (fun r S' => S' = S ∧ k r)) (F0 m 192 ls [.int t0]) := by
  have g := gokM hi
  have hx := C.1.1
  have hb := C.1.2.1
  unfold q_X9_share_192 at h
  refine lv_iconst (v := (nI 1)) hx hb dX9_share_192 (by decide) ?_
  refine lv_goto (tgt := 197) hx hb dX9_share_193 (by decide) ?_
  exact b_X9_share_197 hi C he_114 _ _ _ _ _ _ _ _ _ _ hP hS (lv_sub hl [0, 1, 2, 3, 4, 5, 6, 7] rfl) h
def q_X9_share_196 (a1 : Int32) (a2 : Int32) (S : St) (k : Int32 → Prop) (e_114 : Int32 → Int32 → Int32 → Int32 → Int32 → Int32 → Prop) (x3 : Int32) (x4 : Int32) (x5 : Int32) (x6 : Int32) (x8 : Int32) (t0 : Int32) : Prop := q_X9_share_197 a1 a2 S k e_114 x3 x4 x5 x6 x8 (nI 0) t0
set_option maxRecDepth 100000 in
set_option maxHeartbeats 4000000 in
theorem b_X9_share_196 {p : Program} {l : Launch} {e : Env} {s : State} {m : MethodId} {args : Array Value} {below : List Frame} {meth : Method} {c : Code} {Z : ZT} (hi : injZ 10 Z) (C : Cxt (gM Z) p s m meth c args yX9_share cX9_share 10 (Option.some .int)) {a1 : Int32} {a2 : Int32} {S : St} {k : Int32 → Prop} {e_114 : Int32 → Int32 → Int32 → Int32 → Int32 → Int32 → Prop}  (he_114 : ∀ (x3 : Int32) (x4 : Int32) (x5 : Int32) (x6 : Int32) (x7 : Int32) (x8 : Int32) (H : Heap) (locs : List Loc) (ls : Array Slot), va_P Z.1 vwCl (wl shM 10 Z S) H → va_S (aa 10 Z) s.heap H locs → lv_has ls 10 [(0, .ref (Z.2.2.1 0)), (1, .int a1), (2, .int a2), (3, .int x3), (4, .int x4), (5, .int x5), (6, .int x6), (7, .int x7), (8, .int x8)] → e_114 x3 x4 x5 x6 x7 x8 → W p l e (rmk 2 43) s m args below meth c H locs 0 0 (Qi below shM 10 Z args s (fun r S' => S' = S ∧ k r)) (F0 m 114 ls [])) (x3 : Int32) (x4 : Int32) (x5 : Int32) (x6 : Int32) (x8 : Int32) (t0 : Int32) (H : Heap) (locs : List Loc) (ls : Array Slot) (hP : va_P Z.1 vwCl (wl shM 10 Z S) H) (hS : va_S (aa 10 Z) s.heap H locs) (hl : lv_has ls 10 [(0, .ref (Z.2.2.1 0)), (1, .int a1), (2, .int a2), (3, .int x3), (4, .int x4), (5, .int x5), (6, .int x6), (8, .int x8)]) (h : q_X9_share_196 a1 a2 S k e_114 x3 x4 x5 x6 x8 t0) : W p l e (rmk 2 43) s m args below meth c H locs 0 0 (Qi below shM 10 Z args s (fun r S' => S' = S ∧ k r)) (F0 m 196 ls [.int t0]) := by
  have g := gokM hi
  have hx := C.1.1
  have hb := C.1.2.1
  unfold q_X9_share_196 at h
  refine lv_iconst (v := (nI 0)) hx hb dX9_share_196 (by decide) ?_
  exact b_X9_share_197 hi C he_114 _ _ _ _ _ _ _ _ _ _ hP hS (lv_sub hl [0, 1, 2, 3, 4, 5, 6, 7] rfl) h
def q_X9_share_114 (a1 : Int32) (a2 : Int32) (S : St) (k : Int32 → Prop) : Nat → Int32 → Int32 → Int32 → Int32 → Int32 → Int32 → Prop := fun n_ => Nat.rec (motive := fun _ => Int32 → Int32 → Int32 → Int32 → Int32 → Int32 → Prop) (fun _ _ _ _ _ _ => False) (fun _ ih => fun x3 x4 x5 x6 x7 x8 => ((nI 6) ≤ x8 → (((a1 - x4) ≤ x7 → (k x5)) ∧ (¬ (a1 - x4) ≤ x7 → (k (x5 + (nI 1)))))) ∧ (¬ (nI 6) ≤ x8 → (q_X9_has S (S.1 0 1) x8 (fun r_3 => ((r_3 = (nI 0) → (q_X9_share_200 a1 a2 S k ih x3 x4 x5 x6 x7 x8)) ∧ (¬ r_3 = (nI 0) → (vp_in (((nI 5) * x8) + (nI 2)) 30 ∧ (¬ x3 = (nI 0) ∧ (∀ x9_7 : Int32, x9_7 = ((a1 * (S.1 2 (((nI 5) * x8) + (nI 2)).toNatClampNeg)) - (a1 * (S.1 2 (((nI 5) * x8) + (nI 2)).toNatClampNeg)) / x3 * x3) → (vp_in (((nI 5) * x8) + (nI 2)) 30 ∧ (¬ x3 = (nI 0) ∧ (∀ x4_10 : Int32, x4_10 = (x4 + ((a1 * (S.1 2 (((nI 5) * x8) + (nI 2)).toNatClampNeg)) / x3)) → ((x6 < x9_7 → (q_X9_share_192 a1 a2 S k ih x3 x4_10 x5 x6 x8 x7)) ∧ (¬ x6 < x9_7 → ((x9_7 = x6 → ((a2 ≤ x8 → (q_X9_share_196 a1 a2 S k ih x3 x4_10 x5 x6 x8 x7)) ∧ (¬ a2 ≤ x8 → (q_X9_share_192 a1 a2 S k ih x3 x4_10 x5 x6 x8 x7)))) ∧ (¬ x9_7 = x6 → (q_X9_share_196 a1 a2 S k ih x3 x4_10 x5 x6 x8 x7))))))))))))))))) n_
theorem q_X9_share_114_s (a1 : Int32) (a2 : Int32) (S : St) (k : Int32 → Prop) (n_ : Nat) (x3 : Int32) (x4 : Int32) (x5 : Int32) (x6 : Int32) (x7 : Int32) (x8 : Int32) : q_X9_share_114 a1 a2 S k (n_ + 1) x3 x4 x5 x6 x7 x8 = (((nI 6) ≤ x8 → (((a1 - x4) ≤ x7 → (k x5)) ∧ (¬ (a1 - x4) ≤ x7 → (k (x5 + (nI 1)))))) ∧ (¬ (nI 6) ≤ x8 → (q_X9_has S (S.1 0 1) x8 (fun r_3 => ((r_3 = (nI 0) → (q_X9_share_200 a1 a2 S k (q_X9_share_114 a1 a2 S k n_) x3 x4 x5 x6 x7 x8)) ∧ (¬ r_3 = (nI 0) → (vp_in (((nI 5) * x8) + (nI 2)) 30 ∧ (¬ x3 = (nI 0) ∧ (∀ x9_7 : Int32, x9_7 = ((a1 * (S.1 2 (((nI 5) * x8) + (nI 2)).toNatClampNeg)) - (a1 * (S.1 2 (((nI 5) * x8) + (nI 2)).toNatClampNeg)) / x3 * x3) → (vp_in (((nI 5) * x8) + (nI 2)) 30 ∧ (¬ x3 = (nI 0) ∧ (∀ x4_10 : Int32, x4_10 = (x4 + ((a1 * (S.1 2 (((nI 5) * x8) + (nI 2)).toNatClampNeg)) / x3)) → ((x6 < x9_7 → (q_X9_share_192 a1 a2 S k (q_X9_share_114 a1 a2 S k n_) x3 x4_10 x5 x6 x8 x7)) ∧ (¬ x6 < x9_7 → ((x9_7 = x6 → ((a2 ≤ x8 → (q_X9_share_196 a1 a2 S k (q_X9_share_114 a1 a2 S k n_) x3 x4_10 x5 x6 x8 x7)) ∧ (¬ a2 ≤ x8 → (q_X9_share_192 a1 a2 S k (q_X9_share_114 a1 a2 S k n_) x3 x4_10 x5 x6 x8 x7)))) ∧ (¬ x9_7 = x6 → (q_X9_share_196 a1 a2 S k (q_X9_share_114 a1 a2 S k n_) x3 x4_10 x5 x6 x8 x7))))))))))))))))) := rfl
set_option maxRecDepth 100000 in
set_option maxHeartbeats 4000000 in
theorem b_X9_share_114 {p : Program} {l : Launch} {e : Env} {s : State} {m : MethodId} {args : Array Value} {below : List Frame} {meth : Method} {c : Code} {Z : ZT} (hi : injZ 10 Z) (C : Cxt (gM Z) p s m meth c args yX9_share cX9_share 10 (Option.some .int)) {a1 : Int32} {a2 : Int32} {S : St} {k : Int32 → Prop}   : ∀ (n_ : Nat) (x3 : Int32) (x4 : Int32) (x5 : Int32) (x6 : Int32) (x7 : Int32) (x8 : Int32) (H : Heap) (locs : List Loc) (ls : Array Slot), va_P Z.1 vwCl (wl shM 10 Z S) H → va_S (aa 10 Z) s.heap H locs → lv_has ls 10 [(0, .ref (Z.2.2.1 0)), (1, .int a1), (2, .int a2), (3, .int x3), (4, .int x4), (5, .int x5), (6, .int x6), (7, .int x7), (8, .int x8)] → q_X9_share_114 a1 a2 S k n_ x3 x4 x5 x6 x7 x8 → W p l e (rmk 2 43) s m args below meth c H locs 0 0 (Qi below shM 10 Z args s (fun r S' => S' = S ∧ k r)) (F0 m 114 ls []) := by
  have g := gokM hi
  have hx := C.1.1
  have hb := C.1.2.1
  intro n_
  induction n_ with
  | zero => intro x3 x4 x5 x6 x7 x8 H locs ls hP hS hl h; exact h.elim
  | succ n_ ih =>
    intro x3 x4 x5 x6 x7 x8 H locs ls hP hS hl h
    rw [q_X9_share_114_s] at h
    refine lv_iload hx hb dX9_share_114 (lv_at hl 8 rfl) ?_
    refine lv_bipush (v := (nI 6)) hx hb dX9_share_116 (by decide) ?_
    refine lv_icmp_ge (tgt := 206) hx hb dX9_share_118 (by decide) (fun c_1 => ?_) (fun c_1 => ?_)
    · have h := h.1 c_1
      refine lv_iload hx hb dX9_share_206 (lv_at hl 7 rfl) ?_
      refine lv_iload_n hx hb dX9_share_208 rfl (lv_at hl 1 rfl) ?_
      refine lv_iload hx hb dX9_share_209 (lv_at hl 4 rfl) ?_
      refine lv_isub hx hb dX9_share_211 ?_
      refine lv_icmp_ge (tgt := 222) hx hb dX9_share_212 (by decide) (fun c_2 => ?_) (fun c_2 => ?_)
      · have h := h.1 c_2
        refine lv_iload hx hb dX9_share_222 (lv_at hl 5 rfl) ?_
        exact s_ri C hP hS ⟨rfl, h⟩ dX9_share_224
      · have h := h.2 c_2
        refine lv_iload hx hb dX9_share_215 (lv_at hl 5 rfl) ?_
        refine lv_iconst (v := (nI 1)) hx hb dX9_share_217 (by decide) ?_
        refine lv_iadd hx hb dX9_share_218 ?_
        refine lv_goto (tgt := 224) hx hb dX9_share_219 (by decide) ?_
        exact s_ri C hP hS ⟨rfl, h⟩ dX9_share_224
    · have h := h.2 c_1
      refine lv_aload_n hx hb dX9_share_121 rfl (lv_at hl 0 rfl) ?_
      refine s_gI g C hP 0 1 (by decide) rfl rfl cfX9 (by decide) kFL_X9_49 dX9_share_122 ?_
      refine lv_iload hx hb dX9_share_125 (lv_at hl 8 rfl) ?_
      refine go_ip (run_S g C hP hS (As := [.int (S.1 0 1), .int x8]) (rest := []) (c_X9_has hi S (S.1 0 1) x8 _ h) cal_X9_has kML_X9_52 ⟨rfl, rfl, Nat.le_of_ble_eq_true rfl, Nat.le_of_ble_eq_true rfl⟩ rfl rfl hl.1 (Nat.le_of_ble_eq_true rfl) dX9_share_127) hS (fun r_3 H locs h hP hS => ?_)
      obtain ⟨hbr_3, h⟩ := h
      refine lv_if_eq (tgt := 200) hx hb dX9_share_130 (by decide) (fun c_4 => ?_) (fun c_4 => ?_)
      · have h := h.1 c_4
        exact b_X9_share_200 hi C ih _ _ _ _ _ _ _ _ _ hP hS (lv_sub hl [0, 1, 2, 3, 4, 5, 6, 7, 8] rfl) h
      · have h := h.2 c_4
        refine lv_iload_n hx hb dX9_share_133 rfl (lv_at hl 1 rfl) ?_
        refine lv_aload_n hx hb dX9_share_134 rfl (lv_at hl 0 rfl) ?_
        refine s_gR g C hP 0 2 2 (by decide) rfl rfl cfX9 (by decide) kFL_X9_13 dX9_share_135 ?_
        refine lv_iconst (v := (nI 5)) hx hb dX9_share_138 (by decide) ?_
        refine lv_iload hx hb dX9_share_139 (lv_at hl 8 rfl) ?_
        refine lv_imul hx hb dX9_share_141 ?_
        refine lv_iconst (v := (nI 2)) hx hb dX9_share_142 (by decide) ?_
        refine lv_iadd hx hb dX9_share_143 ?_
        have hv_5 := h.1
        have h := h.2
        refine s_aI g C hP 2 (by decide) rfl hv_5 dX9_share_144 ?_
        refine lv_imul hx hb dX9_share_145 ?_
        refine lv_iload_n hx hb dX9_share_146 rfl (lv_at hl 3 rfl) ?_
        have hn_6 := h.1
        have h := h.2
        refine lv_irem hx hb dX9_share_147 hn_6 ?_
        refine lv_topi (fun x9_7 ex9_7 => ?_)
        have h := h x9_7 ex9_7
        refine lv_istore (lv' := [(9, .int x9_7), (0, .ref (Z.2.2.1 0)), (1, .int a1), (2, .int a2), (3, .int x3), (4, .int x4), (5, .int x5), (6, .int x6), (7, .int x7), (8, .int x8)]) hx hb dX9_share_148 hl (by decide) rfl (fun ls hl => ?_)
        refine lv_iload hx hb dX9_share_150 (lv_at hl 5 rfl) ?_
        refine lv_iload_n hx hb dX9_share_152 rfl (lv_at hl 2 rfl) ?_
        refine lv_aload_n hx hb dX9_share_153 rfl (lv_at hl 1 rfl) ?_
        refine s_gR g C hP 0 2 2 (by decide) rfl rfl cfX9 (by decide) kFL_X9_13 dX9_share_154 ?_
        refine lv_iconst (v := (nI 5)) hx hb dX9_share_157 (by decide) ?_
        refine lv_iload hx hb dX9_share_158 (lv_at hl 9 rfl) ?_
        refine lv_imul hx hb dX9_share_160 ?_
        refine lv_iconst (v := (nI 2)) hx hb dX9_share_161 (by decide) ?_
        refine lv_iadd hx hb dX9_share_162 ?_
        have hv_8 := h.1
        have h := h.2
        refine s_aI g C hP 2 (by decide) rfl hv_8 dX9_share_163 ?_
        refine lv_imul hx hb dX9_share_164 ?_
        refine lv_iload_n hx hb dX9_share_165 rfl (lv_at hl 4 rfl) ?_
        have hn_9 := h.1
        have h := h.2
        refine lv_idiv hx hb dX9_share_166 hn_9 ?_
        refine lv_iadd hx hb dX9_share_167 ?_
        refine lv_topi (fun x4_10 ex4_10 => ?_)
        have h := h x4_10 ex4_10
        refine lv_istore (lv' := [(4, .int x4_10), (9, .int x9_7), (0, .ref (Z.2.2.1 0)), (1, .int a1), (2, .int a2), (3, .int x3), (5, .int x5), (6, .int x6), (7, .int x7), (8, .int x8)]) hx hb dX9_share_168 hl (by decide) rfl (fun ls hl => ?_)
        refine lv_iload hx hb dX9_share_170 (lv_at hl 8 rfl) ?_
        refine lv_iload hx hb dX9_share_172 (lv_at hl 1 rfl) ?_
        refine lv_iload hx hb dX9_share_174 (lv_at hl 7 rfl) ?_
        refine lv_icmp_gt (tgt := 192) hx hb dX9_share_176 (by decide) (fun c_11 => ?_) (fun c_11 => ?_)
        · have h := h.1 c_11
          exact b_X9_share_192 hi C ih _ _ _ _ _ _ _ _ _ hP hS (lv_sub hl [2, 3, 4, 5, 0, 6, 7, 9] rfl) h
        · have h := h.2 c_11
          refine lv_iload hx hb dX9_share_179 (lv_at hl 1 rfl) ?_
          refine lv_iload hx hb dX9_share_181 (lv_at hl 7 rfl) ?_
          refine lv_icmp_ne (tgt := 196) hx hb dX9_share_183 (by decide) (fun c_12 => ?_) (fun c_12 => ?_)
          · have h := h.2 c_12
            exact b_X9_share_196 hi C ih _ _ _ _ _ _ _ _ _ hP hS (lv_sub hl [2, 3, 4, 5, 0, 6, 7, 9] rfl) h
          · have h := h.1 c_12
            refine lv_iload hx hb dX9_share_186 (lv_at hl 9 rfl) ?_
            refine lv_iload_n hx hb dX9_share_188 rfl (lv_at hl 4 rfl) ?_
            refine lv_icmp_ge (tgt := 196) hx hb dX9_share_189 (by decide) (fun c_13 => ?_) (fun c_13 => ?_)
            · have h := h.1 c_13
              exact b_X9_share_196 hi C ih _ _ _ _ _ _ _ _ _ hP hS (lv_sub hl [2, 3, 4, 5, 0, 6, 7, 9] rfl) h
            · have h := h.2 c_13
              exact b_X9_share_192 hi C ih _ _ _ _ _ _ _ _ _ hP hS (lv_sub hl [2, 3, 4, 5, 0, 6, 7, 9] rfl) h
def q_X9_share_68 (a1 : Int32) (a2 : Int32) (S : St) (k : Int32 → Prop) (e_33 : Int32 → Int32 → Int32 → Prop) (x4 : Int32) (x5 : Int32) (t0 : Int32) (t1 : Int32) : Prop := ∀ x3_1 : Int32, x3_1 = (t1 + t0) → (∀ x5_2 : Int32, x5_2 = x5 + (nI 1) → (e_33 x3_1 x4 x5_2))
set_option maxRecDepth 100000 in
set_option maxHeartbeats 4000000 in
theorem b_X9_share_68 {p : Program} {l : Launch} {e : Env} {s : State} {m : MethodId} {args : Array Value} {below : List Frame} {meth : Method} {c : Code} {Z : ZT} (hi : injZ 10 Z) (C : Cxt (gM Z) p s m meth c args yX9_share cX9_share 10 (Option.some .int)) {a1 : Int32} {a2 : Int32} {S : St} {k : Int32 → Prop} {e_33 : Int32 → Int32 → Int32 → Prop}  (he_33 : ∀ (x3 : Int32) (x4 : Int32) (x5 : Int32) (H : Heap) (locs : List Loc) (ls : Array Slot), va_P Z.1 vwCl (wl shM 10 Z S) H → va_S (aa 10 Z) s.heap H locs → lv_has ls 10 [(0, .ref (Z.2.2.1 0)), (1, .int a1), (2, .int a2), (3, .int x3), (4, .int x4), (5, .int x5)] → e_33 x3 x4 x5 → W p l e (rmk 2 43) s m args below meth c H locs 0 0 (Qi below shM 10 Z args s (fun r S' => S' = S ∧ k r)) (F0 m 33 ls [])) (x4 : Int32) (x5 : Int32) (t0 : Int32) (t1 : Int32) (H : Heap) (locs : List Loc) (ls : Array Slot) (hP : va_P Z.1 vwCl (wl shM 10 Z S) H) (hS : va_S (aa 10 Z) s.heap H locs) (hl : lv_has ls 10 [(0, .ref (Z.2.2.1 0)), (1, .int a1), (2, .int a2), (4, .int x4), (5, .int x5)]) (h : q_X9_share_68 a1 a2 S k e_33 x4 x5 t0 t1) : W p l e (rmk 2 43) s m args below meth c H locs 0 0 (Qi below shM 10 Z args s (fun r S' => S' = S ∧ k r)) (F0 m 68 ls [.int t0, .int t1]) := by
  have g := gokM hi
  have hx := C.1.1
  have hb := C.1.2.1
  unfold q_X9_share_68 at h
  refine lv_iadd hx hb dX9_share_68 ?_
  refine lv_topi (fun x3_1 ex3_1 => ?_)
  have h := h x3_1 ex3_1
  refine lv_istore_n (lv' := [(3, .int x3_1), (0, .ref (Z.2.2.1 0)), (1, .int a1), (2, .int a2), (4, .int x4), (5, .int x5)]) hx hb dX9_share_69 rfl hl (by decide) rfl (fun ls hl => ?_)
  obtain ⟨x5_2, ex5_2⟩ : ∃ y_ : Int32, y_ = x5 + (nI 1) := ⟨_, rfl⟩
  have h := h x5_2 ex5_2
  refine lv_iinc (v := x5_2) (lv' := [(5, .int x5_2), (3, .int x3_1), (0, .ref (Z.2.2.1 0)), (1, .int a1), (2, .int a2), (4, .int x4)]) hx hb dX9_share_70 hl (k := 5) rfl (by rw [ex5_2]; rfl) (by decide) rfl (fun ls hl => ?_)
  refine lv_goto (tgt := 33) hx hb dX9_share_73 (by decide) ?_
  exact he_33 _ _ _ _ _ _ hP hS (lv_sub hl [2, 3, 4, 1, 5, 0] rfl) h
def q_X9_share_33 (a1 : Int32) (a2 : Int32) (S : St) (k : Int32 → Prop) : Nat → Int32 → Int32 → Int32 → Prop := fun n_ => Nat.rec (motive := fun _ => Int32 → Int32 → Int32 → Prop) (fun _ _ _ => False) (fun _ ih => fun x3 x4 x5 => ((nI 6) ≤ x5 → (vp_in (((nI 5) * a2) + (nI 2)) 30 ∧ (¬ x3 = (nI 0) ∧ (∀ x5_4 : Int32, x5_4 = ((a1 * (S.1 2 (((nI 5) * a2) + (nI 2)).toNatClampNeg)) / x3) → (vp_in (((nI 5) * a2) + (nI 2)) 30 ∧ (¬ x3 = (nI 0) ∧ (∀ x6_7 : Int32, x6_7 = ((a1 * (S.1 2 (((nI 5) * a2) + (nI 2)).toNatClampNeg)) - (a1 * (S.1 2 (((nI 5) * a2) + (nI 2)).toNatClampNeg)) / x3 * x3) → (∃ f_114, q_X9_share_114 a1 a2 S k f_114 x3 x4 x5_4 x6_7 (nI 0) (nI 0))))))))) ∧ (¬ (nI 6) ≤ x5 → (q_X9_has S (S.1 0 1) x5 (fun r_8 => ((r_8 = (nI 0) → (q_X9_share_68 a1 a2 S k ih x4 x5 (nI 0) x3)) ∧ (¬ r_8 = (nI 0) → (vp_in (((nI 5) * x5) + (nI 2)) 30 ∧ (q_X9_share_68 a1 a2 S k ih x4 x5 (S.1 2 (((nI 5) * x5) + (nI 2)).toNatClampNeg) x3)))))))) n_
theorem q_X9_share_33_s (a1 : Int32) (a2 : Int32) (S : St) (k : Int32 → Prop) (n_ : Nat) (x3 : Int32) (x4 : Int32) (x5 : Int32) : q_X9_share_33 a1 a2 S k (n_ + 1) x3 x4 x5 = (((nI 6) ≤ x5 → (vp_in (((nI 5) * a2) + (nI 2)) 30 ∧ (¬ x3 = (nI 0) ∧ (∀ x5_4 : Int32, x5_4 = ((a1 * (S.1 2 (((nI 5) * a2) + (nI 2)).toNatClampNeg)) / x3) → (vp_in (((nI 5) * a2) + (nI 2)) 30 ∧ (¬ x3 = (nI 0) ∧ (∀ x6_7 : Int32, x6_7 = ((a1 * (S.1 2 (((nI 5) * a2) + (nI 2)).toNatClampNeg)) - (a1 * (S.1 2 (((nI 5) * a2) + (nI 2)).toNatClampNeg)) / x3 * x3) → (∃ f_114, q_X9_share_114 a1 a2 S k f_114 x3 x4 x5_4 x6_7 (nI 0) (nI 0))))))))) ∧ (¬ (nI 6) ≤ x5 → (q_X9_has S (S.1 0 1) x5 (fun r_8 => ((r_8 = (nI 0) → (q_X9_share_68 a1 a2 S k (q_X9_share_33 a1 a2 S k n_) x4 x5 (nI 0) x3)) ∧ (¬ r_8 = (nI 0) → (vp_in (((nI 5) * x5) + (nI 2)) 30 ∧ (q_X9_share_68 a1 a2 S k (q_X9_share_33 a1 a2 S k n_) x4 x5 (S.1 2 (((nI 5) * x5) + (nI 2)).toNatClampNeg) x3)))))))) := rfl
set_option maxRecDepth 100000 in
set_option maxHeartbeats 4000000 in
theorem b_X9_share_33 {p : Program} {l : Launch} {e : Env} {s : State} {m : MethodId} {args : Array Value} {below : List Frame} {meth : Method} {c : Code} {Z : ZT} (hi : injZ 10 Z) (C : Cxt (gM Z) p s m meth c args yX9_share cX9_share 10 (Option.some .int)) {a1 : Int32} {a2 : Int32} {S : St} {k : Int32 → Prop}   : ∀ (n_ : Nat) (x3 : Int32) (x4 : Int32) (x5 : Int32) (H : Heap) (locs : List Loc) (ls : Array Slot), va_P Z.1 vwCl (wl shM 10 Z S) H → va_S (aa 10 Z) s.heap H locs → lv_has ls 10 [(0, .ref (Z.2.2.1 0)), (1, .int a1), (2, .int a2), (3, .int x3), (4, .int x4), (5, .int x5)] → q_X9_share_33 a1 a2 S k n_ x3 x4 x5 → W p l e (rmk 2 43) s m args below meth c H locs 0 0 (Qi below shM 10 Z args s (fun r S' => S' = S ∧ k r)) (F0 m 33 ls []) := by
  have g := gokM hi
  have hx := C.1.1
  have hb := C.1.2.1
  intro n_
  induction n_ with
  | zero => intro x3 x4 x5 H locs ls hP hS hl h; exact h.elim
  | succ n_ ih =>
    intro x3 x4 x5 H locs ls hP hS hl h
    rw [q_X9_share_33_s] at h
    refine lv_iload hx hb dX9_share_33 (lv_at hl 5 rfl) ?_
    refine lv_bipush (v := (nI 6)) hx hb dX9_share_35 (by decide) ?_
    refine lv_icmp_ge (tgt := 76) hx hb dX9_share_37 (by decide) (fun c_1 => ?_) (fun c_1 => ?_)
    · have h := h.1 c_1
      refine lv_iload_n hx hb dX9_share_76 rfl (lv_at hl 1 rfl) ?_
      refine lv_aload_n hx hb dX9_share_77 rfl (lv_at hl 0 rfl) ?_
      refine s_gR g C hP 0 2 2 (by decide) rfl rfl cfX9 (by decide) kFL_X9_13 dX9_share_78 ?_
      refine lv_iconst (v := (nI 5)) hx hb dX9_share_81 (by decide) ?_
      refine lv_iload_n hx hb dX9_share_82 rfl (lv_at hl 2 rfl) ?_
      refine lv_imul hx hb dX9_share_83 ?_
      refine lv_iconst (v := (nI 2)) hx hb dX9_share_84 (by decide) ?_
      refine lv_iadd hx hb dX9_share_85 ?_
      have hv_2 := h.1
      have h := h.2
      refine s_aI g C hP 2 (by decide) rfl hv_2 dX9_share_86 ?_
      refine lv_imul hx hb dX9_share_87 ?_
      refine lv_iload_n hx hb dX9_share_88 rfl (lv_at hl 3 rfl) ?_
      have hn_3 := h.1
      have h := h.2
      refine lv_idiv hx hb dX9_share_89 hn_3 ?_
      refine lv_topi (fun x5_4 ex5_4 => ?_)
      have h := h x5_4 ex5_4
      refine lv_istore (lv' := [(5, .int x5_4), (0, .ref (Z.2.2.1 0)), (1, .int a1), (2, .int a2), (3, .int x3), (4, .int x4)]) hx hb dX9_share_90 hl (by decide) rfl (fun ls hl => ?_)
      refine lv_iload_n hx hb dX9_share_92 rfl (lv_at hl 2 rfl) ?_
      refine lv_aload_n hx hb dX9_share_93 rfl (lv_at hl 1 rfl) ?_
      refine s_gR g C hP 0 2 2 (by decide) rfl rfl cfX9 (by decide) kFL_X9_13 dX9_share_94 ?_
      refine lv_iconst (v := (nI 5)) hx hb dX9_share_97 (by decide) ?_
      refine lv_iload_n hx hb dX9_share_98 rfl (lv_at hl 3 rfl) ?_
      refine lv_imul hx hb dX9_share_99 ?_
      refine lv_iconst (v := (nI 2)) hx hb dX9_share_100 (by decide) ?_
      refine lv_iadd hx hb dX9_share_101 ?_
      have hv_5 := h.1
      have h := h.2
      refine s_aI g C hP 2 (by decide) rfl hv_5 dX9_share_102 ?_
      refine lv_imul hx hb dX9_share_103 ?_
      refine lv_iload_n hx hb dX9_share_104 rfl (lv_at hl 4 rfl) ?_
      have hn_6 := h.1
      have h := h.2
      refine lv_irem hx hb dX9_share_105 hn_6 ?_
      refine lv_topi (fun x6_7 ex6_7 => ?_)
      have h := h x6_7 ex6_7
      refine lv_istore (lv' := [(6, .int x6_7), (5, .int x5_4), (0, .ref (Z.2.2.1 0)), (1, .int a1), (2, .int a2), (3, .int x3), (4, .int x4)]) hx hb dX9_share_106 hl (by decide) rfl (fun ls hl => ?_)
      refine lv_iconst (v := (nI 0)) hx hb dX9_share_108 (by decide) ?_
      refine lv_istore (lv' := [(7, .int (nI 0)), (6, .int x6_7), (5, .int x5_4), (0, .ref (Z.2.2.1 0)), (1, .int a1), (2, .int a2), (3, .int x3), (4, .int x4)]) hx hb dX9_share_109 hl (by decide) rfl (fun ls hl => ?_)
      refine lv_iconst (v := (nI 0)) hx hb dX9_share_111 (by decide) ?_
      refine lv_istore (lv' := [(8, .int (nI 0)), (7, .int (nI 0)), (6, .int x6_7), (5, .int x5_4), (0, .ref (Z.2.2.1 0)), (1, .int a1), (2, .int a2), (3, .int x3), (4, .int x4)]) hx hb dX9_share_112 hl (by decide) rfl (fun ls hl => ?_)
      obtain ⟨f_114, h⟩ := h
      exact b_X9_share_114 hi C  f_114 _ _ _ _ _ _ _ _ _ hP hS (lv_sub hl [4, 5, 6, 7, 8, 3, 2, 1, 0] rfl) h
    · have h := h.2 c_1
      refine lv_iload_n hx hb dX9_share_40 rfl (lv_at hl 3 rfl) ?_
      refine lv_aload_n hx hb dX9_share_41 rfl (lv_at hl 0 rfl) ?_
      refine s_gI g C hP 0 1 (by decide) rfl rfl cfX9 (by decide) kFL_X9_49 dX9_share_42 ?_
      refine lv_iload hx hb dX9_share_45 (lv_at hl 5 rfl) ?_
      refine go_ip (run_S g C hP hS (As := [.int (S.1 0 1), .int x5]) (rest := [.int x3]) (c_X9_has hi S (S.1 0 1) x5 _ h) cal_X9_has kML_X9_52 ⟨rfl, rfl, Nat.le_of_ble_eq_true rfl, Nat.le_of_ble_eq_true rfl⟩ rfl rfl hl.1 (Nat.le_of_ble_eq_true rfl) dX9_share_47) hS (fun r_8 H locs h hP hS => ?_)
      obtain ⟨hbr_8, h⟩ := h
      refine lv_if_eq (tgt := 67) hx hb dX9_share_50 (by decide) (fun c_9 => ?_) (fun c_9 => ?_)
      · have h := h.1 c_9
        refine lv_iconst (v := (nI 0)) hx hb dX9_share_67 (by decide) ?_
        exact b_X9_share_68 hi C ih _ _ _ _ _ _ _ hP hS (lv_sub hl [0, 1, 2, 4, 5] rfl) h
      · have h := h.2 c_9
        refine lv_aload_n hx hb dX9_share_53 rfl (lv_at hl 0 rfl) ?_
        refine s_gR g C hP 0 2 2 (by decide) rfl rfl cfX9 (by decide) kFL_X9_13 dX9_share_54 ?_
        refine lv_iconst (v := (nI 5)) hx hb dX9_share_57 (by decide) ?_
        refine lv_iload hx hb dX9_share_58 (lv_at hl 5 rfl) ?_
        refine lv_imul hx hb dX9_share_60 ?_
        refine lv_iconst (v := (nI 2)) hx hb dX9_share_61 (by decide) ?_
        refine lv_iadd hx hb dX9_share_62 ?_
        have hv_10 := h.1
        have h := h.2
        refine s_aI g C hP 2 (by decide) rfl hv_10 dX9_share_63 ?_
        refine lv_goto (tgt := 68) hx hb dX9_share_64 (by decide) ?_
        exact b_X9_share_68 hi C ih _ _ _ _ _ _ _ hP hS (lv_sub hl [0, 1, 2, 4, 5] rfl) h
def q_X9_share (S : St) (a1 : Int32) (a2 : Int32) (k : Int32 → Prop) : Prop := q_X9_isKite S a2 (fun r_1 => ((r_1 = (nI 0) → (k (-2 : Int32))) ∧ (¬ r_1 = (nI 0) → (q_X9_in S a1 (nI 0) (nI 999) (fun r_3 => ((r_3 = (nI 0) → (k (-3 : Int32))) ∧ (¬ r_3 = (nI 0) → (∃ f_33, q_X9_share_33 a1 a2 S k f_33 (nI 0) (nI 0) (nI 0)))))))))
set_option maxRecDepth 100000 in
set_option maxHeartbeats 4000000 in
theorem c_X9_share {l : Launch} {Z : ZT} (hi : injZ 10 Z) (S : St) (a1 : Int32) (a2 : Int32) (k : Int32 → Prop) (h : q_X9_share S a1 a2 k) : Mi l shM 10 Z (gM Z) yX9_share cX9_share 10 (Option.some .int) (rmk 2 43) [.ref (Z.2.2.1 0), .int a1, .int a2] S (fun r S' => S' = S ∧ k r) := by
  have g := gokM hi
  refine e_i (by decide) (Nat.le_of_ble_eq_true rfl) (lv := [(0, .ref (Z.2.2.1 0)), (1, .int a1), (2, .int a2)]) rfl (fun p e s m args below meth c C hP hS ls hl => ?_)
  have hx := C.1.1
  have hb := C.1.2.1
  unfold q_X9_share at h
  refine lv_aload_n hx hb dX9_share_0 rfl (lv_at hl 0 rfl) ?_
  refine lv_iload_n hx hb dX9_share_1 rfl (lv_at hl 2 rfl) ?_
  refine go_ip (run_V g C hP hS (c0 := 0) (As := [.int a2]) (rest := []) (c_X9_isKite hi S a2 _ h) cal_X9_isKite kML_X9_171 (by decide) rfl cfX9 ⟨rfl, rfl, Nat.le_of_ble_eq_true rfl, Nat.le_of_ble_eq_true rfl⟩ rfl rfl hl.1 (Nat.le_of_ble_eq_true rfl) dX9_share_2) hS (fun r_1 H locs h hP hS => ?_)
  obtain ⟨hbr_1, h⟩ := h
  refine lv_if_ne (tgt := 11) hx hb dX9_share_5 (by decide) (fun c_2 => ?_) (fun c_2 => ?_)
  · have h := h.2 c_2
    refine lv_iload_n hx hb dX9_share_11 rfl (lv_at hl 1 rfl) ?_
    refine lv_iconst (v := (nI 0)) hx hb dX9_share_12 (by decide) ?_
    refine lv_sipush (v := (nI 999)) hx hb dX9_share_13 (by decide) ?_
    refine go_ip (run_S g C hP hS (As := [.int a1, .int (nI 0), .int (nI 999)]) (rest := []) (c_X9_in hi S a1 (nI 0) (nI 999) _ h) cal_X9_in kML_X9_45 ⟨rfl, rfl, Nat.le_of_ble_eq_true rfl, Nat.le_of_ble_eq_true rfl⟩ rfl rfl hl.1 (Nat.le_of_ble_eq_true rfl) dX9_share_16) hS (fun r_3 H locs h hP hS => ?_)
    obtain ⟨hbr_3, h⟩ := h
    refine lv_if_ne (tgt := 25) hx hb dX9_share_19 (by decide) (fun c_4 => ?_) (fun c_4 => ?_)
    · have h := h.2 c_4
      refine lv_iconst (v := (nI 0)) hx hb dX9_share_25 (by decide) ?_
      refine lv_istore_n (lv' := [(3, .int (nI 0)), (0, .ref (Z.2.2.1 0)), (1, .int a1), (2, .int a2)]) hx hb dX9_share_26 rfl hl (by decide) rfl (fun ls hl => ?_)
      refine lv_iconst (v := (nI 0)) hx hb dX9_share_27 (by decide) ?_
      refine lv_istore (lv' := [(4, .int (nI 0)), (3, .int (nI 0)), (0, .ref (Z.2.2.1 0)), (1, .int a1), (2, .int a2)]) hx hb dX9_share_28 hl (by decide) rfl (fun ls hl => ?_)
      refine lv_iconst (v := (nI 0)) hx hb dX9_share_30 (by decide) ?_
      refine lv_istore (lv' := [(5, .int (nI 0)), (4, .int (nI 0)), (3, .int (nI 0)), (0, .ref (Z.2.2.1 0)), (1, .int a1), (2, .int a2)]) hx hb dX9_share_31 hl (by decide) rfl (fun ls hl => ?_)
      obtain ⟨f_33, h⟩ := h
      exact b_X9_share_33 hi C  f_33 _ _ _ _ _ _ hP hS (lv_sub hl [3, 4, 5, 2, 1, 0] rfl) h
    · have h := h.1 c_4
      refine lv_bipush (v := (-3 : Int32)) hx hb dX9_share_22 (by decide) ?_
      exact s_ri C hP hS ⟨rfl, h⟩ dX9_share_24
  · have h := h.1 c_2
    refine lv_bipush (v := (-2 : Int32)) hx hb dX9_share_8 (by decide) ?_
    exact s_ri C hP hS ⟨rfl, h⟩ dX9_share_10
def q_X9_count (S : St) (a1 : Int32) (k : Int32 → Prop) : Prop := ∀ sw_1 : Int32, sw_1 = a1 → ((sw_1 = (nI 0) → (k (S.1 0 1))) ∧ (¬ sw_1 = (nI 0) → ((sw_1 = (nI 1) → (k (S.1 0 3))) ∧ (¬ sw_1 = (nI 1) → ((sw_1 = (nI 2) → (k (S.1 0 5))) ∧ (¬ sw_1 = (nI 2) → ((sw_1 = (nI 3) → (k (S.1 0 6))) ∧ (¬ sw_1 = (nI 3) → ((sw_1 = (nI 4) → (k (S.1 0 7))) ∧ (¬ sw_1 = (nI 4) → ((sw_1 = (nI 5) → (k (S.1 0 8))) ∧ (¬ sw_1 = (nI 5) → ((sw_1 = (nI 6) → (k (S.1 6 (nI 0).toNatClampNeg))) ∧ (¬ sw_1 = (nI 6) → ((sw_1 = (nI 7) → (k (S.1 6 (nI 44).toNatClampNeg))) ∧ (¬ sw_1 = (nI 7) → ((sw_1 = (nI 8) → (q_X9_caught S (fun r_11 => (k r_11)))) ∧ (¬ sw_1 = (nI 8) → ((sw_1 = (nI 9) → (k (S.1 6 (nI 43).toNatClampNeg))) ∧ (¬ sw_1 = (nI 9) → ((sw_1 = (nI 10) → (k (S.1 0 9))) ∧ (¬ sw_1 = (nI 10) → (k (-3 : Int32))))))))))))))))))))))))
set_option maxRecDepth 100000 in
set_option maxHeartbeats 4000000 in
theorem c_X9_count {l : Launch} {Z : ZT} (hi : injZ 10 Z) (S : St) (a1 : Int32) (k : Int32 → Prop) (h : q_X9_count S a1 k) : Mi l shM 10 Z (gM Z) yX9_count cX9_count 2 (Option.some .int) (rmk 1 22) [.ref (Z.2.2.1 0), .int a1] S (fun r S' => S' = S ∧ k r) := by
  have g := gokM hi
  refine e_i (by decide) (Nat.le_of_ble_eq_true rfl) (lv := [(0, .ref (Z.2.2.1 0)), (1, .int a1)]) rfl (fun p e s m args below meth c C hP hS ls hl => ?_)
  have hx := C.1.1
  have hb := C.1.2.1
  unfold q_X9_count at h
  refine lv_iload_n hx hb dX9_count_0 rfl (lv_at hl 1 rfl) ?_
  refine lv_topi (fun sw_1 esw_1 => ?_)
  have h := h sw_1 esw_1
  by_cases c_2 : sw_1 = (nI 0)
  · have h := h.1 c_2
    rw [c_2]
    refine lv_tableIn (tgt := 60) hx hb dX9_count_1 (by decide) (by decide) rfl (by decide) ?_
    refine lv_aload_n hx hb dX9_count_60 rfl (lv_at hl 0 rfl) ?_
    refine s_gI g C hP 0 1 (by decide) rfl rfl cfX9 (by decide) kFL_X9_49 dX9_count_61 ?_
    exact s_ri C hP hS ⟨rfl, h⟩ dX9_count_64
  · have h := h.2 c_2
    by_cases c_3 : sw_1 = (nI 1)
    · have h := h.1 c_3
      rw [c_3]
      refine lv_tableIn (tgt := 65) hx hb dX9_count_1 (by decide) (by decide) rfl (by decide) ?_
      refine lv_aload_n hx hb dX9_count_65 rfl (lv_at hl 0 rfl) ?_
      refine s_gI g C hP 0 3 (by decide) rfl rfl cfX9 (by decide) kFL_X9_149 dX9_count_66 ?_
      exact s_ri C hP hS ⟨rfl, h⟩ dX9_count_69
    · have h := h.2 c_3
      by_cases c_4 : sw_1 = (nI 2)
      · have h := h.1 c_4
        rw [c_4]
        refine lv_tableIn (tgt := 70) hx hb dX9_count_1 (by decide) (by decide) rfl (by decide) ?_
        refine lv_aload_n hx hb dX9_count_70 rfl (lv_at hl 0 rfl) ?_
        refine s_gI g C hP 0 5 (by decide) rfl rfl cfX9 (by decide) kFL_X9_152 dX9_count_71 ?_
        exact s_ri C hP hS ⟨rfl, h⟩ dX9_count_74
      · have h := h.2 c_4
        by_cases c_5 : sw_1 = (nI 3)
        · have h := h.1 c_5
          rw [c_5]
          refine lv_tableIn (tgt := 75) hx hb dX9_count_1 (by decide) (by decide) rfl (by decide) ?_
          refine lv_aload_n hx hb dX9_count_75 rfl (lv_at hl 0 rfl) ?_
          refine s_gI g C hP 0 6 (by decide) rfl rfl cfX9 (by decide) kFL_X9_19 dX9_count_76 ?_
          exact s_ri C hP hS ⟨rfl, h⟩ dX9_count_79
        · have h := h.2 c_5
          by_cases c_6 : sw_1 = (nI 4)
          · have h := h.1 c_6
            rw [c_6]
            refine lv_tableIn (tgt := 80) hx hb dX9_count_1 (by decide) (by decide) rfl (by decide) ?_
            refine lv_aload_n hx hb dX9_count_80 rfl (lv_at hl 0 rfl) ?_
            refine s_gI g C hP 0 7 (by decide) rfl rfl cfX9 (by decide) kFL_X9_143 dX9_count_81 ?_
            exact s_ri C hP hS ⟨rfl, h⟩ dX9_count_84
          · have h := h.2 c_6
            by_cases c_7 : sw_1 = (nI 5)
            · have h := h.1 c_7
              rw [c_7]
              refine lv_tableIn (tgt := 85) hx hb dX9_count_1 (by decide) (by decide) rfl (by decide) ?_
              refine lv_aload_n hx hb dX9_count_85 rfl (lv_at hl 0 rfl) ?_
              refine s_gI g C hP 0 8 (by decide) rfl rfl cfX9 (by decide) kFL_X9_146 dX9_count_86 ?_
              exact s_ri C hP hS ⟨rfl, h⟩ dX9_count_89
            · have h := h.2 c_7
              by_cases c_8 : sw_1 = (nI 6)
              · have h := h.1 c_8
                rw [c_8]
                refine lv_tableIn (tgt := 90) hx hb dX9_count_1 (by decide) (by decide) rfl (by decide) ?_
                refine lv_aload_n hx hb dX9_count_90 rfl (lv_at hl 0 rfl) ?_
                refine s_gR g C hP 0 19 6 (by decide) rfl rfl cfX9 (by decide) kFL_X9_29 dX9_count_91 ?_
                refine lv_iconst (v := (nI 0)) hx hb dX9_count_94 (by decide) ?_
                refine s_aI g C hP 6 (by decide) rfl (vinL (by decide +kernel)) dX9_count_95 ?_
                exact s_ri C hP hS ⟨rfl, h⟩ dX9_count_96
              · have h := h.2 c_8
                by_cases c_9 : sw_1 = (nI 7)
                · have h := h.1 c_9
                  rw [c_9]
                  refine lv_tableIn (tgt := 97) hx hb dX9_count_1 (by decide) (by decide) rfl (by decide) ?_
                  refine lv_aload_n hx hb dX9_count_97 rfl (lv_at hl 0 rfl) ?_
                  refine s_gR g C hP 0 19 6 (by decide) rfl rfl cfX9 (by decide) kFL_X9_29 dX9_count_98 ?_
                  refine lv_bipush (v := (nI 44)) hx hb dX9_count_101 (by decide) ?_
                  refine s_aI g C hP 6 (by decide) rfl (vinL (by decide +kernel)) dX9_count_103 ?_
                  exact s_ri C hP hS ⟨rfl, h⟩ dX9_count_104
                · have h := h.2 c_9
                  by_cases c_10 : sw_1 = (nI 8)
                  · have h := h.1 c_10
                    rw [c_10]
                    refine lv_tableIn (tgt := 105) hx hb dX9_count_1 (by decide) (by decide) rfl (by decide) ?_
                    refine lv_aload_n hx hb dX9_count_105 rfl (lv_at hl 0 rfl) ?_
                    refine go_ip (run_V g C hP hS (c0 := 0) (As := []) (rest := []) (c_X9_caught hi S _ h) cal_X9_caught kML_X9_222 (by decide) rfl cfX9 ⟨rfl, rfl, Nat.le_of_ble_eq_true rfl, Nat.le_of_ble_eq_true rfl⟩ rfl rfl hl.1 (Nat.le_of_ble_eq_true rfl) dX9_count_106) hS (fun r_11 H locs h hP hS => ?_)
                    exact s_ri C hP hS ⟨rfl, h⟩ dX9_count_109
                  · have h := h.2 c_10
                    by_cases c_12 : sw_1 = (nI 9)
                    · have h := h.1 c_12
                      rw [c_12]
                      refine lv_tableIn (tgt := 110) hx hb dX9_count_1 (by decide) (by decide) rfl (by decide) ?_
                      refine lv_aload_n hx hb dX9_count_110 rfl (lv_at hl 0 rfl) ?_
                      refine s_gR g C hP 0 19 6 (by decide) rfl rfl cfX9 (by decide) kFL_X9_29 dX9_count_111 ?_
                      refine lv_bipush (v := (nI 43)) hx hb dX9_count_114 (by decide) ?_
                      refine s_aI g C hP 6 (by decide) rfl (vinL (by decide +kernel)) dX9_count_116 ?_
                      exact s_ri C hP hS ⟨rfl, h⟩ dX9_count_117
                    · have h := h.2 c_12
                      by_cases c_13 : sw_1 = (nI 10)
                      · have h := h.1 c_13
                        rw [c_13]
                        refine lv_tableIn (tgt := 118) hx hb dX9_count_1 (by decide) (by decide) rfl (by decide) ?_
                        refine lv_aload_n hx hb dX9_count_118 rfl (lv_at hl 0 rfl) ?_
                        refine s_gI g C hP 0 9 (by decide) rfl rfl cfX9 (by decide) kFL_X9_56 dX9_count_119 ?_
                        exact s_ri C hP hS ⟨rfl, h⟩ dX9_count_122
                      · have h := h.2 c_13
                        have c_2_ := tIne c_2 (z := 0) (by decide)
                        have c_3_ := tIne c_3 (z := 1) (by decide)
                        have c_4_ := tIne c_4 (z := 2) (by decide)
                        have c_5_ := tIne c_5 (z := 3) (by decide)
                        have c_6_ := tIne c_6 (z := 4) (by decide)
                        have c_7_ := tIne c_7 (z := 5) (by decide)
                        have c_8_ := tIne c_8 (z := 6) (by decide)
                        have c_9_ := tIne c_9 (z := 7) (by decide)
                        have c_10_ := tIne c_10 (z := 8) (by decide)
                        have c_12_ := tIne c_12 (z := 9) (by decide)
                        have c_13_ := tIne c_13 (z := 10) (by decide)
                        refine lv_tableOut (tgt := 123) hx hb dX9_count_1 (by omega) (by decide) ?_
                        refine lv_bipush (v := (-3 : Int32)) hx hb dX9_count_123 (by decide) ?_
                        exact s_ri C hP hS ⟨rfl, h⟩ dX9_count_125
