def q_J1_charAt_3b067 (u1 : Nat) (S : St) (a2 : Int32) (k : Int32 → Prop) : Prop := q_J0_checkIndex_df160 S a2 (nI (txL.getD u1 0)) (vp_in a2 (txL.getD u1 0) ∧ (k ((((txB.getD u1 []).getD a2.toNatClampNeg 0) &&& (nI 255)).toUInt32 % 65536).toInt32))
set_option maxRecDepth 100000 in
set_option maxHeartbeats 4000000 in
theorem c_J1_charAt_3b067 {l : Launch} {Z : ZT} (hi : injZ 68 Z) (u1 : Nat) (hu1 : u1 < 9) (S : St) (a2 : Int32) (k : Int32 → Prop) (h : q_J1_charAt_3b067 u1 S a2 k) : Mi l shX 68 Z (gX Z) yJ1_charAt_3b067 cJ1_charAt_3b067 2 (Option.some .char) (rmk 2 43) [.ref (Z.2.2.2 (20 + u1)), .int a2] S (fun r S' => S' = S ∧ narrow .char (.int r) = .int r ∧ k r) := by
  have g := gokX hi
  refine e_i (by decide) (Nat.le_of_ble_eq_true rfl) (lv := [(0, .ref (Z.2.2.2 (20 + u1))), (1, .int a2)]) rfl (fun p e s m args below meth c C hP hS ls hl => ?_)
  have hx := C.1.1
  have hb := C.1.2.1
  unfold q_J1_charAt_3b067 at h
  refine lv_iload_n hx hb dJ1_charAt_3b067_0 rfl (lv_at hl 1 rfl) ?_
  refine lv_aload_n hx hb dJ1_charAt_3b067_1 rfl (lv_at hl 0 rfl) ?_
  refine s_sl C hS hu1 dJ1_charAt_3b067_2 ?_
  refine go_vp (run_S g C hP hS (As := [.int a2, .int (nI (txL.getD u1 0))]) (rest := []) (c_J0_checkIndex_df160 hi S a2 (nI (txL.getD u1 0)) _ h) cal_J0_checkIndex_df160 kML_J1_9 ⟨rfl, rfl, Nat.le_of_ble_eq_true rfl, Nat.le_of_ble_eq_true rfl⟩ rfl rfl hl.1 (Nat.le_of_ble_eq_true rfl) dJ1_charAt_3b067_3) hS (fun H locs h hP hS => ?_)
  refine lv_aload_n hx hb dJ1_charAt_3b067_6 rfl (lv_at hl 0 rfl) ?_
  refine lv_iload_n hx hb dJ1_charAt_3b067_7 rfl (lv_at hl 1 rfl) ?_
  have hv_1 := h.1
  have h := h.2
  refine s_sb C hS hu1 hv_1 dJ1_charAt_3b067_8 ?_
  refine lv_sipush (v := (nI 255)) hx hb dJ1_charAt_3b067_9 (by decide) ?_
  refine lv_iand hx hb dJ1_charAt_3b067_12 ?_
  refine lv_i2c hx hb dJ1_charAt_3b067_13 rfl ?_
  exact s_rc C hP hS (pk_nc _) ⟨rfl, ⟨(pk_nc _), h⟩⟩ dJ1_charAt_3b067_14
def q_J0_charAt_5068e (u : Nat) (S : St) (a1 : Int32) (k : Int32 → Prop) : Prop := q_J0_isLatin1_aae02 u S (fun r_1 => ((r_1 = (nI 0) → (False)) ∧ (¬ r_1 = (nI 0) → (q_J1_charAt_3b067 u S a1 (fun r_3 => (k r_3))))))
set_option maxRecDepth 100000 in
set_option maxHeartbeats 4000000 in
theorem c_J0_charAt_5068e {l : Launch} {Z : ZT} (hi : injZ 68 Z) (u : Nat) (hu : u < 9) (S : St) (a1 : Int32) (k : Int32 → Prop) (h : q_J0_charAt_5068e u S a1 k) : Mi l shX 68 Z (gX Z) yJ0_charAt_5068e cJ0_charAt_5068e 2 (Option.some .char) (rmk 3 64) [.ref (Z.2.2.2 (10 + u)), .int a1] S (fun r S' => S' = S ∧ narrow .char (.int r) = .int r ∧ k r) := by
  have g := gokX hi
  refine e_i (by decide) (Nat.le_of_ble_eq_true rfl) (lv := [(0, .ref (Z.2.2.2 (10 + u))), (1, .int a1)]) rfl (fun p e s m args below meth c C hP hS ls hl => ?_)
  have hx := C.1.1
  have hb := C.1.2.1
  unfold q_J0_charAt_5068e at h
  refine lv_aload_n hx hb dJ0_charAt_5068e_0 rfl (lv_at hl 0 rfl) ?_
  refine go_ip (run_VS hi C hP hS (i := u) (As := []) (rest := []) (c_J0_isLatin1_aae02 hi u hu S _ h) cal_J0_isLatin1_aae02 kML_J0_492 hu rfl ⟨rfl, rfl, Nat.le_of_ble_eq_true rfl, Nat.le_of_ble_eq_true rfl⟩ rfl rfl hl.1 (Nat.le_of_ble_eq_true rfl) dJ0_charAt_5068e_1) hS (fun r_1 H locs h hP hS => ?_)
  obtain ⟨hbr_1, h⟩ := h
  refine lv_if_eq (tgt := 16) hx hb dJ0_charAt_5068e_4 (by decide) (fun c_2 => ?_) (fun c_2 => ?_)
  · have h := h.1 c_2
    exact h.elim
  · have h := h.2 c_2
    refine lv_aload_n hx hb dJ0_charAt_5068e_7 rfl (lv_at hl 0 rfl) ?_
    refine s_sv C hS hu kFL_J0_9 dJ0_charAt_5068e_8 ?_
    refine lv_iload_n hx hb dJ0_charAt_5068e_11 rfl (lv_at hl 1 rfl) ?_
    refine go_ip (run_S g C hP hS (As := [.ref (Z.2.2.2 (20 + u)), .int a1]) (rest := []) (c_J1_charAt_3b067 hi u hu S a1 _ h) cal_J1_charAt_3b067 kML_J0_495 ⟨rfl, rfl, Nat.le_of_ble_eq_true rfl, Nat.le_of_ble_eq_true rfl⟩ rfl rfl hl.1 (Nat.le_of_ble_eq_true rfl) dJ0_charAt_5068e_12) hS (fun r_3 H locs h hP hS => ?_)
    obtain ⟨hbr_3, h⟩ := h
    exact s_rc C hP hS hbr_3 ⟨rfl, ⟨hbr_3, h⟩⟩ dJ0_charAt_5068e_15
def q_X7_hasRoom (S : St) (a1 : Int32) (k : Int32 → Prop) : Prop := ((nI 200) < ((S.1 1 2) + a1) → (k (nI 0))) ∧ (¬ (nI 200) < ((S.1 1 2) + a1) → (k (nI 1)))
set_option maxRecDepth 100000 in
set_option maxHeartbeats 4000000 in
theorem c_X7_hasRoom {l : Launch} {Z : ZT} (hi : injZ 68 Z) (S : St) (a1 : Int32) (k : Int32 → Prop) (h : q_X7_hasRoom S a1 k) : Mi l shX 68 Z (gX Z) yX7_hasRoom cX7_hasRoom 2 (Option.some .boolean) (rmk 0 0) [.ref (Z.2.2.1 1), .int a1] S (fun r S' => S' = S ∧ (r = 0 ∨ r = 1) ∧ k r) := by
  have g := gokX hi
  refine e_i (by decide) (Nat.le_of_ble_eq_true rfl) (lv := [(0, .ref (Z.2.2.1 1)), (1, .int a1)]) rfl (fun p e s m args below meth c C hP hS ls hl => ?_)
  have hx := C.1.1
  have hb := C.1.2.1
  unfold q_X7_hasRoom at h
  refine lv_aload_n hx hb dX7_hasRoom_0 rfl (lv_at hl 0 rfl) ?_
  refine s_gI g C hP 1 2 (by decide) rfl rfl cfX7 (by decide) kFL_X7_18 dX7_hasRoom_1 ?_
  refine lv_iload_n hx hb dX7_hasRoom_4 rfl (lv_at hl 1 rfl) ?_
  refine lv_iadd hx hb dX7_hasRoom_5 ?_
  refine lv_sipush (v := (nI 200)) hx hb dX7_hasRoom_6 (by decide) ?_
  refine lv_icmp_gt (tgt := 16) hx hb dX7_hasRoom_9 (by decide) (fun c_1 => ?_) (fun c_1 => ?_)
  · have h := h.1 c_1
    refine lv_iconst (v := (nI 0)) hx hb dX7_hasRoom_16 (by decide) ?_
    exact s_rz C hP hS (nar_b (Or.inl rfl)) ⟨rfl, ⟨(Or.inl rfl), h⟩⟩ dX7_hasRoom_17
  · have h := h.2 c_1
    refine lv_iconst (v := (nI 1)) hx hb dX7_hasRoom_12 (by decide) ?_
    refine lv_goto (tgt := 17) hx hb dX7_hasRoom_13 (by decide) ?_
    exact s_rz C hP hS (nar_b (Or.inr rfl)) ⟨rfl, ⟨(Or.inr rfl), h⟩⟩ dX7_hasRoom_17
def q_X7_append_3 (a1 : Int64) (a2 : Int32) (k : St → Prop) : Nat → St → Int32 → Prop := fun n_ => Nat.rec (motive := fun _ => St → Int32 → Prop) (fun _ _ => False) (fun _ ih => fun S x4 => (a2 ≤ x4 → (k S)) ∧ (¬ a2 ≤ x4 → (((nI 200) ≤ (S.1 1 2) → (k S)) ∧ (¬ (nI 200) ≤ (S.1 1 2) → (vp_in (S.1 1 2) 200 ∧ (∀ S_4 : St, S_4 = sI S 2 (S.1 1 2).toNatClampNeg (((a1 >>> (((nI 8) * x4).toInt64 &&& 63)) &&& (lN 255))).toInt32 → (∀ S_5 : St, S_5 = sI S_4 1 2 ((S_4.1 1 2) + (nI 1)) → (∀ x4_6 : Int32, x4_6 = x4 + (nI 1) → (ih S_5 x4_6))))))))) n_
theorem q_X7_append_3_s (a1 : Int64) (a2 : Int32) (k : St → Prop) (n_ : Nat) (S : St) (x4 : Int32) : q_X7_append_3 a1 a2 k (n_ + 1) S x4 = ((a2 ≤ x4 → (k S)) ∧ (¬ a2 ≤ x4 → (((nI 200) ≤ (S.1 1 2) → (k S)) ∧ (¬ (nI 200) ≤ (S.1 1 2) → (vp_in (S.1 1 2) 200 ∧ (∀ S_4 : St, S_4 = sI S 2 (S.1 1 2).toNatClampNeg (((a1 >>> (((nI 8) * x4).toInt64 &&& 63)) &&& (lN 255))).toInt32 → (∀ S_5 : St, S_5 = sI S_4 1 2 ((S_4.1 1 2) + (nI 1)) → (∀ x4_6 : Int32, x4_6 = x4 + (nI 1) → ((q_X7_append_3 a1 a2 k n_) S_5 x4_6))))))))) := rfl
set_option maxRecDepth 100000 in
set_option maxHeartbeats 4000000 in
theorem b_X7_append_3 {p : Program} {l : Launch} {e : Env} {s : State} {m : MethodId} {args : Array Value} {below : List Frame} {meth : Method} {c : Code} {Z : ZT} (hi : injZ 68 Z) (C : Cxt (gX Z) p s m meth c args yX7_append cX7_append 5 none) {a1 : Int64} {a2 : Int32} {k : St → Prop}   : ∀ (n_ : Nat) (S : St) (x4 : Int32) (H : Heap) (locs : List Loc) (ls : Array Slot), va_P Z.1 vwCl (wl shX 68 Z S) H → va_S (aa 68 Z) s.heap H locs → lv_has ls 5 [(0, .ref (Z.2.2.1 1)), (1, .long a1), (3, .int a2), (4, .int x4)] → q_X7_append_3 a1 a2 k n_ S x4 → W p l e (rmk 0 0) s m args below meth c H locs 0 0 (Qv below shX 68 Z args s k) (F0 m 3 ls []) := by
  have g := gokX hi
  have hx := C.1.1
  have hb := C.1.2.1
  intro n_
  induction n_ with
  | zero => intro S x4 H locs ls hP hS hl h; exact h.elim
  | succ n_ ih =>
    intro S x4 H locs ls hP hS hl h
    rw [q_X7_append_3_s] at h
    refine lv_iload hx hb dX7_append_3 (lv_at hl 3 rfl) ?_
    refine lv_iload_n hx hb dX7_append_5 rfl (lv_at hl 2 rfl) ?_
    refine lv_icmp_ge (tgt := 56) hx hb dX7_append_6 (by decide) (fun c_1 => ?_) (fun c_1 => ?_)
    · have h := h.1 c_1
      exact s_rv C hP hS h dX7_append_56
    · have h := h.2 c_1
      refine lv_aload_n hx hb dX7_append_9 rfl (lv_at hl 0 rfl) ?_
      refine s_gI g C hP 1 2 (by decide) rfl rfl cfX7 (by decide) kFL_X7_18 dX7_append_10 ?_
      refine lv_sipush (v := (nI 200)) hx hb dX7_append_13 (by decide) ?_
      refine lv_icmp_ge (tgt := 56) hx hb dX7_append_16 (by decide) (fun c_2 => ?_) (fun c_2 => ?_)
      · have h := h.1 c_2
        exact s_rv C hP hS h dX7_append_56
      · have h := h.2 c_2
        refine lv_aload_n hx hb dX7_append_19 rfl (lv_at hl 0 rfl) ?_
        refine s_gR g C hP 1 0 2 (by decide) rfl rfl cfX7 (by decide) kFL_X7_9 dX7_append_20 ?_
        refine lv_aload_n hx hb dX7_append_23 rfl (lv_at hl 0 rfl) ?_
        refine s_gI g C hP 1 2 (by decide) rfl rfl cfX7 (by decide) kFL_X7_18 dX7_append_24 ?_
        refine lv_lload_n hx hb dX7_append_27 rfl (lv_at hl 1 rfl) ?_
        refine lv_bipush (v := (nI 8)) hx hb dX7_append_28 (by decide) ?_
        refine lv_iload hx hb dX7_append_30 (lv_at hl 3 rfl) ?_
        refine lv_imul hx hb dX7_append_32 ?_
        refine lv_lshr hx hb dX7_append_33 rfl ?_
        refine lv_ldc2 (v := (lN 255)) hx hb C.1.2.2.2.1 (C.1.2.2.2.2 _ (List.mem_cons_of_mem _ kCO_X7_22)) dX7_append_34 ?_
        refine lv_land hx hb dX7_append_37 ?_
        refine lv_l2i hx hb dX7_append_38 rfl ?_
        have hv_3 := h.1
        have h := h.2
        refine s_stI g C hP hS 2 (by decide) rfl hv_3 dX7_append_39 (fun H locs hP hS => ?_)
        obtain ⟨S_4, eS_4⟩ : ∃ z_ : St, z_ = sI S 2 (S.1 1 2).toNatClampNeg (((a1 >>> (((nI 8) * x4).toInt64 &&& 63)) &&& (lN 255))).toInt32 := ⟨_, rfl⟩
        rw [← eS_4] at hP
        have h := h S_4 eS_4
        refine lv_aload_n hx hb dX7_append_40 rfl (lv_at hl 0 rfl) ?_
        refine lv_dup hx hb dX7_append_41 rfl ?_
        refine s_gI g C hP 1 2 (by decide) rfl rfl cfX7 (by decide) kFL_X7_18 dX7_append_42 ?_
        refine lv_iconst (v := (nI 1)) hx hb dX7_append_45 (by decide) ?_
        refine lv_iadd hx hb dX7_append_46 ?_
        refine s_pI g C hP hS 1 2 (by decide) rfl rfl cfX7 (by decide) rfl rfl rfl kFL_X7_18 dX7_append_47 (fun H locs hP hS => ?_)
        obtain ⟨S_5, eS_5⟩ : ∃ z_ : St, z_ = sI S_4 1 2 ((S_4.1 1 2) + (nI 1)) := ⟨_, rfl⟩
        rw [← eS_5] at hP
        have h := h S_5 eS_5
        obtain ⟨x4_6, ex4_6⟩ : ∃ y_ : Int32, y_ = x4 + (nI 1) := ⟨_, rfl⟩
        have h := h x4_6 ex4_6
        refine lv_iinc (v := x4_6) (lv' := [(4, .int x4_6), (0, .ref (Z.2.2.1 1)), (1, .long a1), (3, .int a2)]) hx hb dX7_append_50 hl (k := 3) rfl (by rw [ex4_6]; rfl) (by decide) rfl (fun ls hl => ?_)
        refine lv_goto (tgt := 3) hx hb dX7_append_53 (by decide) ?_
        exact ih _ _ _ _ _ hP hS (lv_sub hl [1, 2, 3, 0] rfl) h
def q_X7_append (S : St) (a1 : Int64) (a2 : Int32) (k : St → Prop) : Prop := ∃ f_3, q_X7_append_3 a1 a2 k f_3 S (nI 0)
set_option maxRecDepth 100000 in
set_option maxHeartbeats 4000000 in
theorem c_X7_append {l : Launch} {Z : ZT} (hi : injZ 68 Z) (S : St) (a1 : Int64) (a2 : Int32) (k : St → Prop) (h : q_X7_append S a1 a2 k) : Mv l shX 68 Z (gX Z) yX7_append cX7_append 5 none (rmk 0 0) [.ref (Z.2.2.1 1), .long a1, .int a2] S k := by
  have g := gokX hi
  refine e_v (by decide) (Nat.le_of_ble_eq_true rfl) (lv := [(0, .ref (Z.2.2.1 1)), (1, .long a1), (3, .int a2)]) rfl (fun p e s m args below meth c C hP hS ls hl => ?_)
  have hx := C.1.1
  have hb := C.1.2.1
  unfold q_X7_append at h
  refine lv_iconst (v := (nI 0)) hx hb dX7_append_0 (by decide) ?_
  refine lv_istore (lv' := [(4, .int (nI 0)), (0, .ref (Z.2.2.1 1)), (1, .long a1), (3, .int a2)]) hx hb dX7_append_1 hl (by decide) rfl (fun ls hl => ?_)
  obtain ⟨f_3, h⟩ := h
  exact b_X7_append_3 hi C  f_3 _ _ _ _ _ hP hS (lv_sub hl [1, 2, 3, 0] rfl) h
def q_X7_peek (S : St) (a1 : Int32) (k : Int32 → Prop) : Prop := (a1 < (nI 0) → (k (-1 : Int32))) ∧ (¬ a1 < (nI 0) → (((S.1 1 2) ≤ a1 → (k (-1 : Int32))) ∧ (¬ (S.1 1 2) ≤ a1 → (((nI 200) ≤ a1 → (k (-1 : Int32))) ∧ (¬ (nI 200) ≤ a1 → (vp_in a1 200 ∧ (k (S.1 2 a1.toNatClampNeg))))))))
set_option maxRecDepth 100000 in
set_option maxHeartbeats 4000000 in
theorem c_X7_peek {l : Launch} {Z : ZT} (hi : injZ 68 Z) (S : St) (a1 : Int32) (k : Int32 → Prop) (h : q_X7_peek S a1 k) : Mi l shX 68 Z (gX Z) yX7_peek cX7_peek 2 (Option.some .int) (rmk 0 0) [.ref (Z.2.2.1 1), .int a1] S (fun r S' => S' = S ∧ k r) := by
  have g := gokX hi
  refine e_i (by decide) (Nat.le_of_ble_eq_true rfl) (lv := [(0, .ref (Z.2.2.1 1)), (1, .int a1)]) rfl (fun p e s m args below meth c C hP hS ls hl => ?_)
  have hx := C.1.1
  have hb := C.1.2.1
  unfold q_X7_peek at h
  refine lv_iload_n hx hb dX7_peek_0 rfl (lv_at hl 1 rfl) ?_
  refine lv_if_lt (tgt := 28) hx hb dX7_peek_1 (by decide) (fun c_1 => ?_) (fun c_1 => ?_)
  · have h := h.1 c_1
    refine lv_iconst (v := (-1 : Int32)) hx hb dX7_peek_28 (by decide) ?_
    exact s_ri C hP hS ⟨rfl, h⟩ dX7_peek_29
  · have h := h.2 c_1
    refine lv_iload_n hx hb dX7_peek_4 rfl (lv_at hl 1 rfl) ?_
    refine lv_aload_n hx hb dX7_peek_5 rfl (lv_at hl 0 rfl) ?_
    refine s_gI g C hP 1 2 (by decide) rfl rfl cfX7 (by decide) kFL_X7_18 dX7_peek_6 ?_
    refine lv_icmp_ge (tgt := 28) hx hb dX7_peek_9 (by decide) (fun c_2 => ?_) (fun c_2 => ?_)
    · have h := h.1 c_2
      refine lv_iconst (v := (-1 : Int32)) hx hb dX7_peek_28 (by decide) ?_
      exact s_ri C hP hS ⟨rfl, h⟩ dX7_peek_29
    · have h := h.2 c_2
      refine lv_iload_n hx hb dX7_peek_12 rfl (lv_at hl 1 rfl) ?_
      refine lv_sipush (v := (nI 200)) hx hb dX7_peek_13 (by decide) ?_
      refine lv_icmp_ge (tgt := 28) hx hb dX7_peek_16 (by decide) (fun c_3 => ?_) (fun c_3 => ?_)
      · have h := h.1 c_3
        refine lv_iconst (v := (-1 : Int32)) hx hb dX7_peek_28 (by decide) ?_
        exact s_ri C hP hS ⟨rfl, h⟩ dX7_peek_29
      · have h := h.2 c_3
        refine lv_aload_n hx hb dX7_peek_19 rfl (lv_at hl 0 rfl) ?_
        refine s_gR g C hP 1 0 2 (by decide) rfl rfl cfX7 (by decide) kFL_X7_9 dX7_peek_20 ?_
        refine lv_iload_n hx hb dX7_peek_23 rfl (lv_at hl 1 rfl) ?_
        have hv_4 := h.1
        have h := h.2
        refine s_aI g C hP 2 (by decide) rfl hv_4 dX7_peek_24 ?_
        refine lv_goto (tgt := 29) hx hb dX7_peek_25 (by decide) ?_
        exact s_ri C hP hS ⟨rfl, h⟩ dX7_peek_29
def q_X7_skipBlanks_2 (k : St → Prop) : Nat → St → Int32 → Prop := fun n_ => Nat.rec (motive := fun _ => St → Int32 → Prop) (fun _ _ => False) (fun _ ih => fun S x1 => ((nI 200) ≤ x1 → (k S)) ∧ (¬ (nI 200) ≤ x1 → (q_X7_peek S (S.1 1 4) (fun r_2 => ((r_2 = (nI 32) → (∀ S_4 : St, S_4 = sI S 1 4 ((S.1 1 4) + (nI 1)) → (∀ x1_5 : Int32, x1_5 = x1 + (nI 1) → (ih S_4 x1_5)))) ∧ (¬ r_2 = (nI 32) → (k S))))))) n_
theorem q_X7_skipBlanks_2_s (k : St → Prop) (n_ : Nat) (S : St) (x1 : Int32) : q_X7_skipBlanks_2 k (n_ + 1) S x1 = (((nI 200) ≤ x1 → (k S)) ∧ (¬ (nI 200) ≤ x1 → (q_X7_peek S (S.1 1 4) (fun r_2 => ((r_2 = (nI 32) → (∀ S_4 : St, S_4 = sI S 1 4 ((S.1 1 4) + (nI 1)) → (∀ x1_5 : Int32, x1_5 = x1 + (nI 1) → ((q_X7_skipBlanks_2 k n_) S_4 x1_5)))) ∧ (¬ r_2 = (nI 32) → (k S))))))) := rfl
set_option maxRecDepth 100000 in
set_option maxHeartbeats 4000000 in
theorem b_X7_skipBlanks_2 {p : Program} {l : Launch} {e : Env} {s : State} {m : MethodId} {args : Array Value} {below : List Frame} {meth : Method} {c : Code} {Z : ZT} (hi : injZ 68 Z) (C : Cxt (gX Z) p s m meth c args yX7_skipBlanks cX7_skipBlanks 2 none) {k : St → Prop}   : ∀ (n_ : Nat) (S : St) (x1 : Int32) (H : Heap) (locs : List Loc) (ls : Array Slot), va_P Z.1 vwCl (wl shX 68 Z S) H → va_S (aa 68 Z) s.heap H locs → lv_has ls 2 [(0, .ref (Z.2.2.1 1)), (1, .int x1)] → q_X7_skipBlanks_2 k n_ S x1 → W p l e (rmk 1 21) s m args below meth c H locs 0 0 (Qv below shX 68 Z args s k) (F0 m 2 ls []) := by
  have g := gokX hi
  have hx := C.1.1
  have hb := C.1.2.1
  intro n_
  induction n_ with
  | zero => intro S x1 H locs ls hP hS hl h; exact h.elim
  | succ n_ ih =>
    intro S x1 H locs ls hP hS hl h
    rw [q_X7_skipBlanks_2_s] at h
    refine lv_iload_n hx hb dX7_skipBlanks_2 rfl (lv_at hl 1 rfl) ?_
    refine lv_sipush (v := (nI 200)) hx hb dX7_skipBlanks_3 (by decide) ?_
    refine lv_icmp_ge (tgt := 38) hx hb dX7_skipBlanks_6 (by decide) (fun c_1 => ?_) (fun c_1 => ?_)
    · have h := h.1 c_1
      exact s_rv C hP hS h dX7_skipBlanks_38
    · have h := h.2 c_1
      refine lv_aload_n hx hb dX7_skipBlanks_9 rfl (lv_at hl 0 rfl) ?_
      refine lv_aload_n hx hb dX7_skipBlanks_10 rfl (lv_at hl 0 rfl) ?_
      refine s_gI g C hP 1 4 (by decide) rfl rfl cfX7 (by decide) kFL_X7_24 dX7_skipBlanks_11 ?_
      refine go_ip (run_V g C hP hS (c0 := 1) (As := [.int (S.1 1 4)]) (rest := []) (c_X7_peek hi S (S.1 1 4) _ h) cal_X7_peek kML_X7_47 (by decide) rfl cfX7 ⟨rfl, rfl, Nat.le_of_ble_eq_true rfl, Nat.le_of_ble_eq_true rfl⟩ rfl rfl hl.1 (Nat.le_of_ble_eq_true rfl) dX7_skipBlanks_14) hS (fun r_2 H locs h hP hS => ?_)
      refine lv_bipush (v := (nI 32)) hx hb dX7_skipBlanks_17 (by decide) ?_
      refine lv_icmp_ne (tgt := 38) hx hb dX7_skipBlanks_19 (by decide) (fun c_3 => ?_) (fun c_3 => ?_)
      · have h := h.2 c_3
        exact s_rv C hP hS h dX7_skipBlanks_38
      · have h := h.1 c_3
        refine lv_aload_n hx hb dX7_skipBlanks_22 rfl (lv_at hl 0 rfl) ?_
        refine lv_dup hx hb dX7_skipBlanks_23 rfl ?_
        refine s_gI g C hP 1 4 (by decide) rfl rfl cfX7 (by decide) kFL_X7_24 dX7_skipBlanks_24 ?_
        refine lv_iconst (v := (nI 1)) hx hb dX7_skipBlanks_27 (by decide) ?_
        refine lv_iadd hx hb dX7_skipBlanks_28 ?_
        refine s_pI g C hP hS 1 4 (by decide) rfl rfl cfX7 (by decide) rfl rfl rfl kFL_X7_24 dX7_skipBlanks_29 (fun H locs hP hS => ?_)
        obtain ⟨S_4, eS_4⟩ : ∃ z_ : St, z_ = sI S 1 4 ((S.1 1 4) + (nI 1)) := ⟨_, rfl⟩
        rw [← eS_4] at hP
        have h := h S_4 eS_4
        obtain ⟨x1_5, ex1_5⟩ : ∃ y_ : Int32, y_ = x1 + (nI 1) := ⟨_, rfl⟩
        have h := h x1_5 ex1_5
        refine lv_iinc (v := x1_5) (lv' := [(1, .int x1_5), (0, .ref (Z.2.2.1 1))]) hx hb dX7_skipBlanks_32 hl (k := 1) rfl (by rw [ex1_5]; rfl) (by decide) rfl (fun ls hl => ?_)
        refine lv_goto (tgt := 2) hx hb dX7_skipBlanks_35 (by decide) ?_
        exact ih _ _ _ _ _ hP hS (lv_sub hl [1, 0] rfl) h
def q_X7_skipBlanks (S : St) (k : St → Prop) : Prop := ∃ f_2, q_X7_skipBlanks_2 k f_2 S (nI 0)
set_option maxRecDepth 100000 in
set_option maxHeartbeats 4000000 in
theorem c_X7_skipBlanks {l : Launch} {Z : ZT} (hi : injZ 68 Z) (S : St) (k : St → Prop) (h : q_X7_skipBlanks S k) : Mv l shX 68 Z (gX Z) yX7_skipBlanks cX7_skipBlanks 2 none (rmk 1 21) [.ref (Z.2.2.1 1)] S k := by
  have g := gokX hi
  refine e_v (by decide) (Nat.le_of_ble_eq_true rfl) (lv := [(0, .ref (Z.2.2.1 1))]) rfl (fun p e s m args below meth c C hP hS ls hl => ?_)
  have hx := C.1.1
  have hb := C.1.2.1
  unfold q_X7_skipBlanks at h
  refine lv_iconst (v := (nI 0)) hx hb dX7_skipBlanks_0 (by decide) ?_
  refine lv_istore_n (lv' := [(1, .int (nI 0)), (0, .ref (Z.2.2.1 1))]) hx hb dX7_skipBlanks_1 rfl hl (by decide) rfl (fun ls hl => ?_)
  obtain ⟨f_2, h⟩ := h
  exact b_X7_skipBlanks_2 hi C  f_2 _ _ _ _ _ hP hS (lv_sub hl [1, 0] rfl) h
def q_X7_isLetter (S : St) (a1 : Int32) (k : Int32 → Prop) : Prop := (a1 < (nI 97) → (k (nI 0))) ∧ (¬ a1 < (nI 97) → (((nI 122) < a1 → (k (nI 0))) ∧ (¬ (nI 122) < a1 → (k (nI 1)))))
set_option maxRecDepth 100000 in
set_option maxHeartbeats 4000000 in
theorem c_X7_isLetter {l : Launch} {Z : ZT} (hi : injZ 68 Z) (S : St) (a1 : Int32) (k : Int32 → Prop) (h : q_X7_isLetter S a1 k) : Mi l shX 68 Z (gX Z) yX7_isLetter cX7_isLetter 1 (Option.some .boolean) (rmk 0 0) [.int a1] S (fun r S' => S' = S ∧ (r = 0 ∨ r = 1) ∧ k r) := by
  have g := gokX hi
  refine e_i (by decide) (Nat.le_of_ble_eq_true rfl) (lv := [(0, .int a1)]) rfl (fun p e s m args below meth c C hP hS ls hl => ?_)
  have hx := C.1.1
  have hb := C.1.2.1
  unfold q_X7_isLetter at h
  refine lv_iload_n hx hb dX7_isLetter_0 rfl (lv_at hl 0 rfl) ?_
  refine lv_bipush (v := (nI 97)) hx hb dX7_isLetter_1 (by decide) ?_
  refine lv_icmp_lt (tgt := 16) hx hb dX7_isLetter_3 (by decide) (fun c_1 => ?_) (fun c_1 => ?_)
  · have h := h.1 c_1
    refine lv_iconst (v := (nI 0)) hx hb dX7_isLetter_16 (by decide) ?_
    exact s_rz C hP hS (nar_b (Or.inl rfl)) ⟨rfl, ⟨(Or.inl rfl), h⟩⟩ dX7_isLetter_17
  · have h := h.2 c_1
    refine lv_iload_n hx hb dX7_isLetter_6 rfl (lv_at hl 0 rfl) ?_
    refine lv_bipush (v := (nI 122)) hx hb dX7_isLetter_7 (by decide) ?_
    refine lv_icmp_gt (tgt := 16) hx hb dX7_isLetter_9 (by decide) (fun c_2 => ?_) (fun c_2 => ?_)
    · have h := h.1 c_2
      refine lv_iconst (v := (nI 0)) hx hb dX7_isLetter_16 (by decide) ?_
      exact s_rz C hP hS (nar_b (Or.inl rfl)) ⟨rfl, ⟨(Or.inl rfl), h⟩⟩ dX7_isLetter_17
    · have h := h.2 c_2
      refine lv_iconst (v := (nI 1)) hx hb dX7_isLetter_12 (by decide) ?_
      refine lv_goto (tgt := 17) hx hb dX7_isLetter_13 (by decide) ?_
      exact s_rz C hP hS (nar_b (Or.inr rfl)) ⟨rfl, ⟨(Or.inr rfl), h⟩⟩ dX7_isLetter_17
def q_X7_nameOf (S : St) (a1 : Int32) (k : Nat → Prop) : Prop := ∀ sw_1 : Int32, sw_1 = a1 → ((sw_1 = (nI 0) → (k 0)) ∧ (¬ sw_1 = (nI 0) → ((sw_1 = (nI 1) → (k 1)) ∧ (¬ sw_1 = (nI 1) → ((sw_1 = (nI 2) → (k 2)) ∧ (¬ sw_1 = (nI 2) → ((sw_1 = (nI 3) → (k 3)) ∧ (¬ sw_1 = (nI 3) → ((sw_1 = (nI 4) → (k 4)) ∧ (¬ sw_1 = (nI 4) → ((sw_1 = (nI 5) → (k 5)) ∧ (¬ sw_1 = (nI 5) → ((sw_1 = (nI 6) → (k 6)) ∧ (¬ sw_1 = (nI 6) → ((sw_1 = (nI 7) → (k 7)) ∧ (¬ sw_1 = (nI 7) → (k 8)))))))))))))))))
set_option maxRecDepth 100000 in
set_option maxHeartbeats 4000000 in
theorem c_X7_nameOf {l : Launch} {Z : ZT} (hi : injZ 68 Z) (S : St) (a1 : Int32) (k : Nat → Prop) (h : q_X7_nameOf S a1 k) : Mr l Z yX7_nameOf cX7_nameOf 1 (Option.some (.object "java/lang/String")) (rmk 0 0) [.int a1] S k := by
  have g := gokX hi
  refine e_r (by decide) (Nat.le_of_ble_eq_true rfl) (lv := [(0, .int a1)]) rfl (fun p e s m args below meth c C hP hS ls hl => ?_)
  have hx := C.1.1
  have hb := C.1.2.1
  unfold q_X7_nameOf at h
  refine lv_iload_n hx hb dX7_nameOf_0 rfl (lv_at hl 0 rfl) ?_
  refine lv_topi (fun sw_1 esw_1 => ?_)
  have h := h sw_1 esw_1
  by_cases c_2 : sw_1 = (nI 0)
  · have h := h.1 c_2
    rw [c_2]
    refine lv_tableIn (tgt := 48) hx hb dX7_nameOf_1 (by decide) (by decide) rfl (by decide) ?_
    refine s_ldc (i := 0) C rfl (by decide) rfl dX7_nameOf_48 ?_
    exact s_rs (i := 0) C hP hS (by decide) h dX7_nameOf_50
  · have h := h.2 c_2
    by_cases c_3 : sw_1 = (nI 1)
    · have h := h.1 c_3
      rw [c_3]
      refine lv_tableIn (tgt := 51) hx hb dX7_nameOf_1 (by decide) (by decide) rfl (by decide) ?_
      refine s_ldc (i := 1) C rfl (by decide) rfl dX7_nameOf_51 ?_
      exact s_rs (i := 1) C hP hS (by decide) h dX7_nameOf_53
    · have h := h.2 c_3
      by_cases c_4 : sw_1 = (nI 2)
      · have h := h.1 c_4
        rw [c_4]
        refine lv_tableIn (tgt := 54) hx hb dX7_nameOf_1 (by decide) (by decide) rfl (by decide) ?_
        refine s_ldc (i := 2) C rfl (by decide) rfl dX7_nameOf_54 ?_
        exact s_rs (i := 2) C hP hS (by decide) h dX7_nameOf_56
      · have h := h.2 c_4
        by_cases c_5 : sw_1 = (nI 3)
        · have h := h.1 c_5
          rw [c_5]
          refine lv_tableIn (tgt := 57) hx hb dX7_nameOf_1 (by decide) (by decide) rfl (by decide) ?_
          refine s_ldc (i := 3) C rfl (by decide) rfl dX7_nameOf_57 ?_
          exact s_rs (i := 3) C hP hS (by decide) h dX7_nameOf_59
        · have h := h.2 c_5
          by_cases c_6 : sw_1 = (nI 4)
          · have h := h.1 c_6
            rw [c_6]
            refine lv_tableIn (tgt := 60) hx hb dX7_nameOf_1 (by decide) (by decide) rfl (by decide) ?_
            refine s_ldc (i := 4) C rfl (by decide) rfl dX7_nameOf_60 ?_
            exact s_rs (i := 4) C hP hS (by decide) h dX7_nameOf_62
          · have h := h.2 c_6
            by_cases c_7 : sw_1 = (nI 5)
            · have h := h.1 c_7
              rw [c_7]
              refine lv_tableIn (tgt := 63) hx hb dX7_nameOf_1 (by decide) (by decide) rfl (by decide) ?_
              refine s_ldc (i := 5) C rfl (by decide) rfl dX7_nameOf_63 ?_
              exact s_rs (i := 5) C hP hS (by decide) h dX7_nameOf_65
            · have h := h.2 c_7
              by_cases c_8 : sw_1 = (nI 6)
              · have h := h.1 c_8
                rw [c_8]
                refine lv_tableIn (tgt := 66) hx hb dX7_nameOf_1 (by decide) (by decide) rfl (by decide) ?_
                refine s_ldc (i := 6) C rfl (by decide) rfl dX7_nameOf_66 ?_
                exact s_rs (i := 6) C hP hS (by decide) h dX7_nameOf_68
              · have h := h.2 c_8
                by_cases c_9 : sw_1 = (nI 7)
                · have h := h.1 c_9
                  rw [c_9]
                  refine lv_tableIn (tgt := 69) hx hb dX7_nameOf_1 (by decide) (by decide) rfl (by decide) ?_
                  refine s_ldc (i := 7) C rfl (by decide) rfl dX7_nameOf_69 ?_
                  exact s_rs (i := 7) C hP hS (by decide) h dX7_nameOf_71
                · have h := h.2 c_9
                  have c_2_ := tIne c_2 (z := 0) (by decide)
                  have c_3_ := tIne c_3 (z := 1) (by decide)
                  have c_4_ := tIne c_4 (z := 2) (by decide)
                  have c_5_ := tIne c_5 (z := 3) (by decide)
                  have c_6_ := tIne c_6 (z := 4) (by decide)
                  have c_7_ := tIne c_7 (z := 5) (by decide)
                  have c_8_ := tIne c_8 (z := 6) (by decide)
                  have c_9_ := tIne c_9 (z := 7) (by decide)
                  refine lv_tableOut (tgt := 72) hx hb dX7_nameOf_1 (by omega) (by decide) ?_
                  refine s_ldc (i := 8) C rfl (by decide) rfl dX7_nameOf_72 ?_
                  exact s_rs (i := 8) C hP hS (by decide) h dX7_nameOf_74
def q_X7_isSpelled_17 (u1 : Nat) (a2 : Int32) (S : St) (k : Int32 → Prop) : Nat → Int32 → Prop := fun n_ => Nat.rec (motive := fun _ => Int32 → Prop) (fun _ => False) (fun _ ih => fun x3 => q_J0_length_8abf5 u1 S (fun r_1 => ((r_1 ≤ x3 → (k (nI 1))) ∧ (¬ r_1 ≤ x3 → (q_J0_charAt_5068e u1 S x3 (fun r_3 => (q_X7_peek S ((S.1 1 4) + x3) (fun r_4 => ((r_3 = r_4 → (∀ x3_6 : Int32, x3_6 = x3 + (nI 1) → (ih x3_6))) ∧ (¬ r_3 = r_4 → (k (nI 0)))))))))))) n_
theorem q_X7_isSpelled_17_s (u1 : Nat) (a2 : Int32) (S : St) (k : Int32 → Prop) (n_ : Nat) (x3 : Int32) : q_X7_isSpelled_17 u1 a2 S k (n_ + 1) x3 = (q_J0_length_8abf5 u1 S (fun r_1 => ((r_1 ≤ x3 → (k (nI 1))) ∧ (¬ r_1 ≤ x3 → (q_J0_charAt_5068e u1 S x3 (fun r_3 => (q_X7_peek S ((S.1 1 4) + x3) (fun r_4 => ((r_3 = r_4 → (∀ x3_6 : Int32, x3_6 = x3 + (nI 1) → ((q_X7_isSpelled_17 u1 a2 S k n_) x3_6))) ∧ (¬ r_3 = r_4 → (k (nI 0)))))))))))) := rfl
set_option maxRecDepth 100000 in
set_option maxHeartbeats 4000000 in
theorem b_X7_isSpelled_17 {p : Program} {l : Launch} {e : Env} {s : State} {m : MethodId} {args : Array Value} {below : List Frame} {meth : Method} {c : Code} {Z : ZT} (hi : injZ 68 Z) (C : Cxt (gX Z) p s m meth c args yX7_isSpelled cX7_isSpelled 4 (Option.some .boolean)) {u1 : Nat} {a2 : Int32} {S : St} {k : Int32 → Prop} (hu1 : u1 < 9)  : ∀ (n_ : Nat) (x3 : Int32) (H : Heap) (locs : List Loc) (ls : Array Slot), va_P Z.1 vwCl (wl shX 68 Z S) H → va_S (aa 68 Z) s.heap H locs → lv_has ls 4 [(0, .ref (Z.2.2.1 1)), (1, .ref (Z.2.2.2 (10 + u1))), (3, .int x3)] → q_X7_isSpelled_17 u1 a2 S k n_ x3 → W p l e (rmk 4 85) s m args below meth c H locs 0 0 (Qi below shX 68 Z args s (fun r S' => S' = S ∧ (r = 0 ∨ r = 1) ∧ k r)) (F0 m 17 ls []) := by
  have g := gokX hi
  have hx := C.1.1
  have hb := C.1.2.1
  intro n_
  induction n_ with
  | zero => intro x3 H locs ls hP hS hl h; exact h.elim
  | succ n_ ih =>
    intro x3 H locs ls hP hS hl h
    rw [q_X7_isSpelled_17_s] at h
    refine lv_iload_n hx hb dX7_isSpelled_17 rfl (lv_at hl 2 rfl) ?_
    refine lv_aload_n hx hb dX7_isSpelled_18 rfl (lv_at hl 1 rfl) ?_
    refine go_ip (run_VS hi C hP hS (i := u1) (As := []) (rest := [.int x3]) (c_J0_length_8abf5 hi u1 hu1 S _ h) cal_J0_length_8abf5 kML_X7_62 hu1 rfl ⟨rfl, rfl, Nat.le_of_ble_eq_true rfl, Nat.le_of_ble_eq_true rfl⟩ rfl rfl hl.1 (Nat.le_of_ble_eq_true rfl) dX7_isSpelled_19) hS (fun r_1 H locs h hP hS => ?_)
    refine lv_icmp_ge (tgt := 51) hx hb dX7_isSpelled_22 (by decide) (fun c_2 => ?_) (fun c_2 => ?_)
    · have h := h.1 c_2
      refine lv_iconst (v := (nI 1)) hx hb dX7_isSpelled_51 (by decide) ?_
      exact s_rz C hP hS (nar_b (Or.inr rfl)) ⟨rfl, ⟨(Or.inr rfl), h⟩⟩ dX7_isSpelled_52
    · have h := h.2 c_2
      refine lv_aload_n hx hb dX7_isSpelled_25 rfl (lv_at hl 1 rfl) ?_
      refine lv_iload_n hx hb dX7_isSpelled_26 rfl (lv_at hl 2 rfl) ?_
      refine go_ip (run_VS hi C hP hS (i := u1) (As := [.int x3]) (rest := []) (c_J0_charAt_5068e hi u1 hu1 S x3 _ h) cal_J0_charAt_5068e kML_X7_66 hu1 rfl ⟨rfl, rfl, Nat.le_of_ble_eq_true rfl, Nat.le_of_ble_eq_true rfl⟩ rfl rfl hl.1 (Nat.le_of_ble_eq_true rfl) dX7_isSpelled_27) hS (fun r_3 H locs h hP hS => ?_)
      obtain ⟨hbr_3, h⟩ := h
      refine lv_aload_n hx hb dX7_isSpelled_30 rfl (lv_at hl 0 rfl) ?_
      refine lv_aload_n hx hb dX7_isSpelled_31 rfl (lv_at hl 0 rfl) ?_
      refine s_gI g C hP 1 4 (by decide) rfl rfl cfX7 (by decide) kFL_X7_24 dX7_isSpelled_32 ?_
      refine lv_iload_n hx hb dX7_isSpelled_35 rfl (lv_at hl 2 rfl) ?_
      refine lv_iadd hx hb dX7_isSpelled_36 ?_
      refine go_ip (run_V g C hP hS (c0 := 1) (As := [.int ((S.1 1 4) + x3)]) (rest := [.int r_3]) (c_X7_peek hi S ((S.1 1 4) + x3) _ h) cal_X7_peek kML_X7_47 (by decide) rfl cfX7 ⟨rfl, rfl, Nat.le_of_ble_eq_true rfl, Nat.le_of_ble_eq_true rfl⟩ rfl rfl hl.1 (Nat.le_of_ble_eq_true rfl) dX7_isSpelled_37) hS (fun r_4 H locs h hP hS => ?_)
      refine lv_icmp_eq (tgt := 45) hx hb dX7_isSpelled_40 (by decide) (fun c_5 => ?_) (fun c_5 => ?_)
      · have h := h.1 c_5
        obtain ⟨x3_6, ex3_6⟩ : ∃ y_ : Int32, y_ = x3 + (nI 1) := ⟨_, rfl⟩
        have h := h x3_6 ex3_6
        refine lv_iinc (v := x3_6) (lv' := [(3, .int x3_6), (0, .ref (Z.2.2.1 1)), (1, .ref (Z.2.2.2 (10 + u1)))]) hx hb dX7_isSpelled_45 hl (k := 2) rfl (by rw [ex3_6]; rfl) (by decide) rfl (fun ls hl => ?_)
        refine lv_goto (tgt := 17) hx hb dX7_isSpelled_48 (by decide) ?_
        exact ih _ _ _ _ hP hS (lv_sub hl [1, 2, 0] rfl) h
      · have h := h.2 c_5
        refine lv_iconst (v := (nI 0)) hx hb dX7_isSpelled_43 (by decide) ?_
        exact s_rz C hP hS (nar_b (Or.inl rfl)) ⟨rfl, ⟨(Or.inl rfl), h⟩⟩ dX7_isSpelled_44
def q_X7_isSpelled (u1 : Nat) (S : St) (a2 : Int32) (k : Int32 → Prop) : Prop := q_J0_length_8abf5 u1 S (fun r_1 => ((r_1 = (a2 - (S.1 1 4)) → (∃ f_17, q_X7_isSpelled_17 u1 a2 S k f_17 (nI 0))) ∧ (¬ r_1 = (a2 - (S.1 1 4)) → (k (nI 0)))))
set_option maxRecDepth 100000 in
set_option maxHeartbeats 4000000 in
theorem c_X7_isSpelled {l : Launch} {Z : ZT} (hi : injZ 68 Z) (u1 : Nat) (hu1 : u1 < 9) (S : St) (a2 : Int32) (k : Int32 → Prop) (h : q_X7_isSpelled u1 S a2 k) : Mi l shX 68 Z (gX Z) yX7_isSpelled cX7_isSpelled 4 (Option.some .boolean) (rmk 4 85) [.ref (Z.2.2.1 1), .ref (Z.2.2.2 (10 + u1)), .int a2] S (fun r S' => S' = S ∧ (r = 0 ∨ r = 1) ∧ k r) := by
  have g := gokX hi
  refine e_i (by decide) (Nat.le_of_ble_eq_true rfl) (lv := [(0, .ref (Z.2.2.1 1)), (1, .ref (Z.2.2.2 (10 + u1))), (2, .int a2)]) rfl (fun p e s m args below meth c C hP hS ls hl => ?_)
  have hx := C.1.1
  have hb := C.1.2.1
  unfold q_X7_isSpelled at h
  refine lv_aload_n hx hb dX7_isSpelled_0 rfl (lv_at hl 1 rfl) ?_
  refine go_ip (run_VS hi C hP hS (i := u1) (As := []) (rest := []) (c_J0_length_8abf5 hi u1 hu1 S _ h) cal_J0_length_8abf5 kML_X7_62 hu1 rfl ⟨rfl, rfl, Nat.le_of_ble_eq_true rfl, Nat.le_of_ble_eq_true rfl⟩ rfl rfl hl.1 (Nat.le_of_ble_eq_true rfl) dX7_isSpelled_1) hS (fun r_1 H locs h hP hS => ?_)
  refine lv_iload_n hx hb dX7_isSpelled_4 rfl (lv_at hl 2 rfl) ?_
  refine lv_aload_n hx hb dX7_isSpelled_5 rfl (lv_at hl 0 rfl) ?_
  refine s_gI g C hP 1 4 (by decide) rfl rfl cfX7 (by decide) kFL_X7_24 dX7_isSpelled_6 ?_
  refine lv_isub hx hb dX7_isSpelled_9 ?_
  refine lv_icmp_eq (tgt := 15) hx hb dX7_isSpelled_10 (by decide) (fun c_2 => ?_) (fun c_2 => ?_)
  · have h := h.1 c_2
    refine lv_iconst (v := (nI 0)) hx hb dX7_isSpelled_15 (by decide) ?_
    refine lv_istore_n (lv' := [(3, .int (nI 0)), (0, .ref (Z.2.2.1 1)), (1, .ref (Z.2.2.2 (10 + u1))), (2, .int a2)]) hx hb dX7_isSpelled_16 rfl hl (by decide) rfl (fun ls hl => ?_)
    obtain ⟨f_17, h⟩ := h
    exact b_X7_isSpelled_17 hi C hu1 f_17 _ _ _ _ hP hS (lv_sub hl [1, 2, 0] rfl) h
  · have h := h.2 c_2
    refine lv_iconst (v := (nI 0)) hx hb dX7_isSpelled_13 (by decide) ?_
    exact s_rz C hP hS (nar_b (Or.inl rfl)) ⟨rfl, ⟨(Or.inl rfl), h⟩⟩ dX7_isSpelled_14
def q_X7_readWord_36 (k : Int32 → St → Prop) : Nat → St → Int32 → Int32 → Prop := fun n_ => Nat.rec (motive := fun _ => St → Int32 → Int32 → Prop) (fun _ _ _ => False) (fun _ ih => fun S x1 x2 => ((nI 9) ≤ x2 → (k (-1 : Int32) S)) ∧ (¬ (nI 9) ≤ x2 → (q_X7_nameOf S x2 (fun u_2 => (q_X7_isSpelled u_2 S x1 (fun r_3 => ((r_3 = (nI 0) → (∀ x2_5 : Int32, x2_5 = x2 + (nI 1) → (ih S x1 x2_5))) ∧ (¬ r_3 = (nI 0) → (∀ S_6 : St, S_6 = sI S 1 4 x1 → (k x2 S_6)))))))))) n_
theorem q_X7_readWord_36_s (k : Int32 → St → Prop) (n_ : Nat) (S : St) (x1 : Int32) (x2 : Int32) : q_X7_readWord_36 k (n_ + 1) S x1 x2 = (((nI 9) ≤ x2 → (k (-1 : Int32) S)) ∧ (¬ (nI 9) ≤ x2 → (q_X7_nameOf S x2 (fun u_2 => (q_X7_isSpelled u_2 S x1 (fun r_3 => ((r_3 = (nI 0) → (∀ x2_5 : Int32, x2_5 = x2 + (nI 1) → ((q_X7_readWord_36 k n_) S x1 x2_5))) ∧ (¬ r_3 = (nI 0) → (∀ S_6 : St, S_6 = sI S 1 4 x1 → (k x2 S_6)))))))))) := rfl
set_option maxRecDepth 100000 in
set_option maxHeartbeats 4000000 in
theorem b_X7_readWord_36 {p : Program} {l : Launch} {e : Env} {s : State} {m : MethodId} {args : Array Value} {below : List Frame} {meth : Method} {c : Code} {Z : ZT} (hi : injZ 68 Z) (C : Cxt (gX Z) p s m meth c args yX7_readWord cX7_readWord 3 (Option.some .int)) {k : Int32 → St → Prop}   : ∀ (n_ : Nat) (S : St) (x1 : Int32) (x2 : Int32) (H : Heap) (locs : List Loc) (ls : Array Slot), va_P Z.1 vwCl (wl shX 68 Z S) H → va_S (aa 68 Z) s.heap H locs → lv_has ls 3 [(0, .ref (Z.2.2.1 1)), (1, .int x1), (2, .int x2)] → q_X7_readWord_36 k n_ S x1 x2 → W p l e (rmk 5 108) s m args below meth c H locs 0 0 (Qi below shX 68 Z args s k) (F0 m 36 ls []) := by
  have g := gokX hi
  have hx := C.1.1
  have hb := C.1.2.1
  intro n_
  induction n_ with
  | zero => intro S x1 x2 H locs ls hP hS hl h; exact h.elim
  | succ n_ ih =>
    intro S x1 x2 H locs ls hP hS hl h
    rw [q_X7_readWord_36_s] at h
    refine lv_iload_n hx hb dX7_readWord_36 rfl (lv_at hl 2 rfl) ?_
    refine lv_bipush (v := (nI 9)) hx hb dX7_readWord_37 (by decide) ?_
    refine lv_icmp_ge (tgt := 67) hx hb dX7_readWord_39 (by decide) (fun c_1 => ?_) (fun c_1 => ?_)
    · have h := h.1 c_1
      refine lv_iconst (v := (-1 : Int32)) hx hb dX7_readWord_67 (by decide) ?_
      exact s_ri C hP hS h dX7_readWord_68
    · have h := h.2 c_1
      refine lv_aload_n hx hb dX7_readWord_42 rfl (lv_at hl 0 rfl) ?_
      refine lv_iload_n hx hb dX7_readWord_43 rfl (lv_at hl 2 rfl) ?_
      refine go_r (run_S g C hP hS (As := [.int x2]) (rest := [.ref (Z.2.2.1 1)]) (c_X7_nameOf hi S x2 _ h) cal_X7_nameOf kML_X7_54 ⟨rfl, rfl, Nat.le_of_ble_eq_true rfl, Nat.le_of_ble_eq_true rfl⟩ rfl rfl hl.1 (Nat.le_of_ble_eq_true rfl) dX7_readWord_44) hS (fun u_2 H locs hu_2 h hP hS => ?_)
      refine lv_iload_n hx hb dX7_readWord_47 rfl (lv_at hl 1 rfl) ?_
      refine go_ip (run_V g C hP hS (c0 := 1) (As := [.ref (Z.2.2.2 (10 + u_2)), .int x1]) (rest := []) (c_X7_isSpelled hi u_2 hu_2 S x1 _ h) cal_X7_isSpelled kML_X7_58 (by decide) rfl cfX7 ⟨rfl, rfl, Nat.le_of_ble_eq_true rfl, Nat.le_of_ble_eq_true rfl⟩ rfl rfl hl.1 (Nat.le_of_ble_eq_true rfl) dX7_readWord_48) hS (fun r_3 H locs h hP hS => ?_)
      obtain ⟨hbr_3, h⟩ := h
      refine lv_if_eq (tgt := 61) hx hb dX7_readWord_51 (by decide) (fun c_4 => ?_) (fun c_4 => ?_)
      · have h := h.1 c_4
        obtain ⟨x2_5, ex2_5⟩ : ∃ y_ : Int32, y_ = x2 + (nI 1) := ⟨_, rfl⟩
        have h := h x2_5 ex2_5
        refine lv_iinc (v := x2_5) (lv' := [(2, .int x2_5), (0, .ref (Z.2.2.1 1)), (1, .int x1)]) hx hb dX7_readWord_61 hl (k := 2) rfl (by rw [ex2_5]; rfl) (by decide) rfl (fun ls hl => ?_)
        refine lv_goto (tgt := 36) hx hb dX7_readWord_64 (by decide) ?_
        exact ih _ _ _ _ _ _ hP hS (lv_sub hl [1, 2, 0] rfl) h
      · have h := h.2 c_4
        refine lv_aload_n hx hb dX7_readWord_54 rfl (lv_at hl 0 rfl) ?_
        refine lv_iload_n hx hb dX7_readWord_55 rfl (lv_at hl 1 rfl) ?_
        refine s_pI g C hP hS 1 4 (by decide) rfl rfl cfX7 (by decide) rfl rfl rfl kFL_X7_24 dX7_readWord_56 (fun H locs hP hS => ?_)
        obtain ⟨S_6, eS_6⟩ : ∃ z_ : St, z_ = sI S 1 4 x1 := ⟨_, rfl⟩
        rw [← eS_6] at hP
        have h := h S_6 eS_6
        refine lv_iload_n hx hb dX7_readWord_59 rfl (lv_at hl 2 rfl) ?_
        exact s_ri C hP hS h dX7_readWord_60
def q_X7_readWord_34 (k : Int32 → St → Prop) (S : St) (x1 : Int32) : Prop := ∃ f_36, q_X7_readWord_36 k f_36 S x1 (nI 0)
set_option maxRecDepth 100000 in
set_option maxHeartbeats 4000000 in
theorem b_X7_readWord_34 {p : Program} {l : Launch} {e : Env} {s : State} {m : MethodId} {args : Array Value} {below : List Frame} {meth : Method} {c : Code} {Z : ZT} (hi : injZ 68 Z) (C : Cxt (gX Z) p s m meth c args yX7_readWord cX7_readWord 3 (Option.some .int)) {k : Int32 → St → Prop}   (S : St) (x1 : Int32) (H : Heap) (locs : List Loc) (ls : Array Slot) (hP : va_P Z.1 vwCl (wl shX 68 Z S) H) (hS : va_S (aa 68 Z) s.heap H locs) (hl : lv_has ls 3 [(0, .ref (Z.2.2.1 1)), (1, .int x1)]) (h : q_X7_readWord_34 k S x1) : W p l e (rmk 5 108) s m args below meth c H locs 0 0 (Qi below shX 68 Z args s k) (F0 m 34 ls []) := by
  have g := gokX hi
  have hx := C.1.1
  have hb := C.1.2.1
  unfold q_X7_readWord_34 at h
  refine lv_iconst (v := (nI 0)) hx hb dX7_readWord_34 (by decide) ?_
  refine lv_istore_n (lv' := [(2, .int (nI 0)), (0, .ref (Z.2.2.1 1)), (1, .int x1)]) hx hb dX7_readWord_35 rfl hl (by decide) rfl (fun ls hl => ?_)
  obtain ⟨f_36, h⟩ := h
  exact b_X7_readWord_36 hi C  f_36 _ _ _ _ _ _ hP hS (lv_sub hl [1, 2, 0] rfl) h
def q_X7_readWord_7 (k : Int32 → St → Prop) : Nat → St → Int32 → Int32 → Prop := fun n_ => Nat.rec (motive := fun _ => St → Int32 → Int32 → Prop) (fun _ _ _ => False) (fun _ ih => fun S x1 x2 => ((nI 200) ≤ x2 → (q_X7_readWord_34 k S x1)) ∧ (¬ (nI 200) ≤ x2 → (q_X7_peek S x1 (fun r_2 => (q_X7_isLetter S r_2 (fun r_3 => ((r_3 = (nI 0) → (q_X7_readWord_34 k S x1)) ∧ (¬ r_3 = (nI 0) → (∀ x1_5 : Int32, x1_5 = x1 + (nI 1) → (∀ x2_6 : Int32, x2_6 = x2 + (nI 1) → (ih S x1_5 x2_6))))))))))) n_
theorem q_X7_readWord_7_s (k : Int32 → St → Prop) (n_ : Nat) (S : St) (x1 : Int32) (x2 : Int32) : q_X7_readWord_7 k (n_ + 1) S x1 x2 = (((nI 200) ≤ x2 → (q_X7_readWord_34 k S x1)) ∧ (¬ (nI 200) ≤ x2 → (q_X7_peek S x1 (fun r_2 => (q_X7_isLetter S r_2 (fun r_3 => ((r_3 = (nI 0) → (q_X7_readWord_34 k S x1)) ∧ (¬ r_3 = (nI 0) → (∀ x1_5 : Int32, x1_5 = x1 + (nI 1) → (∀ x2_6 : Int32, x2_6 = x2 + (nI 1) → ((q_X7_readWord_7 k n_) S x1_5 x2_6))))))))))) := rfl
set_option maxRecDepth 100000 in
set_option maxHeartbeats 4000000 in
theorem b_X7_readWord_7 {p : Program} {l : Launch} {e : Env} {s : State} {m : MethodId} {args : Array Value} {below : List Frame} {meth : Method} {c : Code} {Z : ZT} (hi : injZ 68 Z) (C : Cxt (gX Z) p s m meth c args yX7_readWord cX7_readWord 3 (Option.some .int)) {k : Int32 → St → Prop}   : ∀ (n_ : Nat) (S : St) (x1 : Int32) (x2 : Int32) (H : Heap) (locs : List Loc) (ls : Array Slot), va_P Z.1 vwCl (wl shX 68 Z S) H → va_S (aa 68 Z) s.heap H locs → lv_has ls 3 [(0, .ref (Z.2.2.1 1)), (1, .int x1), (2, .int x2)] → q_X7_readWord_7 k n_ S x1 x2 → W p l e (rmk 5 108) s m args below meth c H locs 0 0 (Qi below shX 68 Z args s k) (F0 m 7 ls []) := by
  have g := gokX hi
  have hx := C.1.1
  have hb := C.1.2.1
  intro n_
  induction n_ with
  | zero => intro S x1 x2 H locs ls hP hS hl h; exact h.elim
  | succ n_ ih =>
    intro S x1 x2 H locs ls hP hS hl h
    rw [q_X7_readWord_7_s] at h
    refine lv_iload_n hx hb dX7_readWord_7 rfl (lv_at hl 2 rfl) ?_
    refine lv_sipush (v := (nI 200)) hx hb dX7_readWord_8 (by decide) ?_
    refine lv_icmp_ge (tgt := 34) hx hb dX7_readWord_11 (by decide) (fun c_1 => ?_) (fun c_1 => ?_)
    · have h := h.1 c_1
      exact b_X7_readWord_34 hi C  _ _ _ _ _ hP hS (lv_sub hl [0, 1] rfl) h
    · have h := h.2 c_1
      refine lv_aload_n hx hb dX7_readWord_14 rfl (lv_at hl 0 rfl) ?_
      refine lv_iload_n hx hb dX7_readWord_15 rfl (lv_at hl 1 rfl) ?_
      refine go_ip (run_V g C hP hS (c0 := 1) (As := [.int x1]) (rest := []) (c_X7_peek hi S x1 _ h) cal_X7_peek kML_X7_47 (by decide) rfl cfX7 ⟨rfl, rfl, Nat.le_of_ble_eq_true rfl, Nat.le_of_ble_eq_true rfl⟩ rfl rfl hl.1 (Nat.le_of_ble_eq_true rfl) dX7_readWord_16) hS (fun r_2 H locs h hP hS => ?_)
      refine go_ip (run_S g C hP hS (As := [.int r_2]) (rest := []) (c_X7_isLetter hi S r_2 _ h) cal_X7_isLetter kML_X7_51 ⟨rfl, rfl, Nat.le_of_ble_eq_true rfl, Nat.le_of_ble_eq_true rfl⟩ rfl rfl hl.1 (Nat.le_of_ble_eq_true rfl) dX7_readWord_19) hS (fun r_3 H locs h hP hS => ?_)
      obtain ⟨hbr_3, h⟩ := h
      refine lv_if_eq (tgt := 34) hx hb dX7_readWord_22 (by decide) (fun c_4 => ?_) (fun c_4 => ?_)
      · have h := h.1 c_4
        exact b_X7_readWord_34 hi C  _ _ _ _ _ hP hS (lv_sub hl [0, 1] rfl) h
      · have h := h.2 c_4
        obtain ⟨x1_5, ex1_5⟩ : ∃ y_ : Int32, y_ = x1 + (nI 1) := ⟨_, rfl⟩
        have h := h x1_5 ex1_5
        refine lv_iinc (v := x1_5) (lv' := [(1, .int x1_5), (0, .ref (Z.2.2.1 1)), (2, .int x2)]) hx hb dX7_readWord_25 hl (k := 1) rfl (by rw [ex1_5]; rfl) (by decide) rfl (fun ls hl => ?_)
        obtain ⟨x2_6, ex2_6⟩ : ∃ y_ : Int32, y_ = x2 + (nI 1) := ⟨_, rfl⟩
        have h := h x2_6 ex2_6
        refine lv_iinc (v := x2_6) (lv' := [(2, .int x2_6), (1, .int x1_5), (0, .ref (Z.2.2.1 1))]) hx hb dX7_readWord_28 hl (k := 2) rfl (by rw [ex2_6]; rfl) (by decide) rfl (fun ls hl => ?_)
        refine lv_goto (tgt := 7) hx hb dX7_readWord_31 (by decide) ?_
        exact ih _ _ _ _ _ _ hP hS (lv_sub hl [2, 1, 0] rfl) h
def q_X7_readWord (S : St) (k : Int32 → St → Prop) : Prop := ∀ x1_1 : Int32, x1_1 = (S.1 1 4) → (∃ f_7, q_X7_readWord_7 k f_7 S x1_1 (nI 0))
set_option maxRecDepth 100000 in
set_option maxHeartbeats 4000000 in
theorem c_X7_readWord {l : Launch} {Z : ZT} (hi : injZ 68 Z) (S : St) (k : Int32 → St → Prop) (h : q_X7_readWord S k) : Mi l shX 68 Z (gX Z) yX7_readWord cX7_readWord 3 (Option.some .int) (rmk 5 108) [.ref (Z.2.2.1 1)] S k := by
  have g := gokX hi
  refine e_i (by decide) (Nat.le_of_ble_eq_true rfl) (lv := [(0, .ref (Z.2.2.1 1))]) rfl (fun p e s m args below meth c C hP hS ls hl => ?_)
  have hx := C.1.1
  have hb := C.1.2.1
  unfold q_X7_readWord at h
  refine lv_aload_n hx hb dX7_readWord_0 rfl (lv_at hl 0 rfl) ?_
  refine s_gI g C hP 1 4 (by decide) rfl rfl cfX7 (by decide) kFL_X7_24 dX7_readWord_1 ?_
  refine lv_topi (fun x1_1 ex1_1 => ?_)
  have h := h x1_1 ex1_1
  refine lv_istore_n (lv' := [(1, .int x1_1), (0, .ref (Z.2.2.1 1))]) hx hb dX7_readWord_4 rfl hl (by decide) rfl (fun ls hl => ?_)
  refine lv_iconst (v := (nI 0)) hx hb dX7_readWord_5 (by decide) ?_
  refine lv_istore_n (lv' := [(2, .int (nI 0)), (1, .int x1_1), (0, .ref (Z.2.2.1 1))]) hx hb dX7_readWord_6 rfl hl (by decide) rfl (fun ls hl => ?_)
  obtain ⟨f_7, h⟩ := h
  exact b_X7_readWord_7 hi C  f_7 _ _ _ _ _ _ hP hS (lv_sub hl [2, 1, 0] rfl) h
def q_X7_isEndOfHours_9 (a1 : Int32) (a2 : Int32) (S : St) (k : Int32 → Prop)  : Prop := (a1 = (nI 5) → ((a2 = (nI 1) → (k (nI 1))) ∧ (¬ a2 = (nI 1) → (k (nI 0))))) ∧ (¬ a1 = (nI 5) → (k (nI 0)))
set_option maxRecDepth 100000 in
set_option maxHeartbeats 4000000 in
theorem b_X7_isEndOfHours_9 {p : Program} {l : Launch} {e : Env} {s : State} {m : MethodId} {args : Array Value} {below : List Frame} {meth : Method} {c : Code} {Z : ZT} (hi : injZ 68 Z) (C : Cxt (gX Z) p s m meth c args yX7_isEndOfHours cX7_isEndOfHours 2 (Option.some .boolean)) {a1 : Int32} {a2 : Int32} {S : St} {k : Int32 → Prop}   (H : Heap) (locs : List Loc) (ls : Array Slot) (hP : va_P Z.1 vwCl (wl shX 68 Z S) H) (hS : va_S (aa 68 Z) s.heap H locs) (hl : lv_has ls 2 [(0, .int a1), (1, .int a2)]) (h : q_X7_isEndOfHours_9 a1 a2 S k ) : W p l e (rmk 0 0) s m args below meth c H locs 0 0 (Qi below shX 68 Z args s (fun r S' => S' = S ∧ (r = 0 ∨ r = 1) ∧ k r)) (F0 m 9 ls []) := by
  have g := gokX hi
  have hx := C.1.1
  have hb := C.1.2.1
  unfold q_X7_isEndOfHours_9 at h
  refine lv_iload_n hx hb dX7_isEndOfHours_9 rfl (lv_at hl 0 rfl) ?_
  refine lv_iconst (v := (nI 5)) hx hb dX7_isEndOfHours_10 (by decide) ?_
  refine lv_icmp_ne (tgt := 23) hx hb dX7_isEndOfHours_11 (by decide) (fun c_1 => ?_) (fun c_1 => ?_)
  · have h := h.2 c_1
    refine lv_iconst (v := (nI 0)) hx hb dX7_isEndOfHours_23 (by decide) ?_
    exact s_rz C hP hS (nar_b (Or.inl rfl)) ⟨rfl, ⟨(Or.inl rfl), h⟩⟩ dX7_isEndOfHours_24
  · have h := h.1 c_1
    refine lv_iload_n hx hb dX7_isEndOfHours_14 rfl (lv_at hl 1 rfl) ?_
    refine lv_iconst (v := (nI 1)) hx hb dX7_isEndOfHours_15 (by decide) ?_
    refine lv_icmp_ne (tgt := 23) hx hb dX7_isEndOfHours_16 (by decide) (fun c_2 => ?_) (fun c_2 => ?_)
    · have h := h.2 c_2
      refine lv_iconst (v := (nI 0)) hx hb dX7_isEndOfHours_23 (by decide) ?_
      exact s_rz C hP hS (nar_b (Or.inl rfl)) ⟨rfl, ⟨(Or.inl rfl), h⟩⟩ dX7_isEndOfHours_24
    · have h := h.1 c_2
      refine lv_iconst (v := (nI 1)) hx hb dX7_isEndOfHours_19 (by decide) ?_
      refine lv_goto (tgt := 24) hx hb dX7_isEndOfHours_20 (by decide) ?_
      exact s_rz C hP hS (nar_b (Or.inr rfl)) ⟨rfl, ⟨(Or.inr rfl), h⟩⟩ dX7_isEndOfHours_24
def q_X7_isEndOfHours (S : St) (a1 : Int32) (a2 : Int32) (k : Int32 → Prop) : Prop := (a1 = (nI 0) → ((a2 = (nI 2) → (k (nI 1))) ∧ (¬ a2 = (nI 2) → (q_X7_isEndOfHours_9 a1 a2 S k )))) ∧ (¬ a1 = (nI 0) → (q_X7_isEndOfHours_9 a1 a2 S k ))
set_option maxRecDepth 100000 in
set_option maxHeartbeats 4000000 in
theorem c_X7_isEndOfHours {l : Launch} {Z : ZT} (hi : injZ 68 Z) (S : St) (a1 : Int32) (a2 : Int32) (k : Int32 → Prop) (h : q_X7_isEndOfHours S a1 a2 k) : Mi l shX 68 Z (gX Z) yX7_isEndOfHours cX7_isEndOfHours 2 (Option.some .boolean) (rmk 0 0) [.int a1, .int a2] S (fun r S' => S' = S ∧ (r = 0 ∨ r = 1) ∧ k r) := by
  have g := gokX hi
  refine e_i (by decide) (Nat.le_of_ble_eq_true rfl) (lv := [(0, .int a1), (1, .int a2)]) rfl (fun p e s m args below meth c C hP hS ls hl => ?_)
  have hx := C.1.1
  have hb := C.1.2.1
  unfold q_X7_isEndOfHours at h
  refine lv_iload_n hx hb dX7_isEndOfHours_0 rfl (lv_at hl 0 rfl) ?_
  refine lv_if_ne (tgt := 9) hx hb dX7_isEndOfHours_1 (by decide) (fun c_1 => ?_) (fun c_1 => ?_)
  · have h := h.2 c_1
    exact b_X7_isEndOfHours_9 hi C  _ _ _ hP hS (lv_sub hl [0, 1] rfl) h
  · have h := h.1 c_1
    refine lv_iload_n hx hb dX7_isEndOfHours_4 rfl (lv_at hl 1 rfl) ?_
    refine lv_iconst (v := (nI 2)) hx hb dX7_isEndOfHours_5 (by decide) ?_
    refine lv_icmp_eq (tgt := 19) hx hb dX7_isEndOfHours_6 (by decide) (fun c_2 => ?_) (fun c_2 => ?_)
    · have h := h.1 c_2
      refine lv_iconst (v := (nI 1)) hx hb dX7_isEndOfHours_19 (by decide) ?_
      refine lv_goto (tgt := 24) hx hb dX7_isEndOfHours_20 (by decide) ?_
      exact s_rz C hP hS (nar_b (Or.inr rfl)) ⟨rfl, ⟨(Or.inr rfl), h⟩⟩ dX7_isEndOfHours_24
    · have h := h.2 c_2
      exact b_X7_isEndOfHours_9 hi C  _ _ _ hP hS (lv_sub hl [0, 1] rfl) h
def q_X7_isDigit (S : St) (a1 : Int32) (k : Int32 → Prop) : Prop := (a1 < (nI 48) → (k (nI 0))) ∧ (¬ a1 < (nI 48) → (((nI 57) < a1 → (k (nI 0))) ∧ (¬ (nI 57) < a1 → (k (nI 1)))))
set_option maxRecDepth 100000 in
set_option maxHeartbeats 4000000 in
theorem c_X7_isDigit {l : Launch} {Z : ZT} (hi : injZ 68 Z) (S : St) (a1 : Int32) (k : Int32 → Prop) (h : q_X7_isDigit S a1 k) : Mi l shX 68 Z (gX Z) yX7_isDigit cX7_isDigit 1 (Option.some .boolean) (rmk 0 0) [.int a1] S (fun r S' => S' = S ∧ (r = 0 ∨ r = 1) ∧ k r) := by
  have g := gokX hi
  refine e_i (by decide) (Nat.le_of_ble_eq_true rfl) (lv := [(0, .int a1)]) rfl (fun p e s m args below meth c C hP hS ls hl => ?_)
  have hx := C.1.1
  have hb := C.1.2.1
  unfold q_X7_isDigit at h
  refine lv_iload_n hx hb dX7_isDigit_0 rfl (lv_at hl 0 rfl) ?_
  refine lv_bipush (v := (nI 48)) hx hb dX7_isDigit_1 (by decide) ?_
  refine lv_icmp_lt (tgt := 16) hx hb dX7_isDigit_3 (by decide) (fun c_1 => ?_) (fun c_1 => ?_)
  · have h := h.1 c_1
    refine lv_iconst (v := (nI 0)) hx hb dX7_isDigit_16 (by decide) ?_
    exact s_rz C hP hS (nar_b (Or.inl rfl)) ⟨rfl, ⟨(Or.inl rfl), h⟩⟩ dX7_isDigit_17
  · have h := h.2 c_1
    refine lv_iload_n hx hb dX7_isDigit_6 rfl (lv_at hl 0 rfl) ?_
    refine lv_bipush (v := (nI 57)) hx hb dX7_isDigit_7 (by decide) ?_
    refine lv_icmp_gt (tgt := 16) hx hb dX7_isDigit_9 (by decide) (fun c_2 => ?_) (fun c_2 => ?_)
    · have h := h.1 c_2
      refine lv_iconst (v := (nI 0)) hx hb dX7_isDigit_16 (by decide) ?_
      exact s_rz C hP hS (nar_b (Or.inl rfl)) ⟨rfl, ⟨(Or.inl rfl), h⟩⟩ dX7_isDigit_17
    · have h := h.2 c_2
      refine lv_iconst (v := (nI 1)) hx hb dX7_isDigit_12 (by decide) ?_
      refine lv_goto (tgt := 17) hx hb dX7_isDigit_13 (by decide) ?_
      exact s_rz C hP hS (nar_b (Or.inr rfl)) ⟨rfl, ⟨(Or.inr rfl), h⟩⟩ dX7_isDigit_17
def q_X7_readNumber_61 (a1 : Int32) (a2 : Int32) (k : Int32 → St → Prop) (S : St) (x3 : Int32) (x4 : Int32) : Prop := ∀ x5_1 : Int32, x5_1 = (x3 - (S.1 1 4)) → ((x5_1 = (nI 0) → (k (-1 : Int32) S)) ∧ (¬ x5_1 = (nI 0) → (((nI 2) < x5_1 → (k (-1 : Int32) S)) ∧ (¬ (nI 2) < x5_1 → ((x4 < a1 → (k (-1 : Int32) S)) ∧ (¬ x4 < a1 → ((x4 ≤ a2 → (∀ S_6 : St, S_6 = sI S 1 4 x3 → (k x4 S_6))) ∧ (¬ x4 ≤ a2 → (k (-1 : Int32) S)))))))))
set_option maxRecDepth 100000 in
set_option maxHeartbeats 4000000 in
theorem b_X7_readNumber_61 {p : Program} {l : Launch} {e : Env} {s : State} {m : MethodId} {args : Array Value} {below : List Frame} {meth : Method} {c : Code} {Z : ZT} (hi : injZ 68 Z) (C : Cxt (gX Z) p s m meth c args yX7_readNumber cX7_readNumber 6 (Option.some .int)) {a1 : Int32} {a2 : Int32} {k : Int32 → St → Prop}   (S : St) (x3 : Int32) (x4 : Int32) (H : Heap) (locs : List Loc) (ls : Array Slot) (hP : va_P Z.1 vwCl (wl shX 68 Z S) H) (hS : va_S (aa 68 Z) s.heap H locs) (hl : lv_has ls 6 [(0, .ref (Z.2.2.1 1)), (1, .int a1), (2, .int a2), (3, .int x3), (4, .int x4)]) (h : q_X7_readNumber_61 a1 a2 k S x3 x4) : W p l e (rmk 1 21) s m args below meth c H locs 0 0 (Qi below shX 68 Z args s k) (F0 m 61 ls []) := by
  have g := gokX hi
  have hx := C.1.1
  have hb := C.1.2.1
  unfold q_X7_readNumber_61 at h
  refine lv_iload_n hx hb dX7_readNumber_61 rfl (lv_at hl 3 rfl) ?_
  refine lv_aload_n hx hb dX7_readNumber_62 rfl (lv_at hl 0 rfl) ?_
  refine s_gI g C hP 1 4 (by decide) rfl rfl cfX7 (by decide) kFL_X7_24 dX7_readNumber_63 ?_
  refine lv_isub hx hb dX7_readNumber_66 ?_
  refine lv_topi (fun x5_1 ex5_1 => ?_)
  have h := h x5_1 ex5_1
  refine lv_istore (lv' := [(5, .int x5_1), (0, .ref (Z.2.2.1 1)), (1, .int a1), (2, .int a2), (3, .int x3), (4, .int x4)]) hx hb dX7_readNumber_67 hl (by decide) rfl (fun ls hl => ?_)
  refine lv_iload hx hb dX7_readNumber_69 (lv_at hl 0 rfl) ?_
  refine lv_if_eq (tgt := 92) hx hb dX7_readNumber_71 (by decide) (fun c_2 => ?_) (fun c_2 => ?_)
  · have h := h.1 c_2
    refine lv_iconst (v := (-1 : Int32)) hx hb dX7_readNumber_92 (by decide) ?_
    exact s_ri C hP hS h dX7_readNumber_93
  · have h := h.2 c_2
    refine lv_iload hx hb dX7_readNumber_74 (lv_at hl 0 rfl) ?_
    refine lv_iconst (v := (nI 2)) hx hb dX7_readNumber_76 (by decide) ?_
    refine lv_icmp_gt (tgt := 92) hx hb dX7_readNumber_77 (by decide) (fun c_3 => ?_) (fun c_3 => ?_)
    · have h := h.1 c_3
      refine lv_iconst (v := (-1 : Int32)) hx hb dX7_readNumber_92 (by decide) ?_
      exact s_ri C hP hS h dX7_readNumber_93
    · have h := h.2 c_3
      refine lv_iload hx hb dX7_readNumber_80 (lv_at hl 5 rfl) ?_
      refine lv_iload_n hx hb dX7_readNumber_82 rfl (lv_at hl 2 rfl) ?_
      refine lv_icmp_lt (tgt := 92) hx hb dX7_readNumber_83 (by decide) (fun c_4 => ?_) (fun c_4 => ?_)
      · have h := h.1 c_4
        refine lv_iconst (v := (-1 : Int32)) hx hb dX7_readNumber_92 (by decide) ?_
        exact s_ri C hP hS h dX7_readNumber_93
      · have h := h.2 c_4
        refine lv_iload hx hb dX7_readNumber_86 (lv_at hl 5 rfl) ?_
        refine lv_iload_n hx hb dX7_readNumber_88 rfl (lv_at hl 3 rfl) ?_
        refine lv_icmp_le (tgt := 94) hx hb dX7_readNumber_89 (by decide) (fun c_5 => ?_) (fun c_5 => ?_)
        · have h := h.1 c_5
          refine lv_aload_n hx hb dX7_readNumber_94 rfl (lv_at hl 1 rfl) ?_
          refine lv_iload_n hx hb dX7_readNumber_95 rfl (lv_at hl 4 rfl) ?_
          refine s_pI g C hP hS 1 4 (by decide) rfl rfl cfX7 (by decide) rfl rfl rfl kFL_X7_24 dX7_readNumber_96 (fun H locs hP hS => ?_)
          obtain ⟨S_6, eS_6⟩ : ∃ z_ : St, z_ = sI S 1 4 x3 := ⟨_, rfl⟩
          rw [← eS_6] at hP
          have h := h S_6 eS_6
          refine lv_iload hx hb dX7_readNumber_99 (lv_at hl 5 rfl) ?_
          exact s_ri C hP hS h dX7_readNumber_101
        · have h := h.2 c_5
          refine lv_iconst (v := (-1 : Int32)) hx hb dX7_readNumber_92 (by decide) ?_
          exact s_ri C hP hS h dX7_readNumber_93
def q_X7_readNumber_52 (a1 : Int32) (a2 : Int32) (k : Int32 → St → Prop) (e_11 : St → Int32 → Int32 → Int32 → Prop) (S : St) (x3 : Int32) (x4 : Int32) (x5 : Int32) : Prop := ∀ x3_1 : Int32, x3_1 = x3 + (nI 1) → (∀ x5_2 : Int32, x5_2 = x5 + (nI 1) → (e_11 S x3_1 x4 x5_2))
set_option maxRecDepth 100000 in
set_option maxHeartbeats 4000000 in
theorem b_X7_readNumber_52 {p : Program} {l : Launch} {e : Env} {s : State} {m : MethodId} {args : Array Value} {below : List Frame} {meth : Method} {c : Code} {Z : ZT} (hi : injZ 68 Z) (C : Cxt (gX Z) p s m meth c args yX7_readNumber cX7_readNumber 6 (Option.some .int)) {a1 : Int32} {a2 : Int32} {k : Int32 → St → Prop} {e_11 : St → Int32 → Int32 → Int32 → Prop}  (he_11 : ∀ (S : St) (x3 : Int32) (x4 : Int32) (x5 : Int32) (H : Heap) (locs : List Loc) (ls : Array Slot), va_P Z.1 vwCl (wl shX 68 Z S) H → va_S (aa 68 Z) s.heap H locs → lv_has ls 6 [(0, .ref (Z.2.2.1 1)), (1, .int a1), (2, .int a2), (3, .int x3), (4, .int x4), (5, .int x5)] → e_11 S x3 x4 x5 → W p l e (rmk 1 21) s m args below meth c H locs 0 0 (Qi below shX 68 Z args s k) (F0 m 11 ls [])) (S : St) (x3 : Int32) (x4 : Int32) (x5 : Int32) (H : Heap) (locs : List Loc) (ls : Array Slot) (hP : va_P Z.1 vwCl (wl shX 68 Z S) H) (hS : va_S (aa 68 Z) s.heap H locs) (hl : lv_has ls 6 [(0, .ref (Z.2.2.1 1)), (1, .int a1), (2, .int a2), (3, .int x3), (4, .int x4), (5, .int x5)]) (h : q_X7_readNumber_52 a1 a2 k e_11 S x3 x4 x5) : W p l e (rmk 1 21) s m args below meth c H locs 0 0 (Qi below shX 68 Z args s k) (F0 m 52 ls []) := by
  have g := gokX hi
  have hx := C.1.1
  have hb := C.1.2.1
  unfold q_X7_readNumber_52 at h
  obtain ⟨x3_1, ex3_1⟩ : ∃ y_ : Int32, y_ = x3 + (nI 1) := ⟨_, rfl⟩
  have h := h x3_1 ex3_1
  refine lv_iinc (v := x3_1) (lv' := [(3, .int x3_1), (0, .ref (Z.2.2.1 1)), (1, .int a1), (2, .int a2), (4, .int x4), (5, .int x5)]) hx hb dX7_readNumber_52 hl (k := 3) rfl (by rw [ex3_1]; rfl) (by decide) rfl (fun ls hl => ?_)
  obtain ⟨x5_2, ex5_2⟩ : ∃ y_ : Int32, y_ = x5 + (nI 1) := ⟨_, rfl⟩
  have h := h x5_2 ex5_2
  refine lv_iinc (v := x5_2) (lv' := [(5, .int x5_2), (3, .int x3_1), (0, .ref (Z.2.2.1 1)), (1, .int a1), (2, .int a2), (4, .int x4)]) hx hb dX7_readNumber_55 hl (k := 5) rfl (by rw [ex5_2]; rfl) (by decide) rfl (fun ls hl => ?_)
  refine lv_goto (tgt := 11) hx hb dX7_readNumber_58 (by decide) ?_
  exact he_11 _ _ _ _ _ _ _ hP hS (lv_sub hl [2, 3, 4, 1, 5, 0] rfl) h
def q_X7_readNumber_11 (a1 : Int32) (a2 : Int32) (k : Int32 → St → Prop) : Nat → St → Int32 → Int32 → Int32 → Prop := fun n_ => Nat.rec (motive := fun _ => St → Int32 → Int32 → Int32 → Prop) (fun _ _ _ _ => False) (fun _ ih => fun S x3 x4 x5 => ((nI 200) ≤ x5 → (q_X7_readNumber_61 a1 a2 k S x3 x4)) ∧ (¬ (nI 200) ≤ x5 → (q_X7_peek S x3 (fun r_2 => (q_X7_isDigit S r_2 (fun r_3 => ((r_3 = (nI 0) → (q_X7_readNumber_61 a1 a2 k S x3 x4)) ∧ (¬ r_3 = (nI 0) → (((nI 2) ≤ x5 → (q_X7_readNumber_52 a1 a2 k ih S x3 x4 x5)) ∧ (¬ (nI 2) ≤ x5 → (q_X7_peek S x3 (fun r_6 => (∀ x4_7 : Int32, x4_7 = ((((nI 10) * x4) + r_6) - (nI 48)) → (q_X7_readNumber_52 a1 a2 k ih S x3 x4_7 x5)))))))))))))) n_
theorem q_X7_readNumber_11_s (a1 : Int32) (a2 : Int32) (k : Int32 → St → Prop) (n_ : Nat) (S : St) (x3 : Int32) (x4 : Int32) (x5 : Int32) : q_X7_readNumber_11 a1 a2 k (n_ + 1) S x3 x4 x5 = (((nI 200) ≤ x5 → (q_X7_readNumber_61 a1 a2 k S x3 x4)) ∧ (¬ (nI 200) ≤ x5 → (q_X7_peek S x3 (fun r_2 => (q_X7_isDigit S r_2 (fun r_3 => ((r_3 = (nI 0) → (q_X7_readNumber_61 a1 a2 k S x3 x4)) ∧ (¬ r_3 = (nI 0) → (((nI 2) ≤ x5 → (q_X7_readNumber_52 a1 a2 k (q_X7_readNumber_11 a1 a2 k n_) S x3 x4 x5)) ∧ (¬ (nI 2) ≤ x5 → (q_X7_peek S x3 (fun r_6 => (∀ x4_7 : Int32, x4_7 = ((((nI 10) * x4) + r_6) - (nI 48)) → (q_X7_readNumber_52 a1 a2 k (q_X7_readNumber_11 a1 a2 k n_) S x3 x4_7 x5)))))))))))))) := rfl
set_option maxRecDepth 100000 in
set_option maxHeartbeats 4000000 in
theorem b_X7_readNumber_11 {p : Program} {l : Launch} {e : Env} {s : State} {m : MethodId} {args : Array Value} {below : List Frame} {meth : Method} {c : Code} {Z : ZT} (hi : injZ 68 Z) (C : Cxt (gX Z) p s m meth c args yX7_readNumber cX7_readNumber 6 (Option.some .int)) {a1 : Int32} {a2 : Int32} {k : Int32 → St → Prop}   : ∀ (n_ : Nat) (S : St) (x3 : Int32) (x4 : Int32) (x5 : Int32) (H : Heap) (locs : List Loc) (ls : Array Slot), va_P Z.1 vwCl (wl shX 68 Z S) H → va_S (aa 68 Z) s.heap H locs → lv_has ls 6 [(0, .ref (Z.2.2.1 1)), (1, .int a1), (2, .int a2), (3, .int x3), (4, .int x4), (5, .int x5)] → q_X7_readNumber_11 a1 a2 k n_ S x3 x4 x5 → W p l e (rmk 1 21) s m args below meth c H locs 0 0 (Qi below shX 68 Z args s k) (F0 m 11 ls []) := by
  have g := gokX hi
  have hx := C.1.1
  have hb := C.1.2.1
  intro n_
  induction n_ with
  | zero => intro S x3 x4 x5 H locs ls hP hS hl h; exact h.elim
  | succ n_ ih =>
    intro S x3 x4 x5 H locs ls hP hS hl h
    rw [q_X7_readNumber_11_s] at h
    refine lv_iload hx hb dX7_readNumber_11 (lv_at hl 5 rfl) ?_
    refine lv_sipush (v := (nI 200)) hx hb dX7_readNumber_13 (by decide) ?_
    refine lv_icmp_ge (tgt := 61) hx hb dX7_readNumber_16 (by decide) (fun c_1 => ?_) (fun c_1 => ?_)
    · have h := h.1 c_1
      exact b_X7_readNumber_61 hi C  _ _ _ _ _ _ hP hS (lv_sub hl [0, 1, 2, 3, 4] rfl) h
    · have h := h.2 c_1
      refine lv_aload_n hx hb dX7_readNumber_19 rfl (lv_at hl 0 rfl) ?_
      refine lv_iload_n hx hb dX7_readNumber_20 rfl (lv_at hl 3 rfl) ?_
      refine go_ip (run_V g C hP hS (c0 := 1) (As := [.int x3]) (rest := []) (c_X7_peek hi S x3 _ h) cal_X7_peek kML_X7_47 (by decide) rfl cfX7 ⟨rfl, rfl, Nat.le_of_ble_eq_true rfl, Nat.le_of_ble_eq_true rfl⟩ rfl rfl hl.1 (Nat.le_of_ble_eq_true rfl) dX7_readNumber_21) hS (fun r_2 H locs h hP hS => ?_)
      refine go_ip (run_S g C hP hS (As := [.int r_2]) (rest := []) (c_X7_isDigit hi S r_2 _ h) cal_X7_isDigit kML_X7_87 ⟨rfl, rfl, Nat.le_of_ble_eq_true rfl, Nat.le_of_ble_eq_true rfl⟩ rfl rfl hl.1 (Nat.le_of_ble_eq_true rfl) dX7_readNumber_24) hS (fun r_3 H locs h hP hS => ?_)
      obtain ⟨hbr_3, h⟩ := h
      refine lv_if_eq (tgt := 61) hx hb dX7_readNumber_27 (by decide) (fun c_4 => ?_) (fun c_4 => ?_)
      · have h := h.1 c_4
        exact b_X7_readNumber_61 hi C  _ _ _ _ _ _ hP hS (lv_sub hl [0, 1, 2, 3, 4] rfl) h
      · have h := h.2 c_4
        refine lv_iload hx hb dX7_readNumber_30 (lv_at hl 5 rfl) ?_
        refine lv_iconst (v := (nI 2)) hx hb dX7_readNumber_32 (by decide) ?_
        refine lv_icmp_ge (tgt := 52) hx hb dX7_readNumber_33 (by decide) (fun c_5 => ?_) (fun c_5 => ?_)
        · have h := h.1 c_5
          exact b_X7_readNumber_52 hi C ih _ _ _ _ _ _ _ hP hS (lv_sub hl [0, 1, 2, 3, 4, 5] rfl) h
        · have h := h.2 c_5
          refine lv_bipush (v := (nI 10)) hx hb dX7_readNumber_36 (by decide) ?_
          refine lv_iload hx hb dX7_readNumber_38 (lv_at hl 4 rfl) ?_
          refine lv_imul hx hb dX7_readNumber_40 ?_
          refine lv_aload_n hx hb dX7_readNumber_41 rfl (lv_at hl 0 rfl) ?_
          refine lv_iload_n hx hb dX7_readNumber_42 rfl (lv_at hl 3 rfl) ?_
          refine go_ip (run_V g C hP hS (c0 := 1) (As := [.int x3]) (rest := [.int ((nI 10) * x4)]) (c_X7_peek hi S x3 _ h) cal_X7_peek kML_X7_47 (by decide) rfl cfX7 ⟨rfl, rfl, Nat.le_of_ble_eq_true rfl, Nat.le_of_ble_eq_true rfl⟩ rfl rfl hl.1 (Nat.le_of_ble_eq_true rfl) dX7_readNumber_43) hS (fun r_6 H locs h hP hS => ?_)
          refine lv_iadd hx hb dX7_readNumber_46 ?_
          refine lv_bipush (v := (nI 48)) hx hb dX7_readNumber_47 (by decide) ?_
          refine lv_isub hx hb dX7_readNumber_49 ?_
          refine lv_topi (fun x4_7 ex4_7 => ?_)
          have h := h x4_7 ex4_7
          refine lv_istore (lv' := [(4, .int x4_7), (0, .ref (Z.2.2.1 1)), (1, .int a1), (2, .int a2), (3, .int x3), (5, .int x5)]) hx hb dX7_readNumber_50 hl (by decide) rfl (fun ls hl => ?_)
          exact b_X7_readNumber_52 hi C ih _ _ _ _ _ _ _ hP hS (lv_sub hl [1, 2, 3, 4, 0, 5] rfl) h
def q_X7_readNumber (S : St) (a1 : Int32) (a2 : Int32) (k : Int32 → St → Prop) : Prop := ∀ x3_1 : Int32, x3_1 = (S.1 1 4) → (∃ f_11, q_X7_readNumber_11 a1 a2 k f_11 S x3_1 (nI 0) (nI 0))
set_option maxRecDepth 100000 in
set_option maxHeartbeats 4000000 in
theorem c_X7_readNumber {l : Launch} {Z : ZT} (hi : injZ 68 Z) (S : St) (a1 : Int32) (a2 : Int32) (k : Int32 → St → Prop) (h : q_X7_readNumber S a1 a2 k) : Mi l shX 68 Z (gX Z) yX7_readNumber cX7_readNumber 6 (Option.some .int) (rmk 1 21) [.ref (Z.2.2.1 1), .int a1, .int a2] S k := by
  have g := gokX hi
  refine e_i (by decide) (Nat.le_of_ble_eq_true rfl) (lv := [(0, .ref (Z.2.2.1 1)), (1, .int a1), (2, .int a2)]) rfl (fun p e s m args below meth c C hP hS ls hl => ?_)
  have hx := C.1.1
  have hb := C.1.2.1
  unfold q_X7_readNumber at h
  refine lv_aload_n hx hb dX7_readNumber_0 rfl (lv_at hl 0 rfl) ?_
  refine s_gI g C hP 1 4 (by decide) rfl rfl cfX7 (by decide) kFL_X7_24 dX7_readNumber_1 ?_
  refine lv_topi (fun x3_1 ex3_1 => ?_)
  have h := h x3_1 ex3_1
  refine lv_istore_n (lv' := [(3, .int x3_1), (0, .ref (Z.2.2.1 1)), (1, .int a1), (2, .int a2)]) hx hb dX7_readNumber_4 rfl hl (by decide) rfl (fun ls hl => ?_)
  refine lv_iconst (v := (nI 0)) hx hb dX7_readNumber_5 (by decide) ?_
  refine lv_istore (lv' := [(4, .int (nI 0)), (3, .int x3_1), (0, .ref (Z.2.2.1 1)), (1, .int a1), (2, .int a2)]) hx hb dX7_readNumber_6 hl (by decide) rfl (fun ls hl => ?_)
  refine lv_iconst (v := (nI 0)) hx hb dX7_readNumber_8 (by decide) ?_
  refine lv_istore (lv' := [(5, .int (nI 0)), (4, .int (nI 0)), (3, .int x3_1), (0, .ref (Z.2.2.1 1)), (1, .int a1), (2, .int a2)]) hx hb dX7_readNumber_9 hl (by decide) rfl (fun ls hl => ?_)
  obtain ⟨f_11, h⟩ := h
  exact b_X7_readNumber_11 hi C  f_11 _ _ _ _ _ _ _ hP hS (lv_sub hl [3, 4, 5, 2, 1, 0] rfl) h
def q_X7_readNumbers_77 (a1 : Int32) (k : Int32 → St → Prop) (e_31 : St → Int32 → Int32 → Int32 → Prop) (S : St) (x2 : Int32) (x3 : Int32) (x4 : Int32) (t0 : Int32) : Prop := vp_in (x2 + x4) 23 ∧ (q_X7_readNumber S t0 (tbM.getD (x2 + x4).toNatClampNeg 0) (fun r_2 S_3 => ((r_2 = (-1 : Int32) → (k (nI 0) S_3)) ∧ (¬ r_2 = (-1 : Int32) → (vp_in x4 6 ∧ (∀ S_6 : St, S_6 = sI S_3 3 x4.toNatClampNeg r_2 → (∀ x4_7 : Int32, x4_7 = x4 + (nI 1) → (e_31 S_6 x2 x3 x4_7))))))))
set_option maxRecDepth 100000 in
set_option maxHeartbeats 4000000 in
theorem b_X7_readNumbers_77 {p : Program} {l : Launch} {e : Env} {s : State} {m : MethodId} {args : Array Value} {below : List Frame} {meth : Method} {c : Code} {Z : ZT} (hi : injZ 68 Z) (C : Cxt (gX Z) p s m meth c args yX7_readNumbers cX7_readNumbers 7 (Option.some .boolean)) {a1 : Int32} {k : Int32 → St → Prop} {e_31 : St → Int32 → Int32 → Int32 → Prop}  (he_31 : ∀ (S : St) (x2 : Int32) (x3 : Int32) (x4 : Int32) (H : Heap) (locs : List Loc) (ls : Array Slot), va_P Z.1 vwCl (wl shX 68 Z S) H → va_S (aa 68 Z) s.heap H locs → lv_has ls 7 [(0, .ref (Z.2.2.1 1)), (1, .int a1), (2, .int x2), (3, .int x3), (4, .int x4)] → e_31 S x2 x3 x4 → W p l e (rmk 2 46) s m args below meth c H locs 0 0 (Qi below shX 68 Z args s (fun r S' => (r = 0 ∨ r = 1) ∧ k r S')) (F0 m 31 ls [])) (S : St) (x2 : Int32) (x3 : Int32) (x4 : Int32) (t0 : Int32) (H : Heap) (locs : List Loc) (ls : Array Slot) (hP : va_P Z.1 vwCl (wl shX 68 Z S) H) (hS : va_S (aa 68 Z) s.heap H locs) (hl : lv_has ls 7 [(0, .ref (Z.2.2.1 1)), (1, .int a1), (2, .int x2), (3, .int x3), (4, .int x4)]) (h : q_X7_readNumbers_77 a1 k e_31 S x2 x3 x4 t0) : W p l e (rmk 2 46) s m args below meth c H locs 0 0 (Qi below shX 68 Z args s (fun r S' => (r = 0 ∨ r = 1) ∧ k r S')) (F0 m 77 ls [.int t0]) := by
  have g := gokX hi
  have hx := C.1.1
  have hb := C.1.2.1
  unfold q_X7_readNumbers_77 at h
  refine lv_istore (lv' := [(5, .int t0), (0, .ref (Z.2.2.1 1)), (1, .int a1), (2, .int x2), (3, .int x3), (4, .int x4)]) hx hb dX7_readNumbers_77 hl (by decide) rfl (fun ls hl => ?_)
  refine lv_aload_n hx hb dX7_readNumbers_79 rfl (lv_at hl 1 rfl) ?_
  refine lv_iload hx hb dX7_readNumbers_80 (lv_at hl 0 rfl) ?_
  refine s_gt (own := RX7) C hS C.2.2.2.2.2.2.2.1 (nstX C.2.2.2 9 rfl) dX7_readNumbers_82 ?_
  refine lv_iload_n hx hb dX7_readNumbers_85 rfl (lv_at hl 3 rfl) ?_
  refine lv_iload hx hb dX7_readNumbers_86 (lv_at hl 5 rfl) ?_
  refine lv_iadd hx hb dX7_readNumbers_88 ?_
  have hv_1 := h.1
  have h := h.2
  refine s_ta C hS C.2.2.2.2.2.2.2.1 hv_1 dX7_readNumbers_89 ?_
  refine go_i (run_V g C hP hS (c0 := 1) (As := [.int t0, .int (tbM.getD (x2 + x4).toNatClampNeg 0)]) (rest := []) (c_X7_readNumber hi S t0 (tbM.getD (x2 + x4).toNatClampNeg 0) _ h) cal_X7_readNumber kML_X7_83 (by decide) rfl cfX7 ⟨rfl, rfl, Nat.le_of_ble_eq_true rfl, Nat.le_of_ble_eq_true rfl⟩ rfl rfl hl.1 (Nat.le_of_ble_eq_true rfl) dX7_readNumbers_90) hS (fun r_2 S_3 H locs h hP hS => ?_)
  refine lv_istore (lv' := [(6, .int r_2), (5, .int t0), (0, .ref (Z.2.2.1 1)), (1, .int a1), (2, .int x2), (3, .int x3), (4, .int x4)]) hx hb dX7_readNumbers_93 hl (by decide) rfl (fun ls hl => ?_)
  refine lv_iload hx hb dX7_readNumbers_95 (lv_at hl 0 rfl) ?_
  refine lv_iconst (v := (-1 : Int32)) hx hb dX7_readNumbers_97 (by decide) ?_
  refine lv_icmp_ne (tgt := 103) hx hb dX7_readNumbers_98 (by decide) (fun c_4 => ?_) (fun c_4 => ?_)
  · have h := h.2 c_4
    refine lv_aload_n hx hb dX7_readNumbers_103 rfl (lv_at hl 2 rfl) ?_
    refine s_gR g C hP 1 1 3 (by decide) rfl rfl cfX7 (by decide) kFL_X7_15 dX7_readNumbers_104 ?_
    refine lv_iload hx hb dX7_readNumbers_107 (lv_at hl 6 rfl) ?_
    refine lv_iload hx hb dX7_readNumbers_109 (lv_at hl 0 rfl) ?_
    have hv_5 := h.1
    have h := h.2
    refine s_stI g C hP hS 3 (by decide) rfl hv_5 dX7_readNumbers_111 (fun H locs hP hS => ?_)
    obtain ⟨S_6, eS_6⟩ : ∃ z_ : St, z_ = sI S_3 3 x4.toNatClampNeg r_2 := ⟨_, rfl⟩
    rw [← eS_6] at hP
    have h := h S_6 eS_6
    obtain ⟨x4_7, ex4_7⟩ : ∃ y_ : Int32, y_ = x4 + (nI 1) := ⟨_, rfl⟩
    have h := h x4_7 ex4_7
    refine lv_iinc (v := x4_7) (lv' := [(4, .int x4_7), (6, .int r_2), (5, .int t0), (0, .ref (Z.2.2.1 1)), (1, .int a1), (2, .int x2), (3, .int x3)]) hx hb dX7_readNumbers_112 hl (k := 6) rfl (by rw [ex4_7]; rfl) (by decide) rfl (fun ls hl => ?_)
    refine lv_goto (tgt := 31) hx hb dX7_readNumbers_115 (by decide) ?_
    exact he_31 _ _ _ _ _ _ _ hP hS (lv_sub hl [3, 4, 5, 6, 0] rfl) h
  · have h := h.1 c_4
    refine lv_iconst (v := (nI 0)) hx hb dX7_readNumbers_101 (by decide) ?_
    exact s_rz C hP hS (nar_b (Or.inl rfl)) ⟨(Or.inl rfl), h⟩ dX7_readNumbers_102
def q_X7_readNumbers_31 (a1 : Int32) (k : Int32 → St → Prop) : Nat → St → Int32 → Int32 → Int32 → Prop := fun n_ => Nat.rec (motive := fun _ => St → Int32 → Int32 → Int32 → Prop) (fun _ _ _ _ => False) (fun _ ih => fun S x2 x3 x4 => (x3 ≤ x4 → (k (nI 1) S)) ∧ (¬ x3 ≤ x4 → (((nI 6) ≤ x4 → (k (nI 1) S)) ∧ (¬ (nI 6) ≤ x4 → (q_X7_skipBlanks S (fun S_3 => (q_X7_isEndOfHours S_3 a1 x4 (fun r_4 => ((r_4 = (nI 0) → (vp_in (x2 + x4) 23 ∧ (q_X7_readNumbers_77 a1 k ih S_3 x2 x3 x4 (tbL.getD (x2 + x4).toNatClampNeg 0)))) ∧ (¬ r_4 = (nI 0) → (vp_in (x4 - (nI 1)) 6 ∧ (q_X7_readNumbers_77 a1 k ih S_3 x2 x3 x4 (S_3.1 3 (x4 - (nI 1)).toNatClampNeg))))))))))))) n_
theorem q_X7_readNumbers_31_s (a1 : Int32) (k : Int32 → St → Prop) (n_ : Nat) (S : St) (x2 : Int32) (x3 : Int32) (x4 : Int32) : q_X7_readNumbers_31 a1 k (n_ + 1) S x2 x3 x4 = ((x3 ≤ x4 → (k (nI 1) S)) ∧ (¬ x3 ≤ x4 → (((nI 6) ≤ x4 → (k (nI 1) S)) ∧ (¬ (nI 6) ≤ x4 → (q_X7_skipBlanks S (fun S_3 => (q_X7_isEndOfHours S_3 a1 x4 (fun r_4 => ((r_4 = (nI 0) → (vp_in (x2 + x4) 23 ∧ (q_X7_readNumbers_77 a1 k (q_X7_readNumbers_31 a1 k n_) S_3 x2 x3 x4 (tbL.getD (x2 + x4).toNatClampNeg 0)))) ∧ (¬ r_4 = (nI 0) → (vp_in (x4 - (nI 1)) 6 ∧ (q_X7_readNumbers_77 a1 k (q_X7_readNumbers_31 a1 k n_) S_3 x2 x3 x4 (S_3.1 3 (x4 - (nI 1)).toNatClampNeg))))))))))))) := rfl
set_option maxRecDepth 100000 in
set_option maxHeartbeats 4000000 in
theorem b_X7_readNumbers_31 {p : Program} {l : Launch} {e : Env} {s : State} {m : MethodId} {args : Array Value} {below : List Frame} {meth : Method} {c : Code} {Z : ZT} (hi : injZ 68 Z) (C : Cxt (gX Z) p s m meth c args yX7_readNumbers cX7_readNumbers 7 (Option.some .boolean)) {a1 : Int32} {k : Int32 → St → Prop}   : ∀ (n_ : Nat) (S : St) (x2 : Int32) (x3 : Int32) (x4 : Int32) (H : Heap) (locs : List Loc) (ls : Array Slot), va_P Z.1 vwCl (wl shX 68 Z S) H → va_S (aa 68 Z) s.heap H locs → lv_has ls 7 [(0, .ref (Z.2.2.1 1)), (1, .int a1), (2, .int x2), (3, .int x3), (4, .int x4)] → q_X7_readNumbers_31 a1 k n_ S x2 x3 x4 → W p l e (rmk 2 46) s m args below meth c H locs 0 0 (Qi below shX 68 Z args s (fun r S' => (r = 0 ∨ r = 1) ∧ k r S')) (F0 m 31 ls []) := by
  have g := gokX hi
  have hx := C.1.1
  have hb := C.1.2.1
  intro n_
  induction n_ with
  | zero => intro S x2 x3 x4 H locs ls hP hS hl h; exact h.elim
  | succ n_ ih =>
    intro S x2 x3 x4 H locs ls hP hS hl h
    rw [q_X7_readNumbers_31_s] at h
    refine lv_iload hx hb dX7_readNumbers_31 (lv_at hl 4 rfl) ?_
    refine lv_iload_n hx hb dX7_readNumbers_33 rfl (lv_at hl 3 rfl) ?_
    refine lv_icmp_ge (tgt := 118) hx hb dX7_readNumbers_34 (by decide) (fun c_1 => ?_) (fun c_1 => ?_)
    · have h := h.1 c_1
      refine lv_iconst (v := (nI 1)) hx hb dX7_readNumbers_118 (by decide) ?_
      exact s_rz C hP hS (nar_b (Or.inr rfl)) ⟨(Or.inr rfl), h⟩ dX7_readNumbers_119
    · have h := h.2 c_1
      refine lv_iload hx hb dX7_readNumbers_37 (lv_at hl 4 rfl) ?_
      refine lv_bipush (v := (nI 6)) hx hb dX7_readNumbers_39 (by decide) ?_
      refine lv_icmp_ge (tgt := 118) hx hb dX7_readNumbers_41 (by decide) (fun c_2 => ?_) (fun c_2 => ?_)
      · have h := h.1 c_2
        refine lv_iconst (v := (nI 1)) hx hb dX7_readNumbers_118 (by decide) ?_
        exact s_rz C hP hS (nar_b (Or.inr rfl)) ⟨(Or.inr rfl), h⟩ dX7_readNumbers_119
      · have h := h.2 c_2
        refine lv_aload_n hx hb dX7_readNumbers_44 rfl (lv_at hl 0 rfl) ?_
        refine go_v (run_V g C hP hS (c0 := 1) (As := []) (rest := []) (c_X7_skipBlanks hi S _ h) cal_X7_skipBlanks kML_X7_30 (by decide) rfl cfX7 ⟨rfl, rfl, Nat.le_of_ble_eq_true rfl, Nat.le_of_ble_eq_true rfl⟩ rfl rfl hl.1 (Nat.le_of_ble_eq_true rfl) dX7_readNumbers_45) hS (fun S_3 H locs h hP hS => ?_)
        refine lv_iload_n hx hb dX7_readNumbers_48 rfl (lv_at hl 1 rfl) ?_
        refine lv_iload hx hb dX7_readNumbers_49 (lv_at hl 4 rfl) ?_
        refine go_ip (run_S g C hP hS (As := [.int a1, .int x4]) (rest := []) (c_X7_isEndOfHours hi S_3 a1 x4 _ h) cal_X7_isEndOfHours kML_X7_73 ⟨rfl, rfl, Nat.le_of_ble_eq_true rfl, Nat.le_of_ble_eq_true rfl⟩ rfl rfl hl.1 (Nat.le_of_ble_eq_true rfl) dX7_readNumbers_51) hS (fun r_4 H locs h hP hS => ?_)
        obtain ⟨hbr_4, h⟩ := h
        refine lv_if_eq (tgt := 69) hx hb dX7_readNumbers_54 (by decide) (fun c_5 => ?_) (fun c_5 => ?_)
        · have h := h.1 c_5
          refine s_gt (own := RX7) C hS C.2.2.2.2.2.2.1 (nstX C.2.2.2 8 rfl) dX7_readNumbers_69 ?_
          refine lv_iload_n hx hb dX7_readNumbers_72 rfl (lv_at hl 2 rfl) ?_
          refine lv_iload hx hb dX7_readNumbers_73 (lv_at hl 4 rfl) ?_
          refine lv_iadd hx hb dX7_readNumbers_75 ?_
          have hv_6 := h.1
          have h := h.2
          refine s_ta C hS C.2.2.2.2.2.2.1 hv_6 dX7_readNumbers_76 ?_
          exact b_X7_readNumbers_77 hi C ih _ _ _ _ _ _ _ _ hP hS (lv_sub hl [0, 1, 2, 3, 4] rfl) h
        · have h := h.2 c_5
          refine lv_aload_n hx hb dX7_readNumbers_57 rfl (lv_at hl 0 rfl) ?_
          refine s_gR g C hP 1 1 3 (by decide) rfl rfl cfX7 (by decide) kFL_X7_15 dX7_readNumbers_58 ?_
          refine lv_iload hx hb dX7_readNumbers_61 (lv_at hl 4 rfl) ?_
          refine lv_iconst (v := (nI 1)) hx hb dX7_readNumbers_63 (by decide) ?_
          refine lv_isub hx hb dX7_readNumbers_64 ?_
          have hv_7 := h.1
          have h := h.2
          refine s_aI g C hP 3 (by decide) rfl hv_7 dX7_readNumbers_65 ?_
          refine lv_goto (tgt := 77) hx hb dX7_readNumbers_66 (by decide) ?_
          exact b_X7_readNumbers_77 hi C ih _ _ _ _ _ _ _ _ hP hS (lv_sub hl [0, 1, 2, 3, 4] rfl) h
def q_X7_readNumbers (S : St) (a1 : Int32) (k : Int32 → St → Prop) : Prop := (a1 < (nI 0) → (k (nI 0) S)) ∧ (¬ a1 < (nI 0) → ((a1 < (nI 9) → (vp_in a1 10 ∧ (∀ x2_4 : Int32, x2_4 = (tbN.getD a1.toNatClampNeg 0) → (vp_in (a1 + (nI 1)) 10 ∧ (∀ x3_6 : Int32, x3_6 = ((tbN.getD (a1 + (nI 1)).toNatClampNeg 0) - x2_4) → (∃ f_31, q_X7_readNumbers_31 a1 k f_31 S x2_4 x3_6 (nI 0))))))) ∧ (¬ a1 < (nI 9) → (k (nI 0) S))))
set_option maxRecDepth 100000 in
set_option maxHeartbeats 4000000 in
theorem c_X7_readNumbers {l : Launch} {Z : ZT} (hi : injZ 68 Z) (S : St) (a1 : Int32) (k : Int32 → St → Prop) (h : q_X7_readNumbers S a1 k) : Mi l shX 68 Z (gX Z) yX7_readNumbers cX7_readNumbers 7 (Option.some .boolean) (rmk 2 46) [.ref (Z.2.2.1 1), .int a1] S (fun r S' => (r = 0 ∨ r = 1) ∧ k r S') := by
  have g := gokX hi
  refine e_i (by decide) (Nat.le_of_ble_eq_true rfl) (lv := [(0, .ref (Z.2.2.1 1)), (1, .int a1)]) rfl (fun p e s m args below meth c C hP hS ls hl => ?_)
  have hx := C.1.1
  have hb := C.1.2.1
  unfold q_X7_readNumbers at h
  refine lv_iload_n hx hb dX7_readNumbers_0 rfl (lv_at hl 1 rfl) ?_
  refine lv_if_lt (tgt := 10) hx hb dX7_readNumbers_1 (by decide) (fun c_1 => ?_) (fun c_1 => ?_)
  · have h := h.1 c_1
    refine lv_iconst (v := (nI 0)) hx hb dX7_readNumbers_10 (by decide) ?_
    exact s_rz C hP hS (nar_b (Or.inl rfl)) ⟨(Or.inl rfl), h⟩ dX7_readNumbers_11
  · have h := h.2 c_1
    refine lv_iload_n hx hb dX7_readNumbers_4 rfl (lv_at hl 1 rfl) ?_
    refine lv_bipush (v := (nI 9)) hx hb dX7_readNumbers_5 (by decide) ?_
    refine lv_icmp_lt (tgt := 12) hx hb dX7_readNumbers_7 (by decide) (fun c_2 => ?_) (fun c_2 => ?_)
    · have h := h.1 c_2
      refine s_gt (own := RX7) C hS C.2.2.2.2.2.1 (nstX C.2.2.2 7 rfl) dX7_readNumbers_12 ?_
      refine lv_iload_n hx hb dX7_readNumbers_15 rfl (lv_at hl 1 rfl) ?_
      have hv_3 := h.1
      have h := h.2
      refine s_ta C hS C.2.2.2.2.2.1 hv_3 dX7_readNumbers_16 ?_
      refine lv_topi (fun x2_4 ex2_4 => ?_)
      have h := h x2_4 ex2_4
      refine lv_istore_n (lv' := [(2, .int x2_4), (0, .ref (Z.2.2.1 1)), (1, .int a1)]) hx hb dX7_readNumbers_17 rfl hl (by decide) rfl (fun ls hl => ?_)
      refine s_gt (own := RX7) C hS C.2.2.2.2.2.1 (nstX C.2.2.2 7 rfl) dX7_readNumbers_18 ?_
      refine lv_iload_n hx hb dX7_readNumbers_21 rfl (lv_at hl 2 rfl) ?_
      refine lv_iconst (v := (nI 1)) hx hb dX7_readNumbers_22 (by decide) ?_
      refine lv_iadd hx hb dX7_readNumbers_23 ?_
      have hv_5 := h.1
      have h := h.2
      refine s_ta C hS C.2.2.2.2.2.1 hv_5 dX7_readNumbers_24 ?_
      refine lv_iload_n hx hb dX7_readNumbers_25 rfl (lv_at hl 0 rfl) ?_
      refine lv_isub hx hb dX7_readNumbers_26 ?_
      refine lv_topi (fun x3_6 ex3_6 => ?_)
      have h := h x3_6 ex3_6
      refine lv_istore_n (lv' := [(3, .int x3_6), (2, .int x2_4), (0, .ref (Z.2.2.1 1)), (1, .int a1)]) hx hb dX7_readNumbers_27 rfl hl (by decide) rfl (fun ls hl => ?_)
      refine lv_iconst (v := (nI 0)) hx hb dX7_readNumbers_28 (by decide) ?_
      refine lv_istore (lv' := [(4, .int (nI 0)), (3, .int x3_6), (2, .int x2_4), (0, .ref (Z.2.2.1 1)), (1, .int a1)]) hx hb dX7_readNumbers_29 hl (by decide) rfl (fun ls hl => ?_)
      obtain ⟨f_31, h⟩ := h
      exact b_X7_readNumbers_31 hi C  f_31 _ _ _ _ _ _ _ hP hS (lv_sub hl [3, 4, 2, 1, 0] rfl) h
    · have h := h.2 c_2
      refine lv_iconst (v := (nI 0)) hx hb dX7_readNumbers_10 (by decide) ?_
      exact s_rz C hP hS (nar_b (Or.inl rfl)) ⟨(Or.inl rfl), h⟩ dX7_readNumbers_11
def q_X7_readInto_n_63 (k : Int32 → St → Prop) (e_12 : St → Int32 → Prop) (S : St) (x2 : Int32) : Prop := q_X7_skipBlanks S (fun S_1 => (((S_1.1 1 4) < (S_1.1 1 2) → (q_X7_peek S_1 (S_1.1 1 4) (fun r_3 => ((r_3 = (nI 59) → (∀ S_5 : St, S_5 = sI S_1 1 4 ((S_1.1 1 4) + (nI 1)) → (∀ x2_6 : Int32, x2_6 = x2 + (nI 1) → (e_12 S_5 x2_6)))) ∧ (¬ r_3 = (nI 59) → (k (S_1.1 1 4) S_1)))))) ∧ (¬ (S_1.1 1 4) < (S_1.1 1 2) → (k (-1 : Int32) S_1))))
set_option maxRecDepth 100000 in
set_option maxHeartbeats 4000000 in
theorem b_X7_readInto_n_63 {p : Program} {l : Launch} {e : Env} {s : State} {m : MethodId} {args : Array Value} {below : List Frame} {meth : Method} {c : Code} {Z : ZT} (hi : injZ 68 Z) (C : Cxt (gX Z) p s m meth c args yX7_readInto cX7_readInto 4 (Option.some .int)) {k : Int32 → St → Prop} {e_12 : St → Int32 → Prop}  (he_12 : ∀ (S : St) (x2 : Int32) (H : Heap) (locs : List Loc) (ls : Array Slot), va_P Z.1 vwCl (wl shX 68 Z S) H → va_S (aa 68 Z) s.heap H locs → lv_has ls 4 [(0, .ref (Z.2.2.1 1)), (1, .null), (2, .int x2)] → e_12 S x2 → W p l e (rmk 6 130) s m args below meth c H locs 0 0 (Qi below shX 68 Z args s k) (F0 m 12 ls [])) (S : St) (x2 : Int32) (H : Heap) (locs : List Loc) (ls : Array Slot) (hP : va_P Z.1 vwCl (wl shX 68 Z S) H) (hS : va_S (aa 68 Z) s.heap H locs) (hl : lv_has ls 4 [(0, .ref (Z.2.2.1 1)), (1, .null), (2, .int x2)]) (h : q_X7_readInto_n_63 k e_12 S x2) : W p l e (rmk 6 130) s m args below meth c H locs 0 0 (Qi below shX 68 Z args s k) (F0 m 63 ls []) := by
  have g := gokX hi
  have hx := C.1.1
  have hb := C.1.2.1
  unfold q_X7_readInto_n_63 at h
  refine lv_aload_n hx hb dX7_readInto_63 rfl (lv_at hl 0 rfl) ?_
  refine go_v (run_V g C hP hS (c0 := 1) (As := []) (rest := []) (c_X7_skipBlanks hi S _ h) cal_X7_skipBlanks kML_X7_30 (by decide) rfl cfX7 ⟨rfl, rfl, Nat.le_of_ble_eq_true rfl, Nat.le_of_ble_eq_true rfl⟩ rfl rfl hl.1 (Nat.le_of_ble_eq_true rfl) dX7_readInto_64) hS (fun S_1 H locs h hP hS => ?_)
  refine lv_aload_n hx hb dX7_readInto_67 rfl (lv_at hl 0 rfl) ?_
  refine s_gI g C hP 1 4 (by decide) rfl rfl cfX7 (by decide) kFL_X7_24 dX7_readInto_68 ?_
  refine lv_aload_n hx hb dX7_readInto_71 rfl (lv_at hl 0 rfl) ?_
  refine s_gI g C hP 1 2 (by decide) rfl rfl cfX7 (by decide) kFL_X7_18 dX7_readInto_72 ?_
  refine lv_icmp_lt (tgt := 80) hx hb dX7_readInto_75 (by decide) (fun c_2 => ?_) (fun c_2 => ?_)
  · have h := h.1 c_2
    refine lv_aload_n hx hb dX7_readInto_80 rfl (lv_at hl 0 rfl) ?_
    refine lv_aload_n hx hb dX7_readInto_81 rfl (lv_at hl 0 rfl) ?_
    refine s_gI g C hP 1 4 (by decide) rfl rfl cfX7 (by decide) kFL_X7_24 dX7_readInto_82 ?_
    refine go_ip (run_V g C hP hS (c0 := 1) (As := [.int (S_1.1 1 4)]) (rest := []) (c_X7_peek hi S_1 (S_1.1 1 4) _ h) cal_X7_peek kML_X7_47 (by decide) rfl cfX7 ⟨rfl, rfl, Nat.le_of_ble_eq_true rfl, Nat.le_of_ble_eq_true rfl⟩ rfl rfl hl.1 (Nat.le_of_ble_eq_true rfl) dX7_readInto_85) hS (fun r_3 H locs h hP hS => ?_)
    refine lv_bipush (v := (nI 59)) hx hb dX7_readInto_88 (by decide) ?_
    refine lv_icmp_eq (tgt := 98) hx hb dX7_readInto_90 (by decide) (fun c_4 => ?_) (fun c_4 => ?_)
    · have h := h.1 c_4
      refine lv_aload_n hx hb dX7_readInto_98 rfl (lv_at hl 0 rfl) ?_
      refine lv_dup hx hb dX7_readInto_99 rfl ?_
      refine s_gI g C hP 1 4 (by decide) rfl rfl cfX7 (by decide) kFL_X7_24 dX7_readInto_100 ?_
      refine lv_iconst (v := (nI 1)) hx hb dX7_readInto_103 (by decide) ?_
      refine lv_iadd hx hb dX7_readInto_104 ?_
      refine s_pI g C hP hS 1 4 (by decide) rfl rfl cfX7 (by decide) rfl rfl rfl kFL_X7_24 dX7_readInto_105 (fun H locs hP hS => ?_)
      obtain ⟨S_5, eS_5⟩ : ∃ z_ : St, z_ = sI S_1 1 4 ((S_1.1 1 4) + (nI 1)) := ⟨_, rfl⟩
      rw [← eS_5] at hP
      have h := h S_5 eS_5
      obtain ⟨x2_6, ex2_6⟩ : ∃ y_ : Int32, y_ = x2 + (nI 1) := ⟨_, rfl⟩
      have h := h x2_6 ex2_6
      refine lv_iinc (v := x2_6) (lv' := [(2, .int x2_6), (0, .ref (Z.2.2.1 1)), (1, .null)]) hx hb dX7_readInto_108 hl (k := 2) rfl (by rw [ex2_6]; rfl) (by decide) rfl (fun ls hl => ?_)
      refine lv_goto (tgt := 12) hx hb dX7_readInto_111 (by decide) ?_
      exact he_12 _ _ _ _ _ hP hS (lv_sub hl [1, 2, 0] rfl) h
    · have h := h.2 c_4
      refine lv_aload_n hx hb dX7_readInto_93 rfl (lv_at hl 0 rfl) ?_
      refine s_gI g C hP 1 4 (by decide) rfl rfl cfX7 (by decide) kFL_X7_24 dX7_readInto_94 ?_
      exact s_ri C hP hS h dX7_readInto_97
  · have h := h.2 c_2
    refine lv_iconst (v := (-1 : Int32)) hx hb dX7_readInto_78 (by decide) ?_
    exact s_ri C hP hS h dX7_readInto_79
def q_X7_readInto_n_12 (k : Int32 → St → Prop) : Nat → St → Int32 → Prop := fun n_ => Nat.rec (motive := fun _ => St → Int32 → Prop) (fun _ _ => False) (fun _ ih => fun S x2 => ((nI 10) ≤ x2 → (k ((S.1 1 4) - (nI 1)) S)) ∧ (¬ (nI 10) ≤ x2 → (q_X7_skipBlanks S (fun S_2 => (q_X7_readWord S_2 (fun r_3 S_4 => (q_X7_readNumbers S_4 r_3 (fun r_5 S_6 => ((r_5 = (nI 0) → (k (S_6.1 1 4) S_6)) ∧ (¬ r_5 = (nI 0) → (∀ S_8 : St, S_8 = sI S_6 1 3 ((S_6.1 1 3) + (nI 1)) → (q_X7_readInto_n_63 k ih S_8 x2)))))))))))) n_
theorem q_X7_readInto_n_12_s (k : Int32 → St → Prop) (n_ : Nat) (S : St) (x2 : Int32) : q_X7_readInto_n_12 k (n_ + 1) S x2 = (((nI 10) ≤ x2 → (k ((S.1 1 4) - (nI 1)) S)) ∧ (¬ (nI 10) ≤ x2 → (q_X7_skipBlanks S (fun S_2 => (q_X7_readWord S_2 (fun r_3 S_4 => (q_X7_readNumbers S_4 r_3 (fun r_5 S_6 => ((r_5 = (nI 0) → (k (S_6.1 1 4) S_6)) ∧ (¬ r_5 = (nI 0) → (∀ S_8 : St, S_8 = sI S_6 1 3 ((S_6.1 1 3) + (nI 1)) → (q_X7_readInto_n_63 k (q_X7_readInto_n_12 k n_) S_8 x2)))))))))))) := rfl
set_option maxRecDepth 100000 in
set_option maxHeartbeats 4000000 in
theorem b_X7_readInto_n_12 {p : Program} {l : Launch} {e : Env} {s : State} {m : MethodId} {args : Array Value} {below : List Frame} {meth : Method} {c : Code} {Z : ZT} (hi : injZ 68 Z) (C : Cxt (gX Z) p s m meth c args yX7_readInto cX7_readInto 4 (Option.some .int)) {k : Int32 → St → Prop}   : ∀ (n_ : Nat) (S : St) (x2 : Int32) (H : Heap) (locs : List Loc) (ls : Array Slot), va_P Z.1 vwCl (wl shX 68 Z S) H → va_S (aa 68 Z) s.heap H locs → lv_has ls 4 [(0, .ref (Z.2.2.1 1)), (1, .null), (2, .int x2)] → q_X7_readInto_n_12 k n_ S x2 → W p l e (rmk 6 130) s m args below meth c H locs 0 0 (Qi below shX 68 Z args s k) (F0 m 12 ls []) := by
  have g := gokX hi
  have hx := C.1.1
  have hb := C.1.2.1
  intro n_
  induction n_ with
  | zero => intro S x2 H locs ls hP hS hl h; exact h.elim
  | succ n_ ih =>
    intro S x2 H locs ls hP hS hl h
    rw [q_X7_readInto_n_12_s] at h
    refine lv_iload_n hx hb dX7_readInto_12 rfl (lv_at hl 2 rfl) ?_
    refine lv_bipush (v := (nI 10)) hx hb dX7_readInto_13 (by decide) ?_
    refine lv_icmp_ge (tgt := 114) hx hb dX7_readInto_15 (by decide) (fun c_1 => ?_) (fun c_1 => ?_)
    · have h := h.1 c_1
      refine lv_aload_n hx hb dX7_readInto_114 rfl (lv_at hl 0 rfl) ?_
      refine s_gI g C hP 1 4 (by decide) rfl rfl cfX7 (by decide) kFL_X7_24 dX7_readInto_115 ?_
      refine lv_iconst (v := (nI 1)) hx hb dX7_readInto_118 (by decide) ?_
      refine lv_isub hx hb dX7_readInto_119 ?_
      exact s_ri C hP hS h dX7_readInto_120
    · have h := h.2 c_1
      refine lv_aload_n hx hb dX7_readInto_18 rfl (lv_at hl 0 rfl) ?_
      refine go_v (run_V g C hP hS (c0 := 1) (As := []) (rest := []) (c_X7_skipBlanks hi S _ h) cal_X7_skipBlanks kML_X7_30 (by decide) rfl cfX7 ⟨rfl, rfl, Nat.le_of_ble_eq_true rfl, Nat.le_of_ble_eq_true rfl⟩ rfl rfl hl.1 (Nat.le_of_ble_eq_true rfl) dX7_readInto_19) hS (fun S_2 H locs h hP hS => ?_)
      refine lv_aload_n hx hb dX7_readInto_22 rfl (lv_at hl 0 rfl) ?_
      refine go_i (run_V g C hP hS (c0 := 1) (As := []) (rest := []) (c_X7_readWord hi S_2 _ h) cal_X7_readWord kML_X7_33 (by decide) rfl cfX7 ⟨rfl, rfl, Nat.le_of_ble_eq_true rfl, Nat.le_of_ble_eq_true rfl⟩ rfl rfl hl.1 (Nat.le_of_ble_eq_true rfl) dX7_readInto_23) hS (fun r_3 S_4 H locs h hP hS => ?_)
      refine lv_istore_n (lv' := [(3, .int r_3), (0, .ref (Z.2.2.1 1)), (1, .null), (2, .int x2)]) hx hb dX7_readInto_26 rfl hl (by decide) rfl (fun ls hl => ?_)
      refine lv_aload_n hx hb dX7_readInto_27 rfl (lv_at hl 1 rfl) ?_
      refine lv_iload_n hx hb dX7_readInto_28 rfl (lv_at hl 0 rfl) ?_
      refine go_i (run_V g C hP hS (c0 := 1) (As := [.int r_3]) (rest := []) (c_X7_readNumbers hi S_4 r_3 _ h) cal_X7_readNumbers kML_X7_37 (by decide) rfl cfX7 ⟨rfl, rfl, Nat.le_of_ble_eq_true rfl, Nat.le_of_ble_eq_true rfl⟩ rfl rfl hl.1 (Nat.le_of_ble_eq_true rfl) dX7_readInto_29) hS (fun r_5 S_6 H locs h hP hS => ?_)
      obtain ⟨hbr_5, h⟩ := h
      refine lv_if_ne (tgt := 40) hx hb dX7_readInto_32 (by decide) (fun c_7 => ?_) (fun c_7 => ?_)
      · have h := h.2 c_7
        refine lv_aload_n hx hb dX7_readInto_40 rfl (lv_at hl 1 rfl) ?_
        refine lv_dup hx hb dX7_readInto_41 rfl ?_
        refine s_gI g C hP 1 3 (by decide) rfl rfl cfX7 (by decide) kFL_X7_27 dX7_readInto_42 ?_
        refine lv_iconst (v := (nI 1)) hx hb dX7_readInto_45 (by decide) ?_
        refine lv_iadd hx hb dX7_readInto_46 ?_
        refine s_pI g C hP hS 1 3 (by decide) rfl rfl cfX7 (by decide) rfl rfl rfl kFL_X7_27 dX7_readInto_47 (fun H locs hP hS => ?_)
        obtain ⟨S_8, eS_8⟩ : ∃ z_ : St, z_ = sI S_6 1 3 ((S_6.1 1 3) + (nI 1)) := ⟨_, rfl⟩
        rw [← eS_8] at hP
        have h := h S_8 eS_8
        refine lv_aload_nN hx hb dX7_readInto_50 rfl (lv_at hl 2 rfl) ?_
        refine lv_ifnullN (tgt := 63) hx hb dX7_readInto_51 (by decide) ?_
        exact b_X7_readInto_n_63 hi C ih _ _ _ _ _ hP hS (lv_sub hl [1, 2, 3] rfl) h
      · have h := h.1 c_7
        refine lv_aload_n hx hb dX7_readInto_35 rfl (lv_at hl 1 rfl) ?_
        refine s_gI g C hP 1 4 (by decide) rfl rfl cfX7 (by decide) kFL_X7_24 dX7_readInto_36 ?_
        exact s_ri C hP hS h dX7_readInto_39
def q_X7_readInto_n (S : St) (k : Int32 → St → Prop) : Prop := ∀ S_1 : St, S_1 = sI S 1 4 (nI 0) → (∀ S_2 : St, S_2 = sI S_1 1 3 (nI 0) → (∃ f_12, q_X7_readInto_n_12 k f_12 S_2 (nI 0)))
set_option maxRecDepth 100000 in
set_option maxHeartbeats 4000000 in
theorem c_X7_readInto_n {l : Launch} {Z : ZT} (hi : injZ 68 Z) (S : St) (k : Int32 → St → Prop) (h : q_X7_readInto_n S k) : Mi l shX 68 Z (gX Z) yX7_readInto cX7_readInto 4 (Option.some .int) (rmk 6 130) [.ref (Z.2.2.1 1), .null] S k := by
  have g := gokX hi
  refine e_i (by decide) (Nat.le_of_ble_eq_true rfl) (lv := [(0, .ref (Z.2.2.1 1)), (1, .null)]) rfl (fun p e s m args below meth c C hP hS ls hl => ?_)
  have hx := C.1.1
  have hb := C.1.2.1
  unfold q_X7_readInto_n at h
  refine lv_aload_n hx hb dX7_readInto_0 rfl (lv_at hl 0 rfl) ?_
  refine lv_iconst (v := (nI 0)) hx hb dX7_readInto_1 (by decide) ?_
  refine s_pI g C hP hS 1 4 (by decide) rfl rfl cfX7 (by decide) rfl rfl rfl kFL_X7_24 dX7_readInto_2 (fun H locs hP hS => ?_)
  obtain ⟨S_1, eS_1⟩ : ∃ z_ : St, z_ = sI S 1 4 (nI 0) := ⟨_, rfl⟩
  rw [← eS_1] at hP
  have h := h S_1 eS_1
  refine lv_aload_n hx hb dX7_readInto_5 rfl (lv_at hl 0 rfl) ?_
  refine lv_iconst (v := (nI 0)) hx hb dX7_readInto_6 (by decide) ?_
  refine s_pI g C hP hS 1 3 (by decide) rfl rfl cfX7 (by decide) rfl rfl rfl kFL_X7_27 dX7_readInto_7 (fun H locs hP hS => ?_)
  obtain ⟨S_2, eS_2⟩ : ∃ z_ : St, z_ = sI S_1 1 3 (nI 0) := ⟨_, rfl⟩
  rw [← eS_2] at hP
  have h := h S_2 eS_2
  refine lv_iconst (v := (nI 0)) hx hb dX7_readInto_10 (by decide) ?_
  refine lv_istore_n (lv' := [(2, .int (nI 0)), (0, .ref (Z.2.2.1 1)), (1, .null)]) hx hb dX7_readInto_11 rfl hl (by decide) rfl (fun ls hl => ?_)
  obtain ⟨f_12, h⟩ := h
  exact b_X7_readInto_n_12 hi C  f_12 _ _ _ _ _ hP hS (lv_sub hl [1, 2, 0] rfl) h
def q_X7_readInto_63 (k : Int32 → St → Prop) (e_12 : St → Int32 → Prop) (S : St) (x2 : Int32) : Prop := q_X7_skipBlanks S (fun S_1 => (((S_1.1 1 4) < (S_1.1 1 2) → (q_X7_peek S_1 (S_1.1 1 4) (fun r_3 => ((r_3 = (nI 59) → (∀ S_5 : St, S_5 = sI S_1 1 4 ((S_1.1 1 4) + (nI 1)) → (∀ x2_6 : Int32, x2_6 = x2 + (nI 1) → (e_12 S_5 x2_6)))) ∧ (¬ r_3 = (nI 59) → (k (S_1.1 1 4) S_1)))))) ∧ (¬ (S_1.1 1 4) < (S_1.1 1 2) → (k (-1 : Int32) S_1))))
set_option maxRecDepth 100000 in
set_option maxHeartbeats 4000000 in
theorem b_X7_readInto_63 {p : Program} {l : Launch} {e : Env} {s : State} {m : MethodId} {args : Array Value} {below : List Frame} {meth : Method} {c : Code} {Z : ZT} (hi : injZ 68 Z) (C : Cxt (gX Z) p s m meth c args yX7_readInto cX7_readInto 4 (Option.some .int)) {k : Int32 → St → Prop} {e_12 : St → Int32 → Prop}  (he_12 : ∀ (S : St) (x2 : Int32) (H : Heap) (locs : List Loc) (ls : Array Slot), va_P Z.1 vwCl (wl shX 68 Z S) H → va_S (aa 68 Z) s.heap H locs → lv_has ls 4 [(0, .ref (Z.2.2.1 1)), (1, .ref (Z.2.2.1 4)), (2, .int x2)] → e_12 S x2 → W p l e (rmk 6 130) s m args below meth c H locs 0 0 (Qi below shX 68 Z args s k) (F0 m 12 ls [])) (S : St) (x2 : Int32) (H : Heap) (locs : List Loc) (ls : Array Slot) (hP : va_P Z.1 vwCl (wl shX 68 Z S) H) (hS : va_S (aa 68 Z) s.heap H locs) (hl : lv_has ls 4 [(0, .ref (Z.2.2.1 1)), (1, .ref (Z.2.2.1 4)), (2, .int x2)]) (h : q_X7_readInto_63 k e_12 S x2) : W p l e (rmk 6 130) s m args below meth c H locs 0 0 (Qi below shX 68 Z args s k) (F0 m 63 ls []) := by
  have g := gokX hi
  have hx := C.1.1
  have hb := C.1.2.1
  unfold q_X7_readInto_63 at h
  refine lv_aload_n hx hb dX7_readInto_63 rfl (lv_at hl 0 rfl) ?_
  refine go_v (run_V g C hP hS (c0 := 1) (As := []) (rest := []) (c_X7_skipBlanks hi S _ h) cal_X7_skipBlanks kML_X7_30 (by decide) rfl cfX7 ⟨rfl, rfl, Nat.le_of_ble_eq_true rfl, Nat.le_of_ble_eq_true rfl⟩ rfl rfl hl.1 (Nat.le_of_ble_eq_true rfl) dX7_readInto_64) hS (fun S_1 H locs h hP hS => ?_)
  refine lv_aload_n hx hb dX7_readInto_67 rfl (lv_at hl 0 rfl) ?_
  refine s_gI g C hP 1 4 (by decide) rfl rfl cfX7 (by decide) kFL_X7_24 dX7_readInto_68 ?_
  refine lv_aload_n hx hb dX7_readInto_71 rfl (lv_at hl 0 rfl) ?_
  refine s_gI g C hP 1 2 (by decide) rfl rfl cfX7 (by decide) kFL_X7_18 dX7_readInto_72 ?_
  refine lv_icmp_lt (tgt := 80) hx hb dX7_readInto_75 (by decide) (fun c_2 => ?_) (fun c_2 => ?_)
  · have h := h.1 c_2
    refine lv_aload_n hx hb dX7_readInto_80 rfl (lv_at hl 0 rfl) ?_
    refine lv_aload_n hx hb dX7_readInto_81 rfl (lv_at hl 0 rfl) ?_
    refine s_gI g C hP 1 4 (by decide) rfl rfl cfX7 (by decide) kFL_X7_24 dX7_readInto_82 ?_
    refine go_ip (run_V g C hP hS (c0 := 1) (As := [.int (S_1.1 1 4)]) (rest := []) (c_X7_peek hi S_1 (S_1.1 1 4) _ h) cal_X7_peek kML_X7_47 (by decide) rfl cfX7 ⟨rfl, rfl, Nat.le_of_ble_eq_true rfl, Nat.le_of_ble_eq_true rfl⟩ rfl rfl hl.1 (Nat.le_of_ble_eq_true rfl) dX7_readInto_85) hS (fun r_3 H locs h hP hS => ?_)
    refine lv_bipush (v := (nI 59)) hx hb dX7_readInto_88 (by decide) ?_
    refine lv_icmp_eq (tgt := 98) hx hb dX7_readInto_90 (by decide) (fun c_4 => ?_) (fun c_4 => ?_)
    · have h := h.1 c_4
      refine lv_aload_n hx hb dX7_readInto_98 rfl (lv_at hl 0 rfl) ?_
      refine lv_dup hx hb dX7_readInto_99 rfl ?_
      refine s_gI g C hP 1 4 (by decide) rfl rfl cfX7 (by decide) kFL_X7_24 dX7_readInto_100 ?_
      refine lv_iconst (v := (nI 1)) hx hb dX7_readInto_103 (by decide) ?_
      refine lv_iadd hx hb dX7_readInto_104 ?_
      refine s_pI g C hP hS 1 4 (by decide) rfl rfl cfX7 (by decide) rfl rfl rfl kFL_X7_24 dX7_readInto_105 (fun H locs hP hS => ?_)
      obtain ⟨S_5, eS_5⟩ : ∃ z_ : St, z_ = sI S_1 1 4 ((S_1.1 1 4) + (nI 1)) := ⟨_, rfl⟩
      rw [← eS_5] at hP
      have h := h S_5 eS_5
      obtain ⟨x2_6, ex2_6⟩ : ∃ y_ : Int32, y_ = x2 + (nI 1) := ⟨_, rfl⟩
      have h := h x2_6 ex2_6
      refine lv_iinc (v := x2_6) (lv' := [(2, .int x2_6), (0, .ref (Z.2.2.1 1)), (1, .ref (Z.2.2.1 4))]) hx hb dX7_readInto_108 hl (k := 2) rfl (by rw [ex2_6]; rfl) (by decide) rfl (fun ls hl => ?_)
      refine lv_goto (tgt := 12) hx hb dX7_readInto_111 (by decide) ?_
      exact he_12 _ _ _ _ _ hP hS (lv_sub hl [1, 2, 0] rfl) h
    · have h := h.2 c_4
      refine lv_aload_n hx hb dX7_readInto_93 rfl (lv_at hl 0 rfl) ?_
      refine s_gI g C hP 1 4 (by decide) rfl rfl cfX7 (by decide) kFL_X7_24 dX7_readInto_94 ?_
      exact s_ri C hP hS h dX7_readInto_97
  · have h := h.2 c_2
    refine lv_iconst (v := (-1 : Int32)) hx hb dX7_readInto_78 (by decide) ?_
    exact s_ri C hP hS h dX7_readInto_79
def q_X7_readInto_12 (k : Int32 → St → Prop) : Nat → St → Int32 → Prop := fun n_ => Nat.rec (motive := fun _ => St → Int32 → Prop) (fun _ _ => False) (fun _ ih => fun S x2 => ((nI 10) ≤ x2 → (k ((S.1 1 4) - (nI 1)) S)) ∧ (¬ (nI 10) ≤ x2 → (q_X7_skipBlanks S (fun S_2 => (q_X7_readWord S_2 (fun r_3 S_4 => (q_X7_readNumbers S_4 r_3 (fun r_5 S_6 => ((r_5 = (nI 0) → (k (S_6.1 1 4) S_6)) ∧ (¬ r_5 = (nI 0) → (∀ S_8 : St, S_8 = sI S_6 1 3 ((S_6.1 1 3) + (nI 1)) → (q_X4_tell S_8 r_3 (fun S_9 => (q_X7_readInto_63 k ih S_9 x2)))))))))))))) n_
theorem q_X7_readInto_12_s (k : Int32 → St → Prop) (n_ : Nat) (S : St) (x2 : Int32) : q_X7_readInto_12 k (n_ + 1) S x2 = (((nI 10) ≤ x2 → (k ((S.1 1 4) - (nI 1)) S)) ∧ (¬ (nI 10) ≤ x2 → (q_X7_skipBlanks S (fun S_2 => (q_X7_readWord S_2 (fun r_3 S_4 => (q_X7_readNumbers S_4 r_3 (fun r_5 S_6 => ((r_5 = (nI 0) → (k (S_6.1 1 4) S_6)) ∧ (¬ r_5 = (nI 0) → (∀ S_8 : St, S_8 = sI S_6 1 3 ((S_6.1 1 3) + (nI 1)) → (q_X4_tell S_8 r_3 (fun S_9 => (q_X7_readInto_63 k (q_X7_readInto_12 k n_) S_9 x2)))))))))))))) := rfl
set_option maxRecDepth 100000 in
set_option maxHeartbeats 4000000 in
theorem b_X7_readInto_12 {p : Program} {l : Launch} {e : Env} {s : State} {m : MethodId} {args : Array Value} {below : List Frame} {meth : Method} {c : Code} {Z : ZT} (hi : injZ 68 Z) (C : Cxt (gX Z) p s m meth c args yX7_readInto cX7_readInto 4 (Option.some .int)) {k : Int32 → St → Prop}   : ∀ (n_ : Nat) (S : St) (x2 : Int32) (H : Heap) (locs : List Loc) (ls : Array Slot), va_P Z.1 vwCl (wl shX 68 Z S) H → va_S (aa 68 Z) s.heap H locs → lv_has ls 4 [(0, .ref (Z.2.2.1 1)), (1, .ref (Z.2.2.1 4)), (2, .int x2)] → q_X7_readInto_12 k n_ S x2 → W p l e (rmk 6 130) s m args below meth c H locs 0 0 (Qi below shX 68 Z args s k) (F0 m 12 ls []) := by
  have g := gokX hi
  have hx := C.1.1
  have hb := C.1.2.1
  intro n_
  induction n_ with
  | zero => intro S x2 H locs ls hP hS hl h; exact h.elim
  | succ n_ ih =>
    intro S x2 H locs ls hP hS hl h
    rw [q_X7_readInto_12_s] at h
    refine lv_iload_n hx hb dX7_readInto_12 rfl (lv_at hl 2 rfl) ?_
    refine lv_bipush (v := (nI 10)) hx hb dX7_readInto_13 (by decide) ?_
    refine lv_icmp_ge (tgt := 114) hx hb dX7_readInto_15 (by decide) (fun c_1 => ?_) (fun c_1 => ?_)
    · have h := h.1 c_1
      refine lv_aload_n hx hb dX7_readInto_114 rfl (lv_at hl 0 rfl) ?_
      refine s_gI g C hP 1 4 (by decide) rfl rfl cfX7 (by decide) kFL_X7_24 dX7_readInto_115 ?_
      refine lv_iconst (v := (nI 1)) hx hb dX7_readInto_118 (by decide) ?_
      refine lv_isub hx hb dX7_readInto_119 ?_
      exact s_ri C hP hS h dX7_readInto_120
    · have h := h.2 c_1
      refine lv_aload_n hx hb dX7_readInto_18 rfl (lv_at hl 0 rfl) ?_
      refine go_v (run_V g C hP hS (c0 := 1) (As := []) (rest := []) (c_X7_skipBlanks hi S _ h) cal_X7_skipBlanks kML_X7_30 (by decide) rfl cfX7 ⟨rfl, rfl, Nat.le_of_ble_eq_true rfl, Nat.le_of_ble_eq_true rfl⟩ rfl rfl hl.1 (Nat.le_of_ble_eq_true rfl) dX7_readInto_19) hS (fun S_2 H locs h hP hS => ?_)
      refine lv_aload_n hx hb dX7_readInto_22 rfl (lv_at hl 0 rfl) ?_
      refine go_i (run_V g C hP hS (c0 := 1) (As := []) (rest := []) (c_X7_readWord hi S_2 _ h) cal_X7_readWord kML_X7_33 (by decide) rfl cfX7 ⟨rfl, rfl, Nat.le_of_ble_eq_true rfl, Nat.le_of_ble_eq_true rfl⟩ rfl rfl hl.1 (Nat.le_of_ble_eq_true rfl) dX7_readInto_23) hS (fun r_3 S_4 H locs h hP hS => ?_)
      refine lv_istore_n (lv' := [(3, .int r_3), (0, .ref (Z.2.2.1 1)), (1, .ref (Z.2.2.1 4)), (2, .int x2)]) hx hb dX7_readInto_26 rfl hl (by decide) rfl (fun ls hl => ?_)
      refine lv_aload_n hx hb dX7_readInto_27 rfl (lv_at hl 1 rfl) ?_
      refine lv_iload_n hx hb dX7_readInto_28 rfl (lv_at hl 0 rfl) ?_
      refine go_i (run_V g C hP hS (c0 := 1) (As := [.int r_3]) (rest := []) (c_X7_readNumbers hi S_4 r_3 _ h) cal_X7_readNumbers kML_X7_37 (by decide) rfl cfX7 ⟨rfl, rfl, Nat.le_of_ble_eq_true rfl, Nat.le_of_ble_eq_true rfl⟩ rfl rfl hl.1 (Nat.le_of_ble_eq_true rfl) dX7_readInto_29) hS (fun r_5 S_6 H locs h hP hS => ?_)
      obtain ⟨hbr_5, h⟩ := h
      refine lv_if_ne (tgt := 40) hx hb dX7_readInto_32 (by decide) (fun c_7 => ?_) (fun c_7 => ?_)
      · have h := h.2 c_7
        refine lv_aload_n hx hb dX7_readInto_40 rfl (lv_at hl 1 rfl) ?_
        refine lv_dup hx hb dX7_readInto_41 rfl ?_
        refine s_gI g C hP 1 3 (by decide) rfl rfl cfX7 (by decide) kFL_X7_27 dX7_readInto_42 ?_
        refine lv_iconst (v := (nI 1)) hx hb dX7_readInto_45 (by decide) ?_
        refine lv_iadd hx hb dX7_readInto_46 ?_
        refine s_pI g C hP hS 1 3 (by decide) rfl rfl cfX7 (by decide) rfl rfl rfl kFL_X7_27 dX7_readInto_47 (fun H locs hP hS => ?_)
        obtain ⟨S_8, eS_8⟩ : ∃ z_ : St, z_ = sI S_6 1 3 ((S_6.1 1 3) + (nI 1)) := ⟨_, rfl⟩
        rw [← eS_8] at hP
        have h := h S_8 eS_8
        refine lv_aload_n hx hb dX7_readInto_50 rfl (lv_at hl 2 rfl) ?_
        refine lv_ifnull hx hb dX7_readInto_51 ?_
        refine lv_aload_n hx hb dX7_readInto_54 rfl (lv_at hl 2 rfl) ?_
        refine lv_iload_n hx hb dX7_readInto_55 rfl (lv_at hl 0 rfl) ?_
        refine lv_aload_n hx hb dX7_readInto_56 rfl (lv_at hl 1 rfl) ?_
        refine s_gR g C hP 1 1 3 (by decide) rfl rfl cfX7 (by decide) kFL_X7_15 dX7_readInto_57 ?_
        refine go_v (run_V g C hP hS (c0 := 4) (As := [.int r_3, .ref (Z.2.2.1 3)]) (rest := []) (c_X4_tell hi S_8 r_3 _ h) cal_X4_tell kML_X7_41 (by decide) rfl cfX4 ⟨rfl, rfl, Nat.le_of_ble_eq_true rfl, Nat.le_of_ble_eq_true rfl⟩ rfl rfl hl.1 (Nat.le_of_ble_eq_true rfl) dX7_readInto_60) hS (fun S_9 H locs h hP hS => ?_)
        exact b_X7_readInto_63 hi C ih _ _ _ _ _ hP hS (lv_sub hl [1, 2, 3] rfl) h
      · have h := h.1 c_7
        refine lv_aload_n hx hb dX7_readInto_35 rfl (lv_at hl 1 rfl) ?_
        refine s_gI g C hP 1 4 (by decide) rfl rfl cfX7 (by decide) kFL_X7_24 dX7_readInto_36 ?_
        exact s_ri C hP hS h dX7_readInto_39
def q_X7_readInto (S : St) (k : Int32 → St → Prop) : Prop := ∀ S_1 : St, S_1 = sI S 1 4 (nI 0) → (∀ S_2 : St, S_2 = sI S_1 1 3 (nI 0) → (∃ f_12, q_X7_readInto_12 k f_12 S_2 (nI 0)))
set_option maxRecDepth 100000 in
set_option maxHeartbeats 4000000 in
theorem c_X7_readInto {l : Launch} {Z : ZT} (hi : injZ 68 Z) (S : St) (k : Int32 → St → Prop) (h : q_X7_readInto S k) : Mi l shX 68 Z (gX Z) yX7_readInto cX7_readInto 4 (Option.some .int) (rmk 6 130) [.ref (Z.2.2.1 1), .ref (Z.2.2.1 4)] S k := by
  have g := gokX hi
  refine e_i (by decide) (Nat.le_of_ble_eq_true rfl) (lv := [(0, .ref (Z.2.2.1 1)), (1, .ref (Z.2.2.1 4))]) rfl (fun p e s m args below meth c C hP hS ls hl => ?_)
  have hx := C.1.1
  have hb := C.1.2.1
  unfold q_X7_readInto at h
  refine lv_aload_n hx hb dX7_readInto_0 rfl (lv_at hl 0 rfl) ?_
  refine lv_iconst (v := (nI 0)) hx hb dX7_readInto_1 (by decide) ?_
  refine s_pI g C hP hS 1 4 (by decide) rfl rfl cfX7 (by decide) rfl rfl rfl kFL_X7_24 dX7_readInto_2 (fun H locs hP hS => ?_)
  obtain ⟨S_1, eS_1⟩ : ∃ z_ : St, z_ = sI S 1 4 (nI 0) := ⟨_, rfl⟩
  rw [← eS_1] at hP
  have h := h S_1 eS_1
  refine lv_aload_n hx hb dX7_readInto_5 rfl (lv_at hl 0 rfl) ?_
  refine lv_iconst (v := (nI 0)) hx hb dX7_readInto_6 (by decide) ?_
  refine s_pI g C hP hS 1 3 (by decide) rfl rfl cfX7 (by decide) rfl rfl rfl kFL_X7_27 dX7_readInto_7 (fun H locs hP hS => ?_)
  obtain ⟨S_2, eS_2⟩ : ∃ z_ : St, z_ = sI S_1 1 3 (nI 0) := ⟨_, rfl⟩
  rw [← eS_2] at hP
  have h := h S_2 eS_2
  refine lv_iconst (v := (nI 0)) hx hb dX7_readInto_10 (by decide) ?_
  refine lv_istore_n (lv' := [(2, .int (nI 0)), (0, .ref (Z.2.2.1 1)), (1, .ref (Z.2.2.1 4))]) hx hb dX7_readInto_11 rfl hl (by decide) rfl (fun ls hl => ?_)
  obtain ⟨f_12, h⟩ := h
  exact b_X7_readInto_12 hi C  f_12 _ _ _ _ _ hP hS (lv_sub hl [1, 2, 0] rfl) h
