def q_X8_write (S : St) (a1 : Int64) (a2 : Int32) (k : Int32 → St → Prop) : Prop := (a2 < (nI 1) → (k (-3 : Int32) S)) ∧ (¬ a2 < (nI 1) → ((a2 ≤ (nI 8) → (q_X7_hasRoom S a2 (fun r_3 => ((r_3 = (nI 0) → (k (-5 : Int32) S)) ∧ (¬ r_3 = (nI 0) → (q_X7_append S a1 a2 (fun S_5 => (k (S_5.1 1 2) S_5)))))))) ∧ (¬ a2 ≤ (nI 8) → (k (-3 : Int32) S))))
set_option maxRecDepth 100000 in
set_option maxHeartbeats 4000000 in
theorem c_X8_write {l : Launch} {Z : ZT} (hi : injZ 68 Z) (S : St) (a1 : Int64) (a2 : Int32) (k : Int32 → St → Prop) (h : q_X8_write S a1 a2 k) : Mi l shX 68 Z (gX Z) yX8_write cX8_write 4 (Option.some .int) (rmk 1 24) [.ref (Z.2.2.1 0), .long a1, .int a2] S k := by
  have g := gokX hi
  refine e_i (by decide) (Nat.le_of_ble_eq_true rfl) (lv := [(0, .ref (Z.2.2.1 0)), (1, .long a1), (3, .int a2)]) rfl (fun p e s m args below meth c C hP hS ls hl => ?_)
  have hx := C.1.1
  have hb := C.1.2.1
  unfold q_X8_write at h
  refine lv_iload_n hx hb dX8_write_0 rfl (lv_at hl 2 rfl) ?_
  refine lv_iconst (v := (nI 1)) hx hb dX8_write_1 (by decide) ?_
  refine lv_icmp_lt (tgt := 11) hx hb dX8_write_2 (by decide) (fun c_1 => ?_) (fun c_1 => ?_)
  · have h := h.1 c_1
    refine lv_bipush (v := (-3 : Int32)) hx hb dX8_write_11 (by decide) ?_
    exact s_ri C hP hS h dX8_write_13
  · have h := h.2 c_1
    refine lv_iload_n hx hb dX8_write_5 rfl (lv_at hl 2 rfl) ?_
    refine lv_bipush (v := (nI 8)) hx hb dX8_write_6 (by decide) ?_
    refine lv_icmp_le (tgt := 14) hx hb dX8_write_8 (by decide) (fun c_2 => ?_) (fun c_2 => ?_)
    · have h := h.1 c_2
      refine lv_aload_n hx hb dX8_write_14 rfl (lv_at hl 0 rfl) ?_
      refine s_gR g C hP 0 0 1 (by decide) rfl rfl cfX8 (by decide) kFL_X8_12 dX8_write_15 ?_
      refine lv_iload_n hx hb dX8_write_18 rfl (lv_at hl 2 rfl) ?_
      refine go_ip (run_V g C hP hS (c0 := 1) (As := [.int a2]) (rest := []) (c_X7_hasRoom hi S a2 _ h) cal_X7_hasRoom kML_X8_64 (by decide) rfl cfX7 ⟨rfl, rfl, Nat.le_of_ble_eq_true rfl, Nat.le_of_ble_eq_true rfl⟩ rfl rfl hl.1 (Nat.le_of_ble_eq_true rfl) dX8_write_19) hS (fun r_3 H locs h hP hS => ?_)
      obtain ⟨hbr_3, h⟩ := h
      refine lv_if_ne (tgt := 28) hx hb dX8_write_22 (by decide) (fun c_4 => ?_) (fun c_4 => ?_)
      · have h := h.2 c_4
        refine lv_aload_n hx hb dX8_write_28 rfl (lv_at hl 0 rfl) ?_
        refine s_gR g C hP 0 0 1 (by decide) rfl rfl cfX8 (by decide) kFL_X8_12 dX8_write_29 ?_
        refine lv_lload_n hx hb dX8_write_32 rfl (lv_at hl 1 rfl) ?_
        refine lv_iload_n hx hb dX8_write_33 rfl (lv_at hl 2 rfl) ?_
        refine go_v (run_V g C hP hS (c0 := 1) (As := [.long a1, .int a2]) (rest := []) (c_X7_append hi S a1 a2 _ h) cal_X7_append kML_X8_68 (by decide) rfl cfX7 ⟨rfl, rfl, Nat.le_of_ble_eq_true rfl, Nat.le_of_ble_eq_true rfl⟩ rfl rfl hl.1 (Nat.le_of_ble_eq_true rfl) dX8_write_34) hS (fun S_5 H locs h hP hS => ?_)
        refine lv_aload_n hx hb dX8_write_37 rfl (lv_at hl 0 rfl) ?_
        refine s_gR g C hP 0 0 1 (by decide) rfl rfl cfX8 (by decide) kFL_X8_12 dX8_write_38 ?_
        refine s_gI g C hP 1 2 (by decide) rfl rfl cfX7 (by decide) kFL_X8_72 dX8_write_41 ?_
        exact s_ri C hP hS h dX8_write_44
      · have h := h.1 c_4
        refine lv_bipush (v := (-5 : Int32)) hx hb dX8_write_25 (by decide) ?_
        exact s_ri C hP hS h dX8_write_27
    · have h := h.2 c_2
      refine lv_bipush (v := (-3 : Int32)) hx hb dX8_write_11 (by decide) ?_
      exact s_ri C hP hS h dX8_write_13
def q_X8_erase (S : St) (k : Int32 → St → Prop) : Prop := ∀ x1_1 : Int32, x1_1 = (S.1 1 2) → (∀ S_2 : St, S_2 = sI S 1 2 (nI 0) → (k x1_1 S_2))
set_option maxRecDepth 100000 in
set_option maxHeartbeats 4000000 in
theorem c_X8_erase {l : Launch} {Z : ZT} (hi : injZ 68 Z) (S : St) (k : Int32 → St → Prop) (h : q_X8_erase S k) : Mi l shX 68 Z (gX Z) yX8_erase cX8_erase 2 (Option.some .int) (rmk 0 0) [.ref (Z.2.2.1 0)] S k := by
  have g := gokX hi
  refine e_i (by decide) (Nat.le_of_ble_eq_true rfl) (lv := [(0, .ref (Z.2.2.1 0))]) rfl (fun p e s m args below meth c C hP hS ls hl => ?_)
  have hx := C.1.1
  have hb := C.1.2.1
  unfold q_X8_erase at h
  refine lv_aload_n hx hb dX8_erase_0 rfl (lv_at hl 0 rfl) ?_
  refine s_gR g C hP 0 0 1 (by decide) rfl rfl cfX8 (by decide) kFL_X8_12 dX8_erase_1 ?_
  refine s_gI g C hP 1 2 (by decide) rfl rfl cfX7 (by decide) kFL_X8_72 dX8_erase_4 ?_
  refine lv_topi (fun x1_1 ex1_1 => ?_)
  have h := h x1_1 ex1_1
  refine lv_istore_n (lv' := [(1, .int x1_1), (0, .ref (Z.2.2.1 0))]) hx hb dX8_erase_7 rfl hl (by decide) rfl (fun ls hl => ?_)
  refine lv_aload_n hx hb dX8_erase_8 rfl (lv_at hl 1 rfl) ?_
  refine s_gR g C hP 0 0 1 (by decide) rfl rfl cfX8 (by decide) kFL_X8_12 dX8_erase_9 ?_
  refine lv_iconst (v := (nI 0)) hx hb dX8_erase_12 (by decide) ?_
  refine s_pI g C hP hS 1 2 (by decide) rfl rfl cfX7 (by decide) rfl rfl rfl kFL_X8_72 dX8_erase_13 (fun H locs hP hS => ?_)
  obtain ⟨S_2, eS_2⟩ : ∃ z_ : St, z_ = sI S 1 2 (nI 0) := ⟨_, rfl⟩
  rw [← eS_2] at hP
  have h := h S_2 eS_2
  refine lv_iload_n hx hb dX8_erase_16 rfl (lv_at hl 0 rfl) ?_
  exact s_ri C hP hS h dX8_erase_17
def q_X8_fault (S : St) (k : Int32 → St → Prop) : Prop := q_X7_readInto_n S (fun r_1 S_2 => (k r_1 S_2))
set_option maxRecDepth 100000 in
set_option maxHeartbeats 4000000 in
theorem c_X8_fault {l : Launch} {Z : ZT} (hi : injZ 68 Z) (S : St) (k : Int32 → St → Prop) (h : q_X8_fault S k) : Mi l shX 68 Z (gX Z) yX8_fault cX8_fault 1 (Option.some .int) (rmk 7 153) [.ref (Z.2.2.1 0)] S k := by
  have g := gokX hi
  refine e_i (by decide) (Nat.le_of_ble_eq_true rfl) (lv := [(0, .ref (Z.2.2.1 0))]) rfl (fun p e s m args below meth c C hP hS ls hl => ?_)
  have hx := C.1.1
  have hb := C.1.2.1
  unfold q_X8_fault at h
  refine lv_aload_n hx hb dX8_fault_0 rfl (lv_at hl 0 rfl) ?_
  refine s_gR g C hP 0 0 1 (by decide) rfl rfl cfX8 (by decide) kFL_X8_12 dX8_fault_1 ?_
  refine lv_null hx hb dX8_fault_4 ?_
  refine go_i (run_V g C hP hS (c0 := 1) (As := [.null]) (rest := []) (c_X7_readInto_n hi S _ h) cal_X7_readInto kML_X8_76 (by decide) rfl cfX7 ⟨rfl, rfl, Nat.le_of_ble_eq_true rfl, Nat.le_of_ble_eq_true rfl⟩ rfl rfl hl.1 (Nat.le_of_ble_eq_true rfl) dX8_fault_5) hS (fun r_1 S_2 H locs h hP hS => ?_)
  exact s_ri C hP hS h dX8_fault_8
def q_X8_cliff (S : St) (k : Int32 → St → Prop) : Prop := q_X7_readInto_n S (fun r_1 S_2 => ((r_1 = (-1 : Int32) → (q_X7_readInto S_2 (fun r_4 S_5 => (∀ S_6 : St, S_6 = sI S_5 1 2 (nI 0) → (q_X0_draw S_6 (fun S_7 => (q_X1_stockShoals 1 S_7 (fun S_8 => (q_X1_become 0 1 S_8 (fun S_9 => (∀ S_10 : St, S_10 = sI S_9 0 7 (nI 0) → (q_X5_forget 0 S_10 (fun S_11 => (q_X5_forget 1 S_11 (fun S_12 => (k (S_12.1 1 3) S_12)))))))))))))))) ∧ (¬ r_1 = (-1 : Int32) → (k (-4 : Int32) S_2))))
set_option maxRecDepth 100000 in
set_option maxHeartbeats 4000000 in
theorem c_X8_cliff {l : Launch} {Z : ZT} (hi : injZ 68 Z) (S : St) (k : Int32 → St → Prop) (h : q_X8_cliff S k) : Mi l shX 68 Z (gX Z) yX8_cliff cX8_cliff 1 (Option.some .int) (rmk 7 153) [.ref (Z.2.2.1 0)] S k := by
  have g := gokX hi
  refine e_i (by decide) (Nat.le_of_ble_eq_true rfl) (lv := [(0, .ref (Z.2.2.1 0))]) rfl (fun p e s m args below meth c C hP hS ls hl => ?_)
  have hx := C.1.1
  have hb := C.1.2.1
  unfold q_X8_cliff at h
  refine lv_aload_n hx hb dX8_cliff_0 rfl (lv_at hl 0 rfl) ?_
  refine s_gR g C hP 0 0 1 (by decide) rfl rfl cfX8 (by decide) kFL_X8_12 dX8_cliff_1 ?_
  refine lv_null hx hb dX8_cliff_4 ?_
  refine go_i (run_V g C hP hS (c0 := 1) (As := [.null]) (rest := []) (c_X7_readInto_n hi S _ h) cal_X7_readInto kML_X8_76 (by decide) rfl cfX7 ⟨rfl, rfl, Nat.le_of_ble_eq_true rfl, Nat.le_of_ble_eq_true rfl⟩ rfl rfl hl.1 (Nat.le_of_ble_eq_true rfl) dX8_cliff_5) hS (fun r_1 S_2 H locs h hP hS => ?_)
  refine lv_iconst (v := (-1 : Int32)) hx hb dX8_cliff_8 (by decide) ?_
  refine lv_icmp_eq (tgt := 15) hx hb dX8_cliff_9 (by decide) (fun c_3 => ?_) (fun c_3 => ?_)
  · have h := h.1 c_3
    refine lv_aload_n hx hb dX8_cliff_15 rfl (lv_at hl 0 rfl) ?_
    refine s_gR g C hP 0 0 1 (by decide) rfl rfl cfX8 (by decide) kFL_X8_12 dX8_cliff_16 ?_
    refine lv_aload_n hx hb dX8_cliff_19 rfl (lv_at hl 0 rfl) ?_
    refine s_gR g C hP 0 1 4 (by decide) rfl rfl cfX8 (by decide) kFL_X8_19 dX8_cliff_20 ?_
    refine go_i (run_V g C hP hS (c0 := 1) (As := [.ref (Z.2.2.1 4)]) (rest := []) (c_X7_readInto hi S_2 _ h) cal_X7_readInto kML_X8_76 (by decide) rfl cfX7 ⟨rfl, rfl, Nat.le_of_ble_eq_true rfl, Nat.le_of_ble_eq_true rfl⟩ rfl rfl hl.1 (Nat.le_of_ble_eq_true rfl) dX8_cliff_23) hS (fun r_4 S_5 H locs h hP hS => ?_)
    refine lv_pop hx hb dX8_cliff_26 rfl ?_
    refine lv_aload_n hx hb dX8_cliff_27 rfl (lv_at hl 0 rfl) ?_
    refine s_gR g C hP 0 0 1 (by decide) rfl rfl cfX8 (by decide) kFL_X8_12 dX8_cliff_28 ?_
    refine lv_iconst (v := (nI 0)) hx hb dX8_cliff_31 (by decide) ?_
    refine s_pI g C hP hS 1 2 (by decide) rfl rfl cfX7 (by decide) rfl rfl rfl kFL_X8_72 dX8_cliff_32 (fun H locs hP hS => ?_)
    obtain ⟨S_6, eS_6⟩ : ∃ z_ : St, z_ = sI S_5 1 2 (nI 0) := ⟨_, rfl⟩
    rw [← eS_6] at hP
    have h := h S_6 eS_6
    refine lv_aload_n hx hb dX8_cliff_35 rfl (lv_at hl 0 rfl) ?_
    refine s_gR g C hP 0 2 19 (by decide) rfl rfl cfX8 (by decide) kFL_X8_26 dX8_cliff_36 ?_
    refine lv_aload_n hx hb dX8_cliff_39 rfl (lv_at hl 0 rfl) ?_
    refine s_gR g C hP 0 1 4 (by decide) rfl rfl cfX8 (by decide) kFL_X8_19 dX8_cliff_40 ?_
    refine go_v (run_V g C hP hS (c0 := 19) (As := [.ref (Z.2.2.1 4)]) (rest := []) (c_X0_draw hi S_6 _ h) cal_X0_draw kML_X8_80 (by decide) rfl cfX0 ⟨rfl, rfl, Nat.le_of_ble_eq_true rfl, Nat.le_of_ble_eq_true rfl⟩ rfl rfl hl.1 (Nat.le_of_ble_eq_true rfl) dX8_cliff_43) hS (fun S_7 H locs h hP hS => ?_)
    refine lv_aload_n hx hb dX8_cliff_46 rfl (lv_at hl 0 rfl) ?_
    refine s_gR g C hP 0 4 (33 + 7 * 1) (by decide) rfl rfl cfX8 (by decide) kFL_X8_37 dX8_cliff_47 ?_
    refine lv_aload_n hx hb dX8_cliff_50 rfl (lv_at hl 0 rfl) ?_
    refine s_gR g C hP 0 1 4 (by decide) rfl rfl cfX8 (by decide) kFL_X8_19 dX8_cliff_51 ?_
    refine go_v (run_V g C hP hS (c0 := (33 + 7 * 1)) (As := [.ref (Z.2.2.1 4)]) (rest := []) (c_X1_stockShoals hi 1 (by decide) S_7 _ h) cal_X1_stockShoals kML_X8_84 (ltX_day (d := 1) (by decide)) (shX_day (d := 1) (by decide)) cfX1 ⟨rfl, rfl, Nat.le_of_ble_eq_true rfl, Nat.le_of_ble_eq_true rfl⟩ rfl rfl hl.1 (Nat.le_of_ble_eq_true rfl) dX8_cliff_54) hS (fun S_8 H locs h hP hS => ?_)
    refine lv_aload_n hx hb dX8_cliff_57 rfl (lv_at hl 0 rfl) ?_
    refine s_gR g C hP 0 3 (33 + 7 * 0) (by decide) rfl rfl cfX8 (by decide) kFL_X8_33 dX8_cliff_58 ?_
    refine lv_aload_n hx hb dX8_cliff_61 rfl (lv_at hl 0 rfl) ?_
    refine s_gR g C hP 0 4 (33 + 7 * 1) (by decide) rfl rfl cfX8 (by decide) kFL_X8_37 dX8_cliff_62 ?_
    refine go_v (run_V g C hP hS (c0 := (33 + 7 * 0)) (As := [.ref (Z.2.2.1 (33 + 7 * 1))]) (rest := []) (c_X1_become hi 0 1 (by decide) (by decide) S_8 _ h) cal_X1_become kML_X8_87 (ltX_day (d := 0) (by decide)) (shX_day (d := 0) (by decide)) cfX1 ⟨rfl, rfl, Nat.le_of_ble_eq_true rfl, Nat.le_of_ble_eq_true rfl⟩ rfl rfl hl.1 (Nat.le_of_ble_eq_true rfl) dX8_cliff_65) hS (fun S_9 H locs h hP hS => ?_)
    refine lv_aload_n hx hb dX8_cliff_68 rfl (lv_at hl 0 rfl) ?_
    refine lv_iconst (v := (nI 0)) hx hb dX8_cliff_69 (by decide) ?_
    refine s_pI g C hP hS 0 7 (by decide) rfl rfl cfX8 (by decide) rfl rfl rfl kFL_X8_91 dX8_cliff_70 (fun H locs hP hS => ?_)
    obtain ⟨S_10, eS_10⟩ : ∃ z_ : St, z_ = sI S_9 0 7 (nI 0) := ⟨_, rfl⟩
    rw [← eS_10] at hP
    have h := h S_10 eS_10
    refine lv_aload_n hx hb dX8_cliff_73 rfl (lv_at hl 0 rfl) ?_
    refine s_gR g C hP 0 8 (24 + 3 * 0) (by decide) rfl rfl cfX8 (by decide) kFL_X8_50 dX8_cliff_74 ?_
    refine go_v (run_V g C hP hS (c0 := (24 + 3 * 0)) (As := []) (rest := []) (c_X5_forget hi 0 (by decide) S_10 _ h) cal_X5_forget kML_X8_94 (ltX_se (q := 0) (by decide)) (shX_se (q := 0) (by decide)) cfX5 ⟨rfl, rfl, Nat.le_of_ble_eq_true rfl, Nat.le_of_ble_eq_true rfl⟩ rfl rfl hl.1 (Nat.le_of_ble_eq_true rfl) dX8_cliff_77) hS (fun S_11 H locs h hP hS => ?_)
    refine lv_aload_n hx hb dX8_cliff_80 rfl (lv_at hl 0 rfl) ?_
    refine s_gR g C hP 0 9 (24 + 3 * 1) (by decide) rfl rfl cfX8 (by decide) kFL_X8_54 dX8_cliff_81 ?_
    refine go_v (run_V g C hP hS (c0 := (24 + 3 * 1)) (As := []) (rest := []) (c_X5_forget hi 1 (by decide) S_11 _ h) cal_X5_forget kML_X8_94 (ltX_se (q := 1) (by decide)) (shX_se (q := 1) (by decide)) cfX5 ⟨rfl, rfl, Nat.le_of_ble_eq_true rfl, Nat.le_of_ble_eq_true rfl⟩ rfl rfl hl.1 (Nat.le_of_ble_eq_true rfl) dX8_cliff_84) hS (fun S_12 H locs h hP hS => ?_)
    refine lv_aload_n hx hb dX8_cliff_87 rfl (lv_at hl 0 rfl) ?_
    refine s_gR g C hP 0 0 1 (by decide) rfl rfl cfX8 (by decide) kFL_X8_12 dX8_cliff_88 ?_
    refine s_gI g C hP 1 3 (by decide) rfl rfl cfX7 (by decide) kFL_X8_97 dX8_cliff_91 ?_
    exact s_ri C hP hS h dX8_cliff_94
  · have h := h.2 c_3
    refine lv_bipush (v := (-4 : Int32)) hx hb dX8_cliff_12 (by decide) ?_
    exact s_ri C hP hS h dX8_cliff_14
def q_X8_isHour (S : St) (a1 : Int32) (k : Int32 → Prop) : Prop := (a1 < (nI 0) → (k (nI 0))) ∧ (¬ a1 < (nI 0) → (((nI 12) ≤ a1 → (k (nI 0))) ∧ (¬ (nI 12) ≤ a1 → (k (nI 1)))))
set_option maxRecDepth 100000 in
set_option maxHeartbeats 4000000 in
theorem c_X8_isHour {l : Launch} {Z : ZT} (hi : injZ 68 Z) (S : St) (a1 : Int32) (k : Int32 → Prop) (h : q_X8_isHour S a1 k) : Mi l shX 68 Z (gX Z) yX8_isHour cX8_isHour 1 (Option.some .boolean) (rmk 0 0) [.int a1] S (fun r S' => S' = S ∧ (r = 0 ∨ r = 1) ∧ k r) := by
  have g := gokX hi
  refine e_i (by decide) (Nat.le_of_ble_eq_true rfl) (lv := [(0, .int a1)]) rfl (fun p e s m args below meth c C hP hS ls hl => ?_)
  have hx := C.1.1
  have hb := C.1.2.1
  unfold q_X8_isHour at h
  refine lv_iload_n hx hb dX8_isHour_0 rfl (lv_at hl 0 rfl) ?_
  refine lv_if_lt (tgt := 14) hx hb dX8_isHour_1 (by decide) (fun c_1 => ?_) (fun c_1 => ?_)
  · have h := h.1 c_1
    refine lv_iconst (v := (nI 0)) hx hb dX8_isHour_14 (by decide) ?_
    exact s_rz C hP hS (nar_b (Or.inl rfl)) ⟨rfl, ⟨(Or.inl rfl), h⟩⟩ dX8_isHour_15
  · have h := h.2 c_1
    refine lv_iload_n hx hb dX8_isHour_4 rfl (lv_at hl 0 rfl) ?_
    refine lv_bipush (v := (nI 12)) hx hb dX8_isHour_5 (by decide) ?_
    refine lv_icmp_ge (tgt := 14) hx hb dX8_isHour_7 (by decide) (fun c_2 => ?_) (fun c_2 => ?_)
    · have h := h.1 c_2
      refine lv_iconst (v := (nI 0)) hx hb dX8_isHour_14 (by decide) ?_
      exact s_rz C hP hS (nar_b (Or.inl rfl)) ⟨rfl, ⟨(Or.inl rfl), h⟩⟩ dX8_isHour_15
    · have h := h.2 c_2
      refine lv_iconst (v := (nI 1)) hx hb dX8_isHour_10 (by decide) ?_
      refine lv_goto (tgt := 15) hx hb dX8_isHour_11 (by decide) ?_
      exact s_rz C hP hS (nar_b (Or.inr rfl)) ⟨rfl, ⟨(Or.inr rfl), h⟩⟩ dX8_isHour_15
def q_X8_wind (S : St) (a1 : Int32) (a2 : Int32) (a3 : Int32) (k : Int32 → Prop) : Prop := q_X8_isHeight S a1 (fun r_1 => ((r_1 = (nI 0) → (k (-2 : Int32))) ∧ (¬ r_1 = (nI 0) → (q_X8_isHour S a2 (fun r_3 => ((r_3 = (nI 0) → (k (-2 : Int32))) ∧ (¬ r_3 = (nI 0) → (∀ sw_5 : Int32, sw_5 = a3 → ((sw_5 = (nI 0) → (q_X4_windAt 7 S a1 a2 (fun r_7 => (k r_7)))) ∧ (¬ sw_5 = (nI 0) → ((sw_5 = (nI 1) → (q_X4_windAt 8 S a1 a2 (fun r_9 => (k (r_9 + (nI 3)))))) ∧ (¬ sw_5 = (nI 1) → (k (-3 : Int32))))))))))))))
set_option maxRecDepth 100000 in
set_option maxHeartbeats 4000000 in
theorem c_X8_wind {l : Launch} {Z : ZT} (hi : injZ 68 Z) (S : St) (a1 : Int32) (a2 : Int32) (a3 : Int32) (k : Int32 → Prop) (h : q_X8_wind S a1 a2 a3 k) : Mi l shX 68 Z (gX Z) yX8_wind cX8_wind 4 (Option.some .int) (rmk 1 23) [.ref (Z.2.2.1 0), .int a1, .int a2, .int a3] S (fun r S' => S' = S ∧ k r) := by
  have g := gokX hi
  refine e_i (by decide) (Nat.le_of_ble_eq_true rfl) (lv := [(0, .ref (Z.2.2.1 0)), (1, .int a1), (2, .int a2), (3, .int a3)]) rfl (fun p e s m args below meth c C hP hS ls hl => ?_)
  have hx := C.1.1
  have hb := C.1.2.1
  unfold q_X8_wind at h
  refine lv_iload_n hx hb dX8_wind_0 rfl (lv_at hl 1 rfl) ?_
  refine go_ip (run_S g C hP hS (As := [.int a1]) (rest := []) (c_X8_isHeight hi S a1 _ h) cal_X8_isHeight kML_X8_100 ⟨rfl, rfl, Nat.le_of_ble_eq_true rfl, Nat.le_of_ble_eq_true rfl⟩ rfl rfl hl.1 (Nat.le_of_ble_eq_true rfl) dX8_wind_1) hS (fun r_1 H locs h hP hS => ?_)
  obtain ⟨hbr_1, h⟩ := h
  refine lv_if_eq (tgt := 14) hx hb dX8_wind_4 (by decide) (fun c_2 => ?_) (fun c_2 => ?_)
  · have h := h.1 c_2
    refine lv_bipush (v := (-2 : Int32)) hx hb dX8_wind_14 (by decide) ?_
    exact s_ri C hP hS ⟨rfl, h⟩ dX8_wind_16
  · have h := h.2 c_2
    refine lv_iload_n hx hb dX8_wind_7 rfl (lv_at hl 2 rfl) ?_
    refine go_ip (run_S g C hP hS (As := [.int a2]) (rest := []) (c_X8_isHour hi S a2 _ h) cal_X8_isHour kML_X8_103 ⟨rfl, rfl, Nat.le_of_ble_eq_true rfl, Nat.le_of_ble_eq_true rfl⟩ rfl rfl hl.1 (Nat.le_of_ble_eq_true rfl) dX8_wind_8) hS (fun r_3 H locs h hP hS => ?_)
    obtain ⟨hbr_3, h⟩ := h
    refine lv_if_ne (tgt := 17) hx hb dX8_wind_11 (by decide) (fun c_4 => ?_) (fun c_4 => ?_)
    · have h := h.2 c_4
      refine lv_iload_n hx hb dX8_wind_17 rfl (lv_at hl 3 rfl) ?_
      refine lv_topi (fun sw_5 esw_5 => ?_)
      have h := h sw_5 esw_5
      by_cases c_6 : sw_5 = (nI 0)
      · have h := h.1 c_6
        rw [c_6]
        refine lv_lookup (tgt := 44) hx hb dX8_wind_18 (by decide) rfl (by decide) ?_
        refine lv_aload_n hx hb dX8_wind_44 rfl (lv_at hl 0 rfl) ?_
        refine s_gR g C hP 0 1 4 (by decide) rfl rfl cfX8 (by decide) kFL_X8_19 dX8_wind_45 ?_
        refine s_gR g C hP 4 2 7 (by decide) rfl rfl cfX4 (by decide) kFL_X8_106 dX8_wind_48 ?_
        refine lv_iload_n hx hb dX8_wind_51 rfl (lv_at hl 1 rfl) ?_
        refine lv_iload_n hx hb dX8_wind_52 rfl (lv_at hl 2 rfl) ?_
        refine go_ip (run_S g C hP hS (As := [.ref (Z.2.2.1 7), .int a1, .int a2]) (rest := []) (c_X4_windAt hi 7 ⟨(by decide), rfl⟩ S a1 a2 _ h) cal_X4_windAt kML_X8_110 ⟨rfl, rfl, Nat.le_of_ble_eq_true rfl, Nat.le_of_ble_eq_true rfl⟩ rfl rfl hl.1 (Nat.le_of_ble_eq_true rfl) dX8_wind_53) hS (fun r_7 H locs h hP hS => ?_)
        exact s_ri C hP hS ⟨rfl, h⟩ dX8_wind_56
      · have h := h.2 c_6
        by_cases c_8 : sw_5 = (nI 1)
        · have h := h.1 c_8
          rw [c_8]
          refine lv_lookup (tgt := 57) hx hb dX8_wind_18 (by decide) rfl (by decide) ?_
          refine lv_aload_n hx hb dX8_wind_57 rfl (lv_at hl 0 rfl) ?_
          refine s_gR g C hP 0 1 4 (by decide) rfl rfl cfX8 (by decide) kFL_X8_19 dX8_wind_58 ?_
          refine s_gR g C hP 4 3 8 (by decide) rfl rfl cfX4 (by decide) kFL_X8_114 dX8_wind_61 ?_
          refine lv_iload_n hx hb dX8_wind_64 rfl (lv_at hl 1 rfl) ?_
          refine lv_iload_n hx hb dX8_wind_65 rfl (lv_at hl 2 rfl) ?_
          refine go_ip (run_S g C hP hS (As := [.ref (Z.2.2.1 8), .int a1, .int a2]) (rest := []) (c_X4_windAt hi 8 ⟨(by decide), rfl⟩ S a1 a2 _ h) cal_X4_windAt kML_X8_110 ⟨rfl, rfl, Nat.le_of_ble_eq_true rfl, Nat.le_of_ble_eq_true rfl⟩ rfl rfl hl.1 (Nat.le_of_ble_eq_true rfl) dX8_wind_66) hS (fun r_9 H locs h hP hS => ?_)
          refine lv_iconst (v := (nI 3)) hx hb dX8_wind_69 (by decide) ?_
          refine lv_iadd hx hb dX8_wind_70 ?_
          exact s_ri C hP hS ⟨rfl, h⟩ dX8_wind_71
        · have h := h.2 c_8
          have c_6_ := tIne c_6 (z := 0) (by decide)
          have c_8_ := tIne c_8 (z := 1) (by decide)
          refine lv_lookup (tgt := 72) hx hb dX8_wind_18 (by decide) (lkOut c_6_ c_8_) (by decide) ?_
          refine lv_bipush (v := (-3 : Int32)) hx hb dX8_wind_72 (by decide) ?_
          exact s_ri C hP hS ⟨rfl, h⟩ dX8_wind_74
    · have h := h.1 c_4
      refine lv_bipush (v := (-2 : Int32)) hx hb dX8_wind_14 (by decide) ?_
      exact s_ri C hP hS ⟨rfl, h⟩ dX8_wind_16
def q_X8_shoal (S : St) (a1 : Int32) (a2 : Int32) (k : Int32 → Prop) : Prop := q_X4_isToldShoal S a1 (fun r_1 => ((r_1 = (nI 0) → (k (-2 : Int32))) ∧ (¬ r_1 = (nI 0) → (∀ sw_3 : Int32, sw_3 = a2 → ((sw_3 = (nI 0) → (q_X4_shoalX S a1 (S.1 (33 + 7 * 0) 0) (fun r_5 => (k (r_5 + (nI 100)))))) ∧ (¬ sw_3 = (nI 0) → ((sw_3 = (nI 1) → (q_X4_shoalY S a1 (S.1 (33 + 7 * 0) 0) (fun r_7 => (k (r_7 + (nI 100)))))) ∧ (¬ sw_3 = (nI 1) → ((sw_3 = (nI 2) → (vp_in a1 4 ∧ (k (S.1 (33 + 7 * 0 + 5) a1.toNatClampNeg)))) ∧ (¬ sw_3 = (nI 2) → (k (-3 : Int32))))))))))))
set_option maxRecDepth 100000 in
set_option maxHeartbeats 4000000 in
theorem c_X8_shoal {l : Launch} {Z : ZT} (hi : injZ 68 Z) (S : St) (a1 : Int32) (a2 : Int32) (k : Int32 → Prop) (h : q_X8_shoal S a1 a2 k) : Mi l shX 68 Z (gX Z) yX8_shoal cX8_shoal 3 (Option.some .int) (rmk 2 43) [.ref (Z.2.2.1 0), .int a1, .int a2] S (fun r S' => S' = S ∧ k r) := by
  have g := gokX hi
  refine e_i (by decide) (Nat.le_of_ble_eq_true rfl) (lv := [(0, .ref (Z.2.2.1 0)), (1, .int a1), (2, .int a2)]) rfl (fun p e s m args below meth c C hP hS ls hl => ?_)
  have hx := C.1.1
  have hb := C.1.2.1
  unfold q_X8_shoal at h
  refine lv_aload_n hx hb dX8_shoal_0 rfl (lv_at hl 0 rfl) ?_
  refine s_gR g C hP 0 1 4 (by decide) rfl rfl cfX8 (by decide) kFL_X8_19 dX8_shoal_1 ?_
  refine lv_iload_n hx hb dX8_shoal_4 rfl (lv_at hl 1 rfl) ?_
  refine go_ip (run_V g C hP hS (c0 := 4) (As := [.int a1]) (rest := []) (c_X4_isToldShoal hi S a1 _ h) cal_X4_isToldShoal kML_X8_117 (by decide) rfl cfX4 ⟨rfl, rfl, Nat.le_of_ble_eq_true rfl, Nat.le_of_ble_eq_true rfl⟩ rfl rfl hl.1 (Nat.le_of_ble_eq_true rfl) dX8_shoal_5) hS (fun r_1 H locs h hP hS => ?_)
  obtain ⟨hbr_1, h⟩ := h
  refine lv_if_ne (tgt := 14) hx hb dX8_shoal_8 (by decide) (fun c_2 => ?_) (fun c_2 => ?_)
  · have h := h.2 c_2
    refine lv_iload_n hx hb dX8_shoal_14 rfl (lv_at hl 2 rfl) ?_
    refine lv_topi (fun sw_3 esw_3 => ?_)
    have h := h sw_3 esw_3
    by_cases c_4 : sw_3 = (nI 0)
    · have h := h.1 c_4
      rw [c_4]
      refine lv_tableIn (tgt := 40) hx hb dX8_shoal_15 (by decide) (by decide) rfl (by decide) ?_
      refine lv_aload_n hx hb dX8_shoal_40 rfl (lv_at hl 0 rfl) ?_
      refine s_gR g C hP 0 1 4 (by decide) rfl rfl cfX8 (by decide) kFL_X8_19 dX8_shoal_41 ?_
      refine lv_iload_n hx hb dX8_shoal_44 rfl (lv_at hl 1 rfl) ?_
      refine lv_aload_n hx hb dX8_shoal_45 rfl (lv_at hl 0 rfl) ?_
      refine s_gR g C hP 0 3 (33 + 7 * 0) (by decide) rfl rfl cfX8 (by decide) kFL_X8_33 dX8_shoal_46 ?_
      refine s_gI g C hP (33 + 7 * 0) 0 (ltX_day (d := 0) (by decide)) (shX_day (d := 0) (by decide)) rfl cfX1 (by decide) kFL_X8_120 dX8_shoal_49 ?_
      refine go_ip (run_V g C hP hS (c0 := 4) (As := [.int a1, .int (S.1 (33 + 7 * 0) 0)]) (rest := []) (c_X4_shoalX hi S a1 (S.1 (33 + 7 * 0) 0) _ h) cal_X4_shoalX kML_X8_123 (by decide) rfl cfX4 ⟨rfl, rfl, Nat.le_of_ble_eq_true rfl, Nat.le_of_ble_eq_true rfl⟩ rfl rfl hl.1 (Nat.le_of_ble_eq_true rfl) dX8_shoal_52) hS (fun r_5 H locs h hP hS => ?_)
      refine lv_bipush (v := (nI 100)) hx hb dX8_shoal_55 (by decide) ?_
      refine lv_iadd hx hb dX8_shoal_57 ?_
      exact s_ri C hP hS ⟨rfl, h⟩ dX8_shoal_58
    · have h := h.2 c_4
      by_cases c_6 : sw_3 = (nI 1)
      · have h := h.1 c_6
        rw [c_6]
        refine lv_tableIn (tgt := 59) hx hb dX8_shoal_15 (by decide) (by decide) rfl (by decide) ?_
        refine lv_aload_n hx hb dX8_shoal_59 rfl (lv_at hl 0 rfl) ?_
        refine s_gR g C hP 0 1 4 (by decide) rfl rfl cfX8 (by decide) kFL_X8_19 dX8_shoal_60 ?_
        refine lv_iload_n hx hb dX8_shoal_63 rfl (lv_at hl 1 rfl) ?_
        refine lv_aload_n hx hb dX8_shoal_64 rfl (lv_at hl 0 rfl) ?_
        refine s_gR g C hP 0 3 (33 + 7 * 0) (by decide) rfl rfl cfX8 (by decide) kFL_X8_33 dX8_shoal_65 ?_
        refine s_gI g C hP (33 + 7 * 0) 0 (ltX_day (d := 0) (by decide)) (shX_day (d := 0) (by decide)) rfl cfX1 (by decide) kFL_X8_120 dX8_shoal_68 ?_
        refine go_ip (run_V g C hP hS (c0 := 4) (As := [.int a1, .int (S.1 (33 + 7 * 0) 0)]) (rest := []) (c_X4_shoalY hi S a1 (S.1 (33 + 7 * 0) 0) _ h) cal_X4_shoalY kML_X8_127 (by decide) rfl cfX4 ⟨rfl, rfl, Nat.le_of_ble_eq_true rfl, Nat.le_of_ble_eq_true rfl⟩ rfl rfl hl.1 (Nat.le_of_ble_eq_true rfl) dX8_shoal_71) hS (fun r_7 H locs h hP hS => ?_)
        refine lv_bipush (v := (nI 100)) hx hb dX8_shoal_74 (by decide) ?_
        refine lv_iadd hx hb dX8_shoal_76 ?_
        exact s_ri C hP hS ⟨rfl, h⟩ dX8_shoal_77
      · have h := h.2 c_6
        by_cases c_8 : sw_3 = (nI 2)
        · have h := h.1 c_8
          rw [c_8]
          refine lv_tableIn (tgt := 78) hx hb dX8_shoal_15 (by decide) (by decide) rfl (by decide) ?_
          refine lv_aload_n hx hb dX8_shoal_78 rfl (lv_at hl 0 rfl) ?_
          refine s_gR g C hP 0 3 (33 + 7 * 0) (by decide) rfl rfl cfX8 (by decide) kFL_X8_33 dX8_shoal_79 ?_
          refine s_gR g C hP (33 + 7 * 0) 9 (33 + 7 * 0 + 5) (ltX_day (d := 0) (by decide)) (shX_day (d := 0) (by decide)) rfl cfX1 (by decide) kFL_X8_130 dX8_shoal_82 ?_
          refine lv_iload_n hx hb dX8_shoal_85 rfl (lv_at hl 1 rfl) ?_
          have hv_9 := h.1
          have h := h.2
          refine s_aI g C hP (33 + 7 * 0 + 5) (ltX_day5 (d := 0) (by decide)) (shX_day5 (d := 0) (by decide)) hv_9 dX8_shoal_86 ?_
          exact s_ri C hP hS ⟨rfl, h⟩ dX8_shoal_87
        · have h := h.2 c_8
          have c_4_ := tIne c_4 (z := 0) (by decide)
          have c_6_ := tIne c_6 (z := 1) (by decide)
          have c_8_ := tIne c_8 (z := 2) (by decide)
          refine lv_tableOut (tgt := 88) hx hb dX8_shoal_15 (by omega) (by decide) ?_
          refine lv_bipush (v := (-3 : Int32)) hx hb dX8_shoal_88 (by decide) ?_
          exact s_ri C hP hS ⟨rfl, h⟩ dX8_shoal_90
  · have h := h.1 c_2
    refine lv_bipush (v := (-2 : Int32)) hx hb dX8_shoal_11 (by decide) ?_
    exact s_ri C hP hS ⟨rfl, h⟩ dX8_shoal_13
def q_X8_ask (S : St) (a1 : Int32) (a2 : Int32) (k : Int32 → St → Prop) : Prop := q_X4_isToldKite S a1 (fun r_1 => ((r_1 = (nI 0) → (k (-2 : Int32) S)) ∧ (¬ r_1 = (nI 0) → ((a2 < (nI 0) → (k (-3 : Int32) S)) ∧ (¬ a2 < (nI 0) → ((a2 < (nI 4) → (vp_in a1 6 ∧ (∀ x3_6 : Int32, x3_6 = (S.1 (33 + 7 * 0 + 1) a1.toNatClampNeg) → (vp_in a1 6 ∧ (∀ S_8 : St, S_8 = sI S (33 + 7 * 0 + 1) a1.toNatClampNeg a2 → (k x3_6 S_8)))))) ∧ (¬ a2 < (nI 4) → (k (-3 : Int32) S))))))))
set_option maxRecDepth 100000 in
set_option maxHeartbeats 4000000 in
theorem c_X8_ask {l : Launch} {Z : ZT} (hi : injZ 68 Z) (S : St) (a1 : Int32) (a2 : Int32) (k : Int32 → St → Prop) (h : q_X8_ask S a1 a2 k) : Mi l shX 68 Z (gX Z) yX8_ask cX8_ask 4 (Option.some .int) (rmk 1 21) [.ref (Z.2.2.1 0), .int a1, .int a2] S k := by
  have g := gokX hi
  refine e_i (by decide) (Nat.le_of_ble_eq_true rfl) (lv := [(0, .ref (Z.2.2.1 0)), (1, .int a1), (2, .int a2)]) rfl (fun p e s m args below meth c C hP hS ls hl => ?_)
  have hx := C.1.1
  have hb := C.1.2.1
  unfold q_X8_ask at h
  refine lv_aload_n hx hb dX8_ask_0 rfl (lv_at hl 0 rfl) ?_
  refine s_gR g C hP 0 1 4 (by decide) rfl rfl cfX8 (by decide) kFL_X8_19 dX8_ask_1 ?_
  refine lv_iload_n hx hb dX8_ask_4 rfl (lv_at hl 1 rfl) ?_
  refine go_ip (run_V g C hP hS (c0 := 4) (As := [.int a1]) (rest := []) (c_X4_isToldKite hi S a1 _ h) cal_X4_isToldKite kML_X8_133 (by decide) rfl cfX4 ⟨rfl, rfl, Nat.le_of_ble_eq_true rfl, Nat.le_of_ble_eq_true rfl⟩ rfl rfl hl.1 (Nat.le_of_ble_eq_true rfl) dX8_ask_5) hS (fun r_1 H locs h hP hS => ?_)
  obtain ⟨hbr_1, h⟩ := h
  refine lv_if_ne (tgt := 14) hx hb dX8_ask_8 (by decide) (fun c_2 => ?_) (fun c_2 => ?_)
  · have h := h.2 c_2
    refine lv_iload_n hx hb dX8_ask_14 rfl (lv_at hl 2 rfl) ?_
    refine lv_if_lt (tgt := 23) hx hb dX8_ask_15 (by decide) (fun c_3 => ?_) (fun c_3 => ?_)
    · have h := h.1 c_3
      refine lv_bipush (v := (-3 : Int32)) hx hb dX8_ask_23 (by decide) ?_
      exact s_ri C hP hS h dX8_ask_25
    · have h := h.2 c_3
      refine lv_iload_n hx hb dX8_ask_18 rfl (lv_at hl 2 rfl) ?_
      refine lv_iconst (v := (nI 4)) hx hb dX8_ask_19 (by decide) ?_
      refine lv_icmp_lt (tgt := 26) hx hb dX8_ask_20 (by decide) (fun c_4 => ?_) (fun c_4 => ?_)
      · have h := h.1 c_4
        refine lv_aload_n hx hb dX8_ask_26 rfl (lv_at hl 0 rfl) ?_
        refine s_gR g C hP 0 3 (33 + 7 * 0) (by decide) rfl rfl cfX8 (by decide) kFL_X8_33 dX8_ask_27 ?_
        refine s_gR g C hP (33 + 7 * 0) 5 (33 + 7 * 0 + 1) (ltX_day (d := 0) (by decide)) (shX_day (d := 0) (by decide)) rfl cfX1 (by decide) kFL_X8_136 dX8_ask_30 ?_
        refine lv_iload_n hx hb dX8_ask_33 rfl (lv_at hl 1 rfl) ?_
        have hv_5 := h.1
        have h := h.2
        refine s_aI g C hP (33 + 7 * 0 + 1) (ltX_day1 (d := 0) (by decide)) (shX_day1 (d := 0) (by decide)) hv_5 dX8_ask_34 ?_
        refine lv_topi (fun x3_6 ex3_6 => ?_)
        have h := h x3_6 ex3_6
        refine lv_istore_n (lv' := [(3, .int x3_6), (0, .ref (Z.2.2.1 0)), (1, .int a1), (2, .int a2)]) hx hb dX8_ask_35 rfl hl (by decide) rfl (fun ls hl => ?_)
        refine lv_aload_n hx hb dX8_ask_36 rfl (lv_at hl 1 rfl) ?_
        refine s_gR g C hP 0 3 (33 + 7 * 0) (by decide) rfl rfl cfX8 (by decide) kFL_X8_33 dX8_ask_37 ?_
        refine s_gR g C hP (33 + 7 * 0) 5 (33 + 7 * 0 + 1) (ltX_day (d := 0) (by decide)) (shX_day (d := 0) (by decide)) rfl cfX1 (by decide) kFL_X8_136 dX8_ask_40 ?_
        refine lv_iload_n hx hb dX8_ask_43 rfl (lv_at hl 2 rfl) ?_
        refine lv_iload_n hx hb dX8_ask_44 rfl (lv_at hl 3 rfl) ?_
        have hv_7 := h.1
        have h := h.2
        refine s_stI g C hP hS (33 + 7 * 0 + 1) (ltX_day1 (d := 0) (by decide)) (shX_day1 (d := 0) (by decide)) hv_7 dX8_ask_45 (fun H locs hP hS => ?_)
        obtain ⟨S_8, eS_8⟩ : ∃ z_ : St, z_ = sI S (33 + 7 * 0 + 1) a1.toNatClampNeg a2 := ⟨_, rfl⟩
        rw [← eS_8] at hP
        have h := h S_8 eS_8
        refine lv_iload_n hx hb dX8_ask_46 rfl (lv_at hl 0 rfl) ?_
        exact s_ri C hP hS h dX8_ask_47
      · have h := h.2 c_4
        refine lv_bipush (v := (-3 : Int32)) hx hb dX8_ask_23 (by decide) ?_
        exact s_ri C hP hS h dX8_ask_25
  · have h := h.1 c_2
    refine lv_bipush (v := (-2 : Int32)) hx hb dX8_ask_11 (by decide) ?_
    exact s_ri C hP hS h dX8_ask_13
def q_X8_go (S : St) (a1 : Int32) (k : Int32 → St → Prop) : Prop := (a1 < (nI 1) → (k (-3 : Int32) S)) ∧ (¬ a1 < (nI 1) → ((a1 ≤ (nI 12) → (q_X1_pass 0 S a1 (S.1 4 4) (fun S_3 => (q_X5_forget 0 S_3 (fun S_4 => (k (S_4.1 (33 + 7 * 0) 0) S_4)))))) ∧ (¬ a1 ≤ (nI 12) → (k (-3 : Int32) S))))
set_option maxRecDepth 100000 in
set_option maxHeartbeats 4000000 in
theorem c_X8_go {l : Launch} {Z : ZT} (hi : injZ 68 Z) (S : St) (a1 : Int32) (k : Int32 → St → Prop) (h : q_X8_go S a1 k) : Mi l shX 68 Z (gX Z) yX8_go cX8_go 2 (Option.some .int) (rmk 4 103) [.ref (Z.2.2.1 0), .int a1] S k := by
  have g := gokX hi
  refine e_i (by decide) (Nat.le_of_ble_eq_true rfl) (lv := [(0, .ref (Z.2.2.1 0)), (1, .int a1)]) rfl (fun p e s m args below meth c C hP hS ls hl => ?_)
  have hx := C.1.1
  have hb := C.1.2.1
  unfold q_X8_go at h
  refine lv_iload_n hx hb dX8_go_0 rfl (lv_at hl 1 rfl) ?_
  refine lv_iconst (v := (nI 1)) hx hb dX8_go_1 (by decide) ?_
  refine lv_icmp_lt (tgt := 11) hx hb dX8_go_2 (by decide) (fun c_1 => ?_) (fun c_1 => ?_)
  · have h := h.1 c_1
    refine lv_bipush (v := (-3 : Int32)) hx hb dX8_go_11 (by decide) ?_
    exact s_ri C hP hS h dX8_go_13
  · have h := h.2 c_1
    refine lv_iload_n hx hb dX8_go_5 rfl (lv_at hl 1 rfl) ?_
    refine lv_bipush (v := (nI 12)) hx hb dX8_go_6 (by decide) ?_
    refine lv_icmp_le (tgt := 14) hx hb dX8_go_8 (by decide) (fun c_2 => ?_) (fun c_2 => ?_)
    · have h := h.1 c_2
      refine lv_aload_n hx hb dX8_go_14 rfl (lv_at hl 0 rfl) ?_
      refine s_gR g C hP 0 3 (33 + 7 * 0) (by decide) rfl rfl cfX8 (by decide) kFL_X8_33 dX8_go_15 ?_
      refine lv_iload_n hx hb dX8_go_18 rfl (lv_at hl 1 rfl) ?_
      refine lv_aload_n hx hb dX8_go_19 rfl (lv_at hl 0 rfl) ?_
      refine s_gR g C hP 0 1 4 (by decide) rfl rfl cfX8 (by decide) kFL_X8_19 dX8_go_20 ?_
      refine lv_aload_n hx hb dX8_go_23 rfl (lv_at hl 0 rfl) ?_
      refine s_gR g C hP 0 2 19 (by decide) rfl rfl cfX8 (by decide) kFL_X8_26 dX8_go_24 ?_
      refine lv_aload_n hx hb dX8_go_27 rfl (lv_at hl 0 rfl) ?_
      refine s_gR g C hP 0 1 4 (by decide) rfl rfl cfX8 (by decide) kFL_X8_19 dX8_go_28 ?_
      refine s_gI g C hP 4 4 (by decide) rfl rfl cfX4 (by decide) kFL_X8_139 dX8_go_31 ?_
      refine go_v (run_V g C hP hS (c0 := (33 + 7 * 0)) (As := [.int a1, .ref (Z.2.2.1 4), .ref (Z.2.2.1 19), .int (S.1 4 4)]) (rest := []) (c_X1_pass hi 0 (by decide) S a1 (S.1 4 4) _ h) cal_X1_pass kML_X8_142 (ltX_day (d := 0) (by decide)) (shX_day (d := 0) (by decide)) cfX1 ⟨rfl, rfl, Nat.le_of_ble_eq_true rfl, Nat.le_of_ble_eq_true rfl⟩ rfl rfl hl.1 (Nat.le_of_ble_eq_true rfl) dX8_go_34) hS (fun S_3 H locs h hP hS => ?_)
      refine lv_aload_n hx hb dX8_go_37 rfl (lv_at hl 0 rfl) ?_
      refine s_gR g C hP 0 8 (24 + 3 * 0) (by decide) rfl rfl cfX8 (by decide) kFL_X8_50 dX8_go_38 ?_
      refine go_v (run_V g C hP hS (c0 := (24 + 3 * 0)) (As := []) (rest := []) (c_X5_forget hi 0 (by decide) S_3 _ h) cal_X5_forget kML_X8_94 (ltX_se (q := 0) (by decide)) (shX_se (q := 0) (by decide)) cfX5 ⟨rfl, rfl, Nat.le_of_ble_eq_true rfl, Nat.le_of_ble_eq_true rfl⟩ rfl rfl hl.1 (Nat.le_of_ble_eq_true rfl) dX8_go_41) hS (fun S_4 H locs h hP hS => ?_)
      refine lv_aload_n hx hb dX8_go_44 rfl (lv_at hl 0 rfl) ?_
      refine s_gR g C hP 0 3 (33 + 7 * 0) (by decide) rfl rfl cfX8 (by decide) kFL_X8_33 dX8_go_45 ?_
      refine s_gI g C hP (33 + 7 * 0) 0 (ltX_day (d := 0) (by decide)) (shX_day (d := 0) (by decide)) rfl cfX1 (by decide) kFL_X8_120 dX8_go_48 ?_
      exact s_ri C hP hS h dX8_go_51
    · have h := h.2 c_2
      refine lv_bipush (v := (-3 : Int32)) hx hb dX8_go_11 (by decide) ?_
      exact s_ri C hP hS h dX8_go_13
def q_X8_kite (S : St) (a1 : Int32) (a2 : Int32) (k : Int32 → Prop) : Prop := q_X4_isToldKite S a1 (fun r_1 => ((r_1 = (nI 0) → (k (-2 : Int32))) ∧ (¬ r_1 = (nI 0) → (∀ sw_3 : Int32, sw_3 = a2 → ((sw_3 = (nI 0) → (q_X8_isIn S (S.1 (33 + 7 * 0) 1) a1 (fun r_5 => ((r_5 = (nI 0) → (k (nI 0))) ∧ (¬ r_5 = (nI 0) → (k (nI 1))))))) ∧ (¬ sw_3 = (nI 0) → ((sw_3 = (nI 1) → (vp_in a1 6 ∧ (k (S.1 (33 + 7 * 0 + 1) a1.toNatClampNeg)))) ∧ (¬ sw_3 = (nI 1) → ((sw_3 = (nI 2) → (vp_in a1 6 ∧ (k (S.1 (33 + 7 * 0 + 2) a1.toNatClampNeg)))) ∧ (¬ sw_3 = (nI 2) → ((sw_3 = (nI 3) → (vp_in a1 6 ∧ (k (S.1 (33 + 7 * 0 + 3) a1.toNatClampNeg)))) ∧ (¬ sw_3 = (nI 3) → ((sw_3 = (nI 4) → (vp_in a1 6 ∧ (k (S.1 (33 + 7 * 0 + 4) a1.toNatClampNeg)))) ∧ (¬ sw_3 = (nI 4) → (k (-3 : Int32))))))))))))))))
set_option maxRecDepth 100000 in
set_option maxHeartbeats 4000000 in
theorem c_X8_kite {l : Launch} {Z : ZT} (hi : injZ 68 Z) (S : St) (a1 : Int32) (a2 : Int32) (k : Int32 → Prop) (h : q_X8_kite S a1 a2 k) : Mi l shX 68 Z (gX Z) yX8_kite cX8_kite 3 (Option.some .int) (rmk 1 21) [.ref (Z.2.2.1 0), .int a1, .int a2] S (fun r S' => S' = S ∧ k r) := by
  have g := gokX hi
  refine e_i (by decide) (Nat.le_of_ble_eq_true rfl) (lv := [(0, .ref (Z.2.2.1 0)), (1, .int a1), (2, .int a2)]) rfl (fun p e s m args below meth c C hP hS ls hl => ?_)
  have hx := C.1.1
  have hb := C.1.2.1
  unfold q_X8_kite at h
  refine lv_aload_n hx hb dX8_kite_0 rfl (lv_at hl 0 rfl) ?_
  refine s_gR g C hP 0 1 4 (by decide) rfl rfl cfX8 (by decide) kFL_X8_19 dX8_kite_1 ?_
  refine lv_iload_n hx hb dX8_kite_4 rfl (lv_at hl 1 rfl) ?_
  refine go_ip (run_V g C hP hS (c0 := 4) (As := [.int a1]) (rest := []) (c_X4_isToldKite hi S a1 _ h) cal_X4_isToldKite kML_X8_133 (by decide) rfl cfX4 ⟨rfl, rfl, Nat.le_of_ble_eq_true rfl, Nat.le_of_ble_eq_true rfl⟩ rfl rfl hl.1 (Nat.le_of_ble_eq_true rfl) dX8_kite_5) hS (fun r_1 H locs h hP hS => ?_)
  obtain ⟨hbr_1, h⟩ := h
  refine lv_if_ne (tgt := 14) hx hb dX8_kite_8 (by decide) (fun c_2 => ?_) (fun c_2 => ?_)
  · have h := h.2 c_2
    refine lv_iload_n hx hb dX8_kite_14 rfl (lv_at hl 2 rfl) ?_
    refine lv_topi (fun sw_3 esw_3 => ?_)
    have h := h sw_3 esw_3
    by_cases c_4 : sw_3 = (nI 0)
    · have h := h.1 c_4
      rw [c_4]
      refine lv_tableIn (tgt := 48) hx hb dX8_kite_15 (by decide) (by decide) rfl (by decide) ?_
      refine lv_aload_n hx hb dX8_kite_48 rfl (lv_at hl 0 rfl) ?_
      refine s_gR g C hP 0 3 (33 + 7 * 0) (by decide) rfl rfl cfX8 (by decide) kFL_X8_33 dX8_kite_49 ?_
      refine s_gI g C hP (33 + 7 * 0) 1 (ltX_day (d := 0) (by decide)) (shX_day (d := 0) (by decide)) rfl cfX1 (by decide) kFL_X8_146 dX8_kite_52 ?_
      refine lv_iload_n hx hb dX8_kite_55 rfl (lv_at hl 1 rfl) ?_
      refine go_ip (run_S g C hP hS (As := [.int (S.1 (33 + 7 * 0) 1), .int a1]) (rest := []) (c_X8_isIn hi S (S.1 (33 + 7 * 0) 1) a1 _ h) cal_X8_isIn kML_X8_149 ⟨rfl, rfl, Nat.le_of_ble_eq_true rfl, Nat.le_of_ble_eq_true rfl⟩ rfl rfl hl.1 (Nat.le_of_ble_eq_true rfl) dX8_kite_56) hS (fun r_5 H locs h hP hS => ?_)
      obtain ⟨hbr_5, h⟩ := h
      refine lv_if_eq (tgt := 66) hx hb dX8_kite_59 (by decide) (fun c_6 => ?_) (fun c_6 => ?_)
      · have h := h.1 c_6
        refine lv_iconst (v := (nI 0)) hx hb dX8_kite_66 (by decide) ?_
        exact s_ri C hP hS ⟨rfl, h⟩ dX8_kite_67
      · have h := h.2 c_6
        refine lv_iconst (v := (nI 1)) hx hb dX8_kite_62 (by decide) ?_
        refine lv_goto (tgt := 67) hx hb dX8_kite_63 (by decide) ?_
        exact s_ri C hP hS ⟨rfl, h⟩ dX8_kite_67
    · have h := h.2 c_4
      by_cases c_7 : sw_3 = (nI 1)
      · have h := h.1 c_7
        rw [c_7]
        refine lv_tableIn (tgt := 68) hx hb dX8_kite_15 (by decide) (by decide) rfl (by decide) ?_
        refine lv_aload_n hx hb dX8_kite_68 rfl (lv_at hl 0 rfl) ?_
        refine s_gR g C hP 0 3 (33 + 7 * 0) (by decide) rfl rfl cfX8 (by decide) kFL_X8_33 dX8_kite_69 ?_
        refine s_gR g C hP (33 + 7 * 0) 5 (33 + 7 * 0 + 1) (ltX_day (d := 0) (by decide)) (shX_day (d := 0) (by decide)) rfl cfX1 (by decide) kFL_X8_136 dX8_kite_72 ?_
        refine lv_iload_n hx hb dX8_kite_75 rfl (lv_at hl 1 rfl) ?_
        have hv_8 := h.1
        have h := h.2
        refine s_aI g C hP (33 + 7 * 0 + 1) (ltX_day1 (d := 0) (by decide)) (shX_day1 (d := 0) (by decide)) hv_8 dX8_kite_76 ?_
        exact s_ri C hP hS ⟨rfl, h⟩ dX8_kite_77
      · have h := h.2 c_7
        by_cases c_9 : sw_3 = (nI 2)
        · have h := h.1 c_9
          rw [c_9]
          refine lv_tableIn (tgt := 78) hx hb dX8_kite_15 (by decide) (by decide) rfl (by decide) ?_
          refine lv_aload_n hx hb dX8_kite_78 rfl (lv_at hl 0 rfl) ?_
          refine s_gR g C hP 0 3 (33 + 7 * 0) (by decide) rfl rfl cfX8 (by decide) kFL_X8_33 dX8_kite_79 ?_
          refine s_gR g C hP (33 + 7 * 0) 6 (33 + 7 * 0 + 2) (ltX_day (d := 0) (by decide)) (shX_day (d := 0) (by decide)) rfl cfX1 (by decide) kFL_X8_153 dX8_kite_82 ?_
          refine lv_iload_n hx hb dX8_kite_85 rfl (lv_at hl 1 rfl) ?_
          have hv_10 := h.1
          have h := h.2
          refine s_aI g C hP (33 + 7 * 0 + 2) (ltX_day2 (d := 0) (by decide)) (shX_day2 (d := 0) (by decide)) hv_10 dX8_kite_86 ?_
          exact s_ri C hP hS ⟨rfl, h⟩ dX8_kite_87
        · have h := h.2 c_9
          by_cases c_11 : sw_3 = (nI 3)
          · have h := h.1 c_11
            rw [c_11]
            refine lv_tableIn (tgt := 88) hx hb dX8_kite_15 (by decide) (by decide) rfl (by decide) ?_
            refine lv_aload_n hx hb dX8_kite_88 rfl (lv_at hl 0 rfl) ?_
            refine s_gR g C hP 0 3 (33 + 7 * 0) (by decide) rfl rfl cfX8 (by decide) kFL_X8_33 dX8_kite_89 ?_
            refine s_gR g C hP (33 + 7 * 0) 7 (33 + 7 * 0 + 3) (ltX_day (d := 0) (by decide)) (shX_day (d := 0) (by decide)) rfl cfX1 (by decide) kFL_X8_156 dX8_kite_92 ?_
            refine lv_iload_n hx hb dX8_kite_95 rfl (lv_at hl 1 rfl) ?_
            have hv_12 := h.1
            have h := h.2
            refine s_aI g C hP (33 + 7 * 0 + 3) (ltX_day3 (d := 0) (by decide)) (shX_day3 (d := 0) (by decide)) hv_12 dX8_kite_96 ?_
            exact s_ri C hP hS ⟨rfl, h⟩ dX8_kite_97
          · have h := h.2 c_11
            by_cases c_13 : sw_3 = (nI 4)
            · have h := h.1 c_13
              rw [c_13]
              refine lv_tableIn (tgt := 98) hx hb dX8_kite_15 (by decide) (by decide) rfl (by decide) ?_
              refine lv_aload_n hx hb dX8_kite_98 rfl (lv_at hl 0 rfl) ?_
              refine s_gR g C hP 0 3 (33 + 7 * 0) (by decide) rfl rfl cfX8 (by decide) kFL_X8_33 dX8_kite_99 ?_
              refine s_gR g C hP (33 + 7 * 0) 8 (33 + 7 * 0 + 4) (ltX_day (d := 0) (by decide)) (shX_day (d := 0) (by decide)) rfl cfX1 (by decide) kFL_X8_159 dX8_kite_102 ?_
              refine lv_iload_n hx hb dX8_kite_105 rfl (lv_at hl 1 rfl) ?_
              have hv_14 := h.1
              have h := h.2
              refine s_aI g C hP (33 + 7 * 0 + 4) (ltX_day4 (d := 0) (by decide)) (shX_day4 (d := 0) (by decide)) hv_14 dX8_kite_106 ?_
              exact s_ri C hP hS ⟨rfl, h⟩ dX8_kite_107
            · have h := h.2 c_13
              have c_4_ := tIne c_4 (z := 0) (by decide)
              have c_7_ := tIne c_7 (z := 1) (by decide)
              have c_9_ := tIne c_9 (z := 2) (by decide)
              have c_11_ := tIne c_11 (z := 3) (by decide)
              have c_13_ := tIne c_13 (z := 4) (by decide)
              refine lv_tableOut (tgt := 108) hx hb dX8_kite_15 (by omega) (by decide) ?_
              refine lv_bipush (v := (-3 : Int32)) hx hb dX8_kite_108 (by decide) ?_
              exact s_ri C hP hS ⟨rfl, h⟩ dX8_kite_110
  · have h := h.1 c_2
    refine lv_bipush (v := (-2 : Int32)) hx hb dX8_kite_11 (by decide) ?_
    exact s_ri C hP hS ⟨rfl, h⟩ dX8_kite_13
def q_X8_isPlace (S : St) (a1 : Int32) (a2 : Int32) (a3 : Int32) (k : Int32 → Prop) : Prop := q_X4_isToldKite S a1 (fun r_1 => ((r_1 = (nI 0) → (k (nI 0))) ∧ (¬ r_1 = (nI 0) → (q_X8_isHeight S a2 (fun r_3 => ((r_3 = (nI 0) → (k (nI 0))) ∧ (¬ r_3 = (nI 0) → (q_X8_isHour S a3 (fun r_5 => ((r_5 = (nI 0) → (k (nI 0))) ∧ (¬ r_5 = (nI 0) → (k (nI 1)))))))))))))
set_option maxRecDepth 100000 in
set_option maxHeartbeats 4000000 in
theorem c_X8_isPlace {l : Launch} {Z : ZT} (hi : injZ 68 Z) (S : St) (a1 : Int32) (a2 : Int32) (a3 : Int32) (k : Int32 → Prop) (h : q_X8_isPlace S a1 a2 a3 k) : Mi l shX 68 Z (gX Z) yX8_isPlace cX8_isPlace 4 (Option.some .boolean) (rmk 1 21) [.ref (Z.2.2.1 0), .int a1, .int a2, .int a3] S (fun r S' => S' = S ∧ (r = 0 ∨ r = 1) ∧ k r) := by
  have g := gokX hi
  refine e_i (by decide) (Nat.le_of_ble_eq_true rfl) (lv := [(0, .ref (Z.2.2.1 0)), (1, .int a1), (2, .int a2), (3, .int a3)]) rfl (fun p e s m args below meth c C hP hS ls hl => ?_)
  have hx := C.1.1
  have hb := C.1.2.1
  unfold q_X8_isPlace at h
  refine lv_aload_n hx hb dX8_isPlace_0 rfl (lv_at hl 0 rfl) ?_
  refine s_gR g C hP 0 1 4 (by decide) rfl rfl cfX8 (by decide) kFL_X8_19 dX8_isPlace_1 ?_
  refine lv_iload_n hx hb dX8_isPlace_4 rfl (lv_at hl 1 rfl) ?_
  refine go_ip (run_V g C hP hS (c0 := 4) (As := [.int a1]) (rest := []) (c_X4_isToldKite hi S a1 _ h) cal_X4_isToldKite kML_X8_133 (by decide) rfl cfX4 ⟨rfl, rfl, Nat.le_of_ble_eq_true rfl, Nat.le_of_ble_eq_true rfl⟩ rfl rfl hl.1 (Nat.le_of_ble_eq_true rfl) dX8_isPlace_5) hS (fun r_1 H locs h hP hS => ?_)
  obtain ⟨hbr_1, h⟩ := h
  refine lv_if_eq (tgt := 29) hx hb dX8_isPlace_8 (by decide) (fun c_2 => ?_) (fun c_2 => ?_)
  · have h := h.1 c_2
    refine lv_iconst (v := (nI 0)) hx hb dX8_isPlace_29 (by decide) ?_
    exact s_rz C hP hS (nar_b (Or.inl rfl)) ⟨rfl, ⟨(Or.inl rfl), h⟩⟩ dX8_isPlace_30
  · have h := h.2 c_2
    refine lv_iload_n hx hb dX8_isPlace_11 rfl (lv_at hl 2 rfl) ?_
    refine go_ip (run_S g C hP hS (As := [.int a2]) (rest := []) (c_X8_isHeight hi S a2 _ h) cal_X8_isHeight kML_X8_100 ⟨rfl, rfl, Nat.le_of_ble_eq_true rfl, Nat.le_of_ble_eq_true rfl⟩ rfl rfl hl.1 (Nat.le_of_ble_eq_true rfl) dX8_isPlace_12) hS (fun r_3 H locs h hP hS => ?_)
    obtain ⟨hbr_3, h⟩ := h
    refine lv_if_eq (tgt := 29) hx hb dX8_isPlace_15 (by decide) (fun c_4 => ?_) (fun c_4 => ?_)
    · have h := h.1 c_4
      refine lv_iconst (v := (nI 0)) hx hb dX8_isPlace_29 (by decide) ?_
      exact s_rz C hP hS (nar_b (Or.inl rfl)) ⟨rfl, ⟨(Or.inl rfl), h⟩⟩ dX8_isPlace_30
    · have h := h.2 c_4
      refine lv_iload_n hx hb dX8_isPlace_18 rfl (lv_at hl 3 rfl) ?_
      refine go_ip (run_S g C hP hS (As := [.int a3]) (rest := []) (c_X8_isHour hi S a3 _ h) cal_X8_isHour kML_X8_103 ⟨rfl, rfl, Nat.le_of_ble_eq_true rfl, Nat.le_of_ble_eq_true rfl⟩ rfl rfl hl.1 (Nat.le_of_ble_eq_true rfl) dX8_isPlace_19) hS (fun r_5 H locs h hP hS => ?_)
      obtain ⟨hbr_5, h⟩ := h
      refine lv_if_eq (tgt := 29) hx hb dX8_isPlace_22 (by decide) (fun c_6 => ?_) (fun c_6 => ?_)
      · have h := h.1 c_6
        refine lv_iconst (v := (nI 0)) hx hb dX8_isPlace_29 (by decide) ?_
        exact s_rz C hP hS (nar_b (Or.inl rfl)) ⟨rfl, ⟨(Or.inl rfl), h⟩⟩ dX8_isPlace_30
      · have h := h.2 c_6
        refine lv_iconst (v := (nI 1)) hx hb dX8_isPlace_25 (by decide) ?_
        refine lv_goto (tgt := 30) hx hb dX8_isPlace_26 (by decide) ?_
        exact s_rz C hP hS (nar_b (Or.inr rfl)) ⟨rfl, ⟨(Or.inr rfl), h⟩⟩ dX8_isPlace_30
def q_X8_where (S : St) (a1 : Int32) (a2 : Int32) (a3 : Int32) (k : Int32 → Prop) : Prop := q_X8_isPlace S a1 a2 a3 (fun r_1 => ((r_1 = (nI 0) → (k (-2 : Int32))) ∧ (¬ r_1 = (nI 0) → (q_X4_isInSea S a1 a2 a3 (fun r_3 => ((r_3 = (nI 0) → (k (-1 : Int32))) ∧ (¬ r_3 = (nI 0) → (q_X4_kiteX S a1 a2 a3 (fun r_5 => (q_X4_kiteY S a1 a2 (fun r_6 => (k (r_5 + ((nI 10) * r_6))))))))))))))
set_option maxRecDepth 100000 in
set_option maxHeartbeats 4000000 in
theorem c_X8_where {l : Launch} {Z : ZT} (hi : injZ 68 Z) (S : St) (a1 : Int32) (a2 : Int32) (a3 : Int32) (k : Int32 → Prop) (h : q_X8_where S a1 a2 a3 k) : Mi l shX 68 Z (gX Z) yX8_where cX8_where 4 (Option.some .int) (rmk 3 71) [.ref (Z.2.2.1 0), .int a1, .int a2, .int a3] S (fun r S' => S' = S ∧ k r) := by
  have g := gokX hi
  refine e_i (by decide) (Nat.le_of_ble_eq_true rfl) (lv := [(0, .ref (Z.2.2.1 0)), (1, .int a1), (2, .int a2), (3, .int a3)]) rfl (fun p e s m args below meth c C hP hS ls hl => ?_)
  have hx := C.1.1
  have hb := C.1.2.1
  unfold q_X8_where at h
  refine lv_aload_n hx hb dX8_where_0 rfl (lv_at hl 0 rfl) ?_
  refine lv_iload_n hx hb dX8_where_1 rfl (lv_at hl 1 rfl) ?_
  refine lv_iload_n hx hb dX8_where_2 rfl (lv_at hl 2 rfl) ?_
  refine lv_iload_n hx hb dX8_where_3 rfl (lv_at hl 3 rfl) ?_
  refine go_ip (run_V g C hP hS (c0 := 0) (As := [.int a1, .int a2, .int a3]) (rest := []) (c_X8_isPlace hi S a1 a2 a3 _ h) cal_X8_isPlace kML_X8_162 (by decide) rfl cfX8 ⟨rfl, rfl, Nat.le_of_ble_eq_true rfl, Nat.le_of_ble_eq_true rfl⟩ rfl rfl hl.1 (Nat.le_of_ble_eq_true rfl) dX8_where_4) hS (fun r_1 H locs h hP hS => ?_)
  obtain ⟨hbr_1, h⟩ := h
  refine lv_if_ne (tgt := 13) hx hb dX8_where_7 (by decide) (fun c_2 => ?_) (fun c_2 => ?_)
  · have h := h.2 c_2
    refine lv_aload_n hx hb dX8_where_13 rfl (lv_at hl 0 rfl) ?_
    refine s_gR g C hP 0 1 4 (by decide) rfl rfl cfX8 (by decide) kFL_X8_19 dX8_where_14 ?_
    refine lv_iload_n hx hb dX8_where_17 rfl (lv_at hl 1 rfl) ?_
    refine lv_iload_n hx hb dX8_where_18 rfl (lv_at hl 2 rfl) ?_
    refine lv_iload_n hx hb dX8_where_19 rfl (lv_at hl 3 rfl) ?_
    refine go_ip (run_V g C hP hS (c0 := 4) (As := [.int a1, .int a2, .int a3]) (rest := []) (c_X4_isInSea hi S a1 a2 a3 _ h) cal_X4_isInSea kML_X8_166 (by decide) rfl cfX4 ⟨rfl, rfl, Nat.le_of_ble_eq_true rfl, Nat.le_of_ble_eq_true rfl⟩ rfl rfl hl.1 (Nat.le_of_ble_eq_true rfl) dX8_where_20) hS (fun r_3 H locs h hP hS => ?_)
    obtain ⟨hbr_3, h⟩ := h
    refine lv_if_ne (tgt := 28) hx hb dX8_where_23 (by decide) (fun c_4 => ?_) (fun c_4 => ?_)
    · have h := h.2 c_4
      refine lv_aload_n hx hb dX8_where_28 rfl (lv_at hl 0 rfl) ?_
      refine s_gR g C hP 0 1 4 (by decide) rfl rfl cfX8 (by decide) kFL_X8_19 dX8_where_29 ?_
      refine lv_iload_n hx hb dX8_where_32 rfl (lv_at hl 1 rfl) ?_
      refine lv_iload_n hx hb dX8_where_33 rfl (lv_at hl 2 rfl) ?_
      refine lv_iload_n hx hb dX8_where_34 rfl (lv_at hl 3 rfl) ?_
      refine go_ip (run_V g C hP hS (c0 := 4) (As := [.int a1, .int a2, .int a3]) (rest := []) (c_X4_kiteX hi S a1 a2 a3 _ h) cal_X4_kiteX kML_X8_169 (by decide) rfl cfX4 ⟨rfl, rfl, Nat.le_of_ble_eq_true rfl, Nat.le_of_ble_eq_true rfl⟩ rfl rfl hl.1 (Nat.le_of_ble_eq_true rfl) dX8_where_35) hS (fun r_5 H locs h hP hS => ?_)
      refine lv_bipush (v := (nI 10)) hx hb dX8_where_38 (by decide) ?_
      refine lv_aload_n hx hb dX8_where_40 rfl (lv_at hl 0 rfl) ?_
      refine s_gR g C hP 0 1 4 (by decide) rfl rfl cfX8 (by decide) kFL_X8_19 dX8_where_41 ?_
      refine lv_iload_n hx hb dX8_where_44 rfl (lv_at hl 1 rfl) ?_
      refine lv_iload_n hx hb dX8_where_45 rfl (lv_at hl 2 rfl) ?_
      refine go_ip (run_V g C hP hS (c0 := 4) (As := [.int a1, .int a2]) (rest := [.int (nI 10), .int r_5]) (c_X4_kiteY hi S a1 a2 _ h) cal_X4_kiteY kML_X8_173 (by decide) rfl cfX4 ⟨rfl, rfl, Nat.le_of_ble_eq_true rfl, Nat.le_of_ble_eq_true rfl⟩ rfl rfl hl.1 (Nat.le_of_ble_eq_true rfl) dX8_where_46) hS (fun r_6 H locs h hP hS => ?_)
      refine lv_imul hx hb dX8_where_49 ?_
      refine lv_iadd hx hb dX8_where_50 ?_
      exact s_ri C hP hS ⟨rfl, h⟩ dX8_where_51
    · have h := h.1 c_4
      refine lv_iconst (v := (-1 : Int32)) hx hb dX8_where_26 (by decide) ?_
      exact s_ri C hP hS ⟨rfl, h⟩ dX8_where_27
  · have h := h.1 c_2
    refine lv_bipush (v := (-2 : Int32)) hx hb dX8_where_10 (by decide) ?_
    exact s_ri C hP hS ⟨rfl, h⟩ dX8_where_12
def q_X8_hinders (S : St) (a1 : Int32) (a2 : Int32) (a3 : Int32) (k : Int32 → Prop) : Prop := q_X8_isPlace S a1 a2 a3 (fun r_1 => ((r_1 = (nI 0) → (k (-2 : Int32))) ∧ (¬ r_1 = (nI 0) → (q_X4_isInSea S a1 a2 a3 (fun r_3 => ((r_3 = (nI 0) → (k (nI 2))) ∧ (¬ r_3 = (nI 0) → (q_X4_hasLift S a1 a2 a3 (fun r_5 => ((r_5 = (nI 0) → (k (nI 1))) ∧ (¬ r_5 = (nI 0) → (k (nI 0)))))))))))))
set_option maxRecDepth 100000 in
set_option maxHeartbeats 4000000 in
theorem c_X8_hinders {l : Launch} {Z : ZT} (hi : injZ 68 Z) (S : St) (a1 : Int32) (a2 : Int32) (a3 : Int32) (k : Int32 → Prop) (h : q_X8_hinders S a1 a2 a3 k) : Mi l shX 68 Z (gX Z) yX8_hinders cX8_hinders 4 (Option.some .int) (rmk 3 71) [.ref (Z.2.2.1 0), .int a1, .int a2, .int a3] S (fun r S' => S' = S ∧ k r) := by
  have g := gokX hi
  refine e_i (by decide) (Nat.le_of_ble_eq_true rfl) (lv := [(0, .ref (Z.2.2.1 0)), (1, .int a1), (2, .int a2), (3, .int a3)]) rfl (fun p e s m args below meth c C hP hS ls hl => ?_)
  have hx := C.1.1
  have hb := C.1.2.1
  unfold q_X8_hinders at h
  refine lv_aload_n hx hb dX8_hinders_0 rfl (lv_at hl 0 rfl) ?_
  refine lv_iload_n hx hb dX8_hinders_1 rfl (lv_at hl 1 rfl) ?_
  refine lv_iload_n hx hb dX8_hinders_2 rfl (lv_at hl 2 rfl) ?_
  refine lv_iload_n hx hb dX8_hinders_3 rfl (lv_at hl 3 rfl) ?_
  refine go_ip (run_V g C hP hS (c0 := 0) (As := [.int a1, .int a2, .int a3]) (rest := []) (c_X8_isPlace hi S a1 a2 a3 _ h) cal_X8_isPlace kML_X8_162 (by decide) rfl cfX8 ⟨rfl, rfl, Nat.le_of_ble_eq_true rfl, Nat.le_of_ble_eq_true rfl⟩ rfl rfl hl.1 (Nat.le_of_ble_eq_true rfl) dX8_hinders_4) hS (fun r_1 H locs h hP hS => ?_)
  obtain ⟨hbr_1, h⟩ := h
  refine lv_if_ne (tgt := 13) hx hb dX8_hinders_7 (by decide) (fun c_2 => ?_) (fun c_2 => ?_)
  · have h := h.2 c_2
    refine lv_aload_n hx hb dX8_hinders_13 rfl (lv_at hl 0 rfl) ?_
    refine s_gR g C hP 0 1 4 (by decide) rfl rfl cfX8 (by decide) kFL_X8_19 dX8_hinders_14 ?_
    refine lv_iload_n hx hb dX8_hinders_17 rfl (lv_at hl 1 rfl) ?_
    refine lv_iload_n hx hb dX8_hinders_18 rfl (lv_at hl 2 rfl) ?_
    refine lv_iload_n hx hb dX8_hinders_19 rfl (lv_at hl 3 rfl) ?_
    refine go_ip (run_V g C hP hS (c0 := 4) (As := [.int a1, .int a2, .int a3]) (rest := []) (c_X4_isInSea hi S a1 a2 a3 _ h) cal_X4_isInSea kML_X8_166 (by decide) rfl cfX4 ⟨rfl, rfl, Nat.le_of_ble_eq_true rfl, Nat.le_of_ble_eq_true rfl⟩ rfl rfl hl.1 (Nat.le_of_ble_eq_true rfl) dX8_hinders_20) hS (fun r_3 H locs h hP hS => ?_)
    obtain ⟨hbr_3, h⟩ := h
    refine lv_if_ne (tgt := 28) hx hb dX8_hinders_23 (by decide) (fun c_4 => ?_) (fun c_4 => ?_)
    · have h := h.2 c_4
      refine lv_aload_n hx hb dX8_hinders_28 rfl (lv_at hl 0 rfl) ?_
      refine s_gR g C hP 0 1 4 (by decide) rfl rfl cfX8 (by decide) kFL_X8_19 dX8_hinders_29 ?_
      refine lv_iload_n hx hb dX8_hinders_32 rfl (lv_at hl 1 rfl) ?_
      refine lv_iload_n hx hb dX8_hinders_33 rfl (lv_at hl 2 rfl) ?_
      refine lv_iload_n hx hb dX8_hinders_34 rfl (lv_at hl 3 rfl) ?_
      refine go_ip (run_V g C hP hS (c0 := 4) (As := [.int a1, .int a2, .int a3]) (rest := []) (c_X4_hasLift hi S a1 a2 a3 _ h) cal_X4_hasLift kML_X8_176 (by decide) rfl cfX4 ⟨rfl, rfl, Nat.le_of_ble_eq_true rfl, Nat.le_of_ble_eq_true rfl⟩ rfl rfl hl.1 (Nat.le_of_ble_eq_true rfl) dX8_hinders_35) hS (fun r_5 H locs h hP hS => ?_)
      obtain ⟨hbr_5, h⟩ := h
      refine lv_if_eq (tgt := 45) hx hb dX8_hinders_38 (by decide) (fun c_6 => ?_) (fun c_6 => ?_)
      · have h := h.1 c_6
        refine lv_iconst (v := (nI 1)) hx hb dX8_hinders_45 (by decide) ?_
        exact s_ri C hP hS ⟨rfl, h⟩ dX8_hinders_46
      · have h := h.2 c_6
        refine lv_iconst (v := (nI 0)) hx hb dX8_hinders_41 (by decide) ?_
        refine lv_goto (tgt := 46) hx hb dX8_hinders_42 (by decide) ?_
        exact s_ri C hP hS ⟨rfl, h⟩ dX8_hinders_46
    · have h := h.1 c_4
      refine lv_iconst (v := (nI 2)) hx hb dX8_hinders_26 (by decide) ?_
      exact s_ri C hP hS ⟨rfl, h⟩ dX8_hinders_27
  · have h := h.1 c_2
    refine lv_bipush (v := (-2 : Int32)) hx hb dX8_hinders_10 (by decide) ?_
    exact s_ri C hP hS ⟨rfl, h⟩ dX8_hinders_12
def q_X8_tangle (S : St) (a1 : Int32) (a2 : Int32) (a3 : Int32) (a4 : Int32) (k : Int32 → Prop) : Prop := q_X8_isPlace S a1 a3 a4 (fun r_1 => ((r_1 = (nI 0) → (k (-2 : Int32))) ∧ (¬ r_1 = (nI 0) → (q_X4_isToldKite S a2 (fun r_3 => ((r_3 = (nI 0) → (k (-2 : Int32))) ∧ (¬ r_3 = (nI 0) → ((a1 = a2 → (k (-3 : Int32))) ∧ (¬ a1 = a2 → (q_X4_wouldCross S a1 a2 a3 a4 (fun r_6 => ((r_6 = (nI 0) → (k (-1 : Int32))) ∧ (¬ r_6 = (nI 0) → (q_X4_givingWay S (if a2 < a1 then a2 else a1) (if a1 < a2 then a2 else a1) (S.1 4 4) (fun r_8 => (k r_8))))))))))))))))
set_option maxRecDepth 100000 in
set_option maxHeartbeats 4000000 in
theorem c_X8_tangle {l : Launch} {Z : ZT} (hi : injZ 68 Z) (S : St) (a1 : Int32) (a2 : Int32) (a3 : Int32) (a4 : Int32) (k : Int32 → Prop) (h : q_X8_tangle S a1 a2 a3 a4 k) : Mi l shX 68 Z (gX Z) yX8_tangle cX8_tangle 5 (Option.some .int) (rmk 3 72) [.ref (Z.2.2.1 0), .int a1, .int a2, .int a3, .int a4] S (fun r S' => S' = S ∧ k r) := by
  have g := gokX hi
  refine e_i (by decide) (Nat.le_of_ble_eq_true rfl) (lv := [(0, .ref (Z.2.2.1 0)), (1, .int a1), (2, .int a2), (3, .int a3), (4, .int a4)]) rfl (fun p e s m args below meth c C hP hS ls hl => ?_)
  have hx := C.1.1
  have hb := C.1.2.1
  unfold q_X8_tangle at h
  refine lv_aload_n hx hb dX8_tangle_0 rfl (lv_at hl 0 rfl) ?_
  refine lv_iload_n hx hb dX8_tangle_1 rfl (lv_at hl 1 rfl) ?_
  refine lv_iload_n hx hb dX8_tangle_2 rfl (lv_at hl 3 rfl) ?_
  refine lv_iload hx hb dX8_tangle_3 (lv_at hl 4 rfl) ?_
  refine go_ip (run_V g C hP hS (c0 := 0) (As := [.int a1, .int a3, .int a4]) (rest := []) (c_X8_isPlace hi S a1 a3 a4 _ h) cal_X8_isPlace kML_X8_162 (by decide) rfl cfX8 ⟨rfl, rfl, Nat.le_of_ble_eq_true rfl, Nat.le_of_ble_eq_true rfl⟩ rfl rfl hl.1 (Nat.le_of_ble_eq_true rfl) dX8_tangle_5) hS (fun r_1 H locs h hP hS => ?_)
  obtain ⟨hbr_1, h⟩ := h
  refine lv_if_eq (tgt := 22) hx hb dX8_tangle_8 (by decide) (fun c_2 => ?_) (fun c_2 => ?_)
  · have h := h.1 c_2
    refine lv_bipush (v := (-2 : Int32)) hx hb dX8_tangle_22 (by decide) ?_
    exact s_ri C hP hS ⟨rfl, h⟩ dX8_tangle_24
  · have h := h.2 c_2
    refine lv_aload_n hx hb dX8_tangle_11 rfl (lv_at hl 0 rfl) ?_
    refine s_gR g C hP 0 1 4 (by decide) rfl rfl cfX8 (by decide) kFL_X8_19 dX8_tangle_12 ?_
    refine lv_iload_n hx hb dX8_tangle_15 rfl (lv_at hl 2 rfl) ?_
    refine go_ip (run_V g C hP hS (c0 := 4) (As := [.int a2]) (rest := []) (c_X4_isToldKite hi S a2 _ h) cal_X4_isToldKite kML_X8_133 (by decide) rfl cfX4 ⟨rfl, rfl, Nat.le_of_ble_eq_true rfl, Nat.le_of_ble_eq_true rfl⟩ rfl rfl hl.1 (Nat.le_of_ble_eq_true rfl) dX8_tangle_16) hS (fun r_3 H locs h hP hS => ?_)
    obtain ⟨hbr_3, h⟩ := h
    refine lv_if_ne (tgt := 25) hx hb dX8_tangle_19 (by decide) (fun c_4 => ?_) (fun c_4 => ?_)
    · have h := h.2 c_4
      refine lv_iload_n hx hb dX8_tangle_25 rfl (lv_at hl 1 rfl) ?_
      refine lv_iload_n hx hb dX8_tangle_26 rfl (lv_at hl 2 rfl) ?_
      refine lv_icmp_ne (tgt := 33) hx hb dX8_tangle_27 (by decide) (fun c_5 => ?_) (fun c_5 => ?_)
      · have h := h.2 c_5
        refine lv_aload_n hx hb dX8_tangle_33 rfl (lv_at hl 0 rfl) ?_
        refine s_gR g C hP 0 1 4 (by decide) rfl rfl cfX8 (by decide) kFL_X8_19 dX8_tangle_34 ?_
        refine lv_iload_n hx hb dX8_tangle_37 rfl (lv_at hl 1 rfl) ?_
        refine lv_iload_n hx hb dX8_tangle_38 rfl (lv_at hl 2 rfl) ?_
        refine lv_iload_n hx hb dX8_tangle_39 rfl (lv_at hl 3 rfl) ?_
        refine lv_iload hx hb dX8_tangle_40 (lv_at hl 4 rfl) ?_
        refine go_ip (run_V g C hP hS (c0 := 4) (As := [.int a1, .int a2, .int a3, .int a4]) (rest := []) (c_X4_wouldCross hi S a1 a2 a3 a4 _ h) cal_X4_wouldCross kML_X8_179 (by decide) rfl cfX4 ⟨rfl, rfl, Nat.le_of_ble_eq_true rfl, Nat.le_of_ble_eq_true rfl⟩ rfl rfl hl.1 (Nat.le_of_ble_eq_true rfl) dX8_tangle_42) hS (fun r_6 H locs h hP hS => ?_)
        obtain ⟨hbr_6, h⟩ := h
        refine lv_if_ne (tgt := 50) hx hb dX8_tangle_45 (by decide) (fun c_7 => ?_) (fun c_7 => ?_)
        · have h := h.2 c_7
          refine lv_aload_n hx hb dX8_tangle_50 rfl (lv_at hl 0 rfl) ?_
          refine s_gR g C hP 0 1 4 (by decide) rfl rfl cfX8 (by decide) kFL_X8_19 dX8_tangle_51 ?_
          refine lv_iload_n hx hb dX8_tangle_54 rfl (lv_at hl 1 rfl) ?_
          refine lv_iload_n hx hb dX8_tangle_55 rfl (lv_at hl 2 rfl) ?_
          refine s_min C hl.1 kML_X8_183 ⟨Nat.le_of_ble_eq_true rfl, Nat.le_of_ble_eq_true rfl⟩ dX8_tangle_56 ?_
          refine lv_iload_n hx hb dX8_tangle_59 rfl (lv_at hl 1 rfl) ?_
          refine lv_iload_n hx hb dX8_tangle_60 rfl (lv_at hl 2 rfl) ?_
          refine s_max C hl.1 kML_X8_188 ⟨Nat.le_of_ble_eq_true rfl, Nat.le_of_ble_eq_true rfl⟩ dX8_tangle_61 ?_
          refine lv_aload_n hx hb dX8_tangle_64 rfl (lv_at hl 0 rfl) ?_
          refine s_gR g C hP 0 1 4 (by decide) rfl rfl cfX8 (by decide) kFL_X8_19 dX8_tangle_65 ?_
          refine s_gI g C hP 4 4 (by decide) rfl rfl cfX4 (by decide) kFL_X8_139 dX8_tangle_68 ?_
          refine go_ip (run_V g C hP hS (c0 := 4) (As := [.int (if a2 < a1 then a2 else a1), .int (if a1 < a2 then a2 else a1), .int (S.1 4 4)]) (rest := []) (c_X4_givingWay hi S (if a2 < a1 then a2 else a1) (if a1 < a2 then a2 else a1) (S.1 4 4) _ h) cal_X4_givingWay kML_X8_191 (by decide) rfl cfX4 ⟨rfl, rfl, Nat.le_of_ble_eq_true rfl, Nat.le_of_ble_eq_true rfl⟩ rfl rfl hl.1 (Nat.le_of_ble_eq_true rfl) dX8_tangle_71) hS (fun r_8 H locs h hP hS => ?_)
          exact s_ri C hP hS ⟨rfl, h⟩ dX8_tangle_74
        · have h := h.1 c_7
          refine lv_iconst (v := (-1 : Int32)) hx hb dX8_tangle_48 (by decide) ?_
          exact s_ri C hP hS ⟨rfl, h⟩ dX8_tangle_49
      · have h := h.1 c_5
        refine lv_bipush (v := (-3 : Int32)) hx hb dX8_tangle_30 (by decide) ?_
        exact s_ri C hP hS ⟨rfl, h⟩ dX8_tangle_32
    · have h := h.1 c_4
      refine lv_bipush (v := (-2 : Int32)) hx hb dX8_tangle_22 (by decide) ?_
      exact s_ri C hP hS ⟨rfl, h⟩ dX8_tangle_24
def q_X8_taking (S : St) (a1 : Int32) (a2 : Int32) (k : Int32 → Prop) : Prop := (a1 < (nI 0) → (k (-3 : Int32))) ∧ (¬ a1 < (nI 0) → ((a2 < (nI 0) → (k (-3 : Int32))) ∧ (¬ a2 < (nI 0) → ((a2 ≤ (nI 3) → (((S.1 (33 + 7 * 0) 4) ≤ a1 → (k (-1 : Int32))) ∧ (¬ (S.1 (33 + 7 * 0) 4) ≤ a1 → ((a1 < (nI 288) → (vp_in a1 288 ∧ (∀ x3_7 : Int32, x3_7 = ((S.1 (33 + 7 * 0 + 6) a1.toNatClampNeg) >>> (((nI 4) * a2) &&& 31)) → ((a2 = (nI 3) → (k x3_7)) ∧ (¬ a2 = (nI 3) → (k (x3_7 &&& (nI 15)))))))) ∧ (¬ a1 < (nI 288) → (k (-1 : Int32))))))) ∧ (¬ a2 ≤ (nI 3) → (k (-3 : Int32)))))))
set_option maxRecDepth 100000 in
set_option maxHeartbeats 4000000 in
theorem c_X8_taking {l : Launch} {Z : ZT} (hi : injZ 68 Z) (S : St) (a1 : Int32) (a2 : Int32) (k : Int32 → Prop) (h : q_X8_taking S a1 a2 k) : Mi l shX 68 Z (gX Z) yX8_taking cX8_taking 4 (Option.some .int) (rmk 0 0) [.ref (Z.2.2.1 0), .int a1, .int a2] S (fun r S' => S' = S ∧ k r) := by
  have g := gokX hi
  refine e_i (by decide) (Nat.le_of_ble_eq_true rfl) (lv := [(0, .ref (Z.2.2.1 0)), (1, .int a1), (2, .int a2)]) rfl (fun p e s m args below meth c C hP hS ls hl => ?_)
  have hx := C.1.1
  have hb := C.1.2.1
  unfold q_X8_taking at h
  refine lv_iload_n hx hb dX8_taking_0 rfl (lv_at hl 1 rfl) ?_
  refine lv_if_lt (tgt := 13) hx hb dX8_taking_1 (by decide) (fun c_1 => ?_) (fun c_1 => ?_)
  · have h := h.1 c_1
    refine lv_bipush (v := (-3 : Int32)) hx hb dX8_taking_13 (by decide) ?_
    exact s_ri C hP hS ⟨rfl, h⟩ dX8_taking_15
  · have h := h.2 c_1
    refine lv_iload_n hx hb dX8_taking_4 rfl (lv_at hl 2 rfl) ?_
    refine lv_if_lt (tgt := 13) hx hb dX8_taking_5 (by decide) (fun c_2 => ?_) (fun c_2 => ?_)
    · have h := h.1 c_2
      refine lv_bipush (v := (-3 : Int32)) hx hb dX8_taking_13 (by decide) ?_
      exact s_ri C hP hS ⟨rfl, h⟩ dX8_taking_15
    · have h := h.2 c_2
      refine lv_iload_n hx hb dX8_taking_8 rfl (lv_at hl 2 rfl) ?_
      refine lv_iconst (v := (nI 3)) hx hb dX8_taking_9 (by decide) ?_
      refine lv_icmp_le (tgt := 16) hx hb dX8_taking_10 (by decide) (fun c_3 => ?_) (fun c_3 => ?_)
      · have h := h.1 c_3
        refine lv_iload_n hx hb dX8_taking_16 rfl (lv_at hl 1 rfl) ?_
        refine lv_aload_n hx hb dX8_taking_17 rfl (lv_at hl 0 rfl) ?_
        refine s_gR g C hP 0 3 (33 + 7 * 0) (by decide) rfl rfl cfX8 (by decide) kFL_X8_33 dX8_taking_18 ?_
        refine s_gI g C hP (33 + 7 * 0) 4 (ltX_day (d := 0) (by decide)) (shX_day (d := 0) (by decide)) rfl cfX1 (by decide) kFL_X8_194 dX8_taking_21 ?_
        refine lv_icmp_ge (tgt := 34) hx hb dX8_taking_24 (by decide) (fun c_4 => ?_) (fun c_4 => ?_)
        · have h := h.1 c_4
          refine lv_iconst (v := (-1 : Int32)) hx hb dX8_taking_34 (by decide) ?_
          exact s_ri C hP hS ⟨rfl, h⟩ dX8_taking_35
        · have h := h.2 c_4
          refine lv_iload_n hx hb dX8_taking_27 rfl (lv_at hl 1 rfl) ?_
          refine lv_sipush (v := (nI 288)) hx hb dX8_taking_28 (by decide) ?_
          refine lv_icmp_lt (tgt := 36) hx hb dX8_taking_31 (by decide) (fun c_5 => ?_) (fun c_5 => ?_)
          · have h := h.1 c_5
            refine lv_aload_n hx hb dX8_taking_36 rfl (lv_at hl 0 rfl) ?_
            refine s_gR g C hP 0 3 (33 + 7 * 0) (by decide) rfl rfl cfX8 (by decide) kFL_X8_33 dX8_taking_37 ?_
            refine s_gR g C hP (33 + 7 * 0) 10 (33 + 7 * 0 + 6) (ltX_day (d := 0) (by decide)) (shX_day (d := 0) (by decide)) rfl cfX1 (by decide) kFL_X8_197 dX8_taking_40 ?_
            refine lv_iload_n hx hb dX8_taking_43 rfl (lv_at hl 1 rfl) ?_
            have hv_6 := h.1
            have h := h.2
            refine s_aI g C hP (33 + 7 * 0 + 6) (ltX_day6 (d := 0) (by decide)) (shX_day6 (d := 0) (by decide)) hv_6 dX8_taking_44 ?_
            refine lv_iconst (v := (nI 4)) hx hb dX8_taking_45 (by decide) ?_
            refine lv_iload_n hx hb dX8_taking_46 rfl (lv_at hl 2 rfl) ?_
            refine lv_imul hx hb dX8_taking_47 ?_
            refine lv_ishr hx hb dX8_taking_48 ?_
            refine lv_topi (fun x3_7 ex3_7 => ?_)
            have h := h x3_7 ex3_7
            refine lv_istore_n (lv' := [(3, .int x3_7), (0, .ref (Z.2.2.1 0)), (1, .int a1), (2, .int a2)]) hx hb dX8_taking_49 rfl hl (by decide) rfl (fun ls hl => ?_)
            refine lv_iload_n hx hb dX8_taking_50 rfl (lv_at hl 3 rfl) ?_
            refine lv_iconst (v := (nI 3)) hx hb dX8_taking_51 (by decide) ?_
            refine lv_icmp_ne (tgt := 59) hx hb dX8_taking_52 (by decide) (fun c_8 => ?_) (fun c_8 => ?_)
            · have h := h.2 c_8
              refine lv_iload_n hx hb dX8_taking_59 rfl (lv_at hl 0 rfl) ?_
              refine lv_bipush (v := (nI 15)) hx hb dX8_taking_60 (by decide) ?_
              refine lv_iand hx hb dX8_taking_62 ?_
              exact s_ri C hP hS ⟨rfl, h⟩ dX8_taking_63
            · have h := h.1 c_8
              refine lv_iload_n hx hb dX8_taking_55 rfl (lv_at hl 0 rfl) ?_
              refine lv_goto (tgt := 63) hx hb dX8_taking_56 (by decide) ?_
              exact s_ri C hP hS ⟨rfl, h⟩ dX8_taking_63
          · have h := h.2 c_5
            refine lv_iconst (v := (-1 : Int32)) hx hb dX8_taking_34 (by decide) ?_
            exact s_ri C hP hS ⟨rfl, h⟩ dX8_taking_35
      · have h := h.2 c_3
        refine lv_bipush (v := (-3 : Int32)) hx hb dX8_taking_13 (by decide) ?_
        exact s_ri C hP hS ⟨rfl, h⟩ dX8_taking_15
def q_X8_keep (S : St) (a1 : Int32) (k : Int32 → St → Prop) : Prop := (a1 < (nI 0) → (k (-2 : Int32) S)) ∧ (¬ a1 < (nI 0) → ((a1 < (nI 2) → (vp_in a1 2 ∧ (q_X1_become (3 + a1.toNatClampNeg) 0 S (fun S_4 => (∀ S_5 : St, S_5 = sI S_4 0 7 ((S_4.1 0 7) ||| ((nI 1) <<< (a1 &&& 31))) → (k (S_5.1 (33 + 7 * 0) 0) S_5)))))) ∧ (¬ a1 < (nI 2) → (k (-2 : Int32) S))))
set_option maxRecDepth 100000 in
set_option maxHeartbeats 4000000 in
theorem c_X8_keep {l : Launch} {Z : ZT} (hi : injZ 68 Z) (S : St) (a1 : Int32) (k : Int32 → St → Prop) (h : q_X8_keep S a1 k) : Mi l shX 68 Z (gX Z) yX8_keep cX8_keep 2 (Option.some .int) (rmk 3 82) [.ref (Z.2.2.1 0), .int a1] S k := by
  have g := gokX hi
  refine e_i (by decide) (Nat.le_of_ble_eq_true rfl) (lv := [(0, .ref (Z.2.2.1 0)), (1, .int a1)]) rfl (fun p e s m args below meth c C hP hS ls hl => ?_)
  have hx := C.1.1
  have hb := C.1.2.1
  unfold q_X8_keep at h
  refine lv_iload_n hx hb dX8_keep_0 rfl (lv_at hl 1 rfl) ?_
  refine lv_if_lt (tgt := 9) hx hb dX8_keep_1 (by decide) (fun c_1 => ?_) (fun c_1 => ?_)
  · have h := h.1 c_1
    refine lv_bipush (v := (-2 : Int32)) hx hb dX8_keep_9 (by decide) ?_
    exact s_ri C hP hS h dX8_keep_11
  · have h := h.2 c_1
    refine lv_iload_n hx hb dX8_keep_4 rfl (lv_at hl 1 rfl) ?_
    refine lv_iconst (v := (nI 2)) hx hb dX8_keep_5 (by decide) ?_
    refine lv_icmp_lt (tgt := 12) hx hb dX8_keep_6 (by decide) (fun c_2 => ?_) (fun c_2 => ?_)
    · have h := h.1 c_2
      refine lv_aload_n hx hb dX8_keep_12 rfl (lv_at hl 0 rfl) ?_
      refine s_gR g C hP 0 6 23 (by decide) rfl rfl cfX8 (by decide) kFL_X8_43 dX8_keep_13 ?_
      refine lv_iload_n hx hb dX8_keep_16 rfl (lv_at hl 1 rfl) ?_
      have hv_3 := h.1
      have h := h.2
      refine s_aD g C hP 23 (by decide) rfl hv_3 dX8_keep_17 ?_
      refine lv_aload_n hx hb dX8_keep_18 rfl (lv_at hl 0 rfl) ?_
      refine s_gR g C hP 0 3 (33 + 7 * 0) (by decide) rfl rfl cfX8 (by decide) kFL_X8_33 dX8_keep_19 ?_
      refine go_v (run_V g C hP hS (c0 := (33 + 7 * (3 + a1.toNatClampNeg))) (As := [.ref (Z.2.2.1 (33 + 7 * 0))]) (rest := []) (c_X1_become hi (3 + a1.toNatClampNeg) 0 (show 3 + a1.toNatClampNeg < 5 by have := vin_lt (hv_3); omega) (by decide) S _ h) cal_X1_become kML_X8_87 (ltX_day (d := (3 + a1.toNatClampNeg)) (show 3 + a1.toNatClampNeg < 5 by have := vin_lt (hv_3); omega)) (shX_day (d := (3 + a1.toNatClampNeg)) (show 3 + a1.toNatClampNeg < 5 by have := vin_lt (hv_3); omega)) cfX1 ⟨rfl, rfl, Nat.le_of_ble_eq_true rfl, Nat.le_of_ble_eq_true rfl⟩ rfl rfl hl.1 (Nat.le_of_ble_eq_true rfl) dX8_keep_22) hS (fun S_4 H locs h hP hS => ?_)
      refine lv_aload_n hx hb dX8_keep_25 rfl (lv_at hl 0 rfl) ?_
      refine lv_dup hx hb dX8_keep_26 rfl ?_
      refine s_gI g C hP 0 7 (by decide) rfl rfl cfX8 (by decide) kFL_X8_91 dX8_keep_27 ?_
      refine lv_iconst (v := (nI 1)) hx hb dX8_keep_30 (by decide) ?_
      refine lv_iload_n hx hb dX8_keep_31 rfl (lv_at hl 1 rfl) ?_
      refine lv_ishl hx hb dX8_keep_32 ?_
      refine lv_ior hx hb dX8_keep_33 ?_
      refine s_pI g C hP hS 0 7 (by decide) rfl rfl cfX8 (by decide) rfl rfl rfl kFL_X8_91 dX8_keep_34 (fun H locs hP hS => ?_)
      obtain ⟨S_5, eS_5⟩ : ∃ z_ : St, z_ = sI S_4 0 7 ((S_4.1 0 7) ||| ((nI 1) <<< (a1 &&& 31))) := ⟨_, rfl⟩
      rw [← eS_5] at hP
      have h := h S_5 eS_5
      refine lv_aload_n hx hb dX8_keep_37 rfl (lv_at hl 0 rfl) ?_
      refine s_gR g C hP 0 3 (33 + 7 * 0) (by decide) rfl rfl cfX8 (by decide) kFL_X8_33 dX8_keep_38 ?_
      refine s_gI g C hP (33 + 7 * 0) 0 (ltX_day (d := 0) (by decide)) (shX_day (d := 0) (by decide)) rfl cfX1 (by decide) kFL_X8_120 dX8_keep_41 ?_
      exact s_ri C hP hS h dX8_keep_44
    · have h := h.2 c_2
      refine lv_bipush (v := (-2 : Int32)) hx hb dX8_keep_9 (by decide) ?_
      exact s_ri C hP hS h dX8_keep_11
def q_X8_back (S : St) (a1 : Int32) (k : Int32 → St → Prop) : Prop := (a1 < (nI 0) → (k (-2 : Int32) S)) ∧ (¬ a1 < (nI 0) → ((a1 < (nI 2) → (q_X8_isIn S (S.1 0 7) a1 (fun r_3 => ((r_3 = (nI 0) → (k (-4 : Int32) S)) ∧ (¬ r_3 = (nI 0) → (vp_in a1 2 ∧ (q_X1_become 0 (3 + a1.toNatClampNeg) S (fun S_6 => (q_X5_forget 0 S_6 (fun S_7 => (k (S_7.1 (33 + 7 * 0) 0) S_7))))))))))) ∧ (¬ a1 < (nI 2) → (k (-2 : Int32) S))))
set_option maxRecDepth 100000 in
set_option maxHeartbeats 4000000 in
theorem c_X8_back {l : Launch} {Z : ZT} (hi : injZ 68 Z) (S : St) (a1 : Int32) (k : Int32 → St → Prop) (h : q_X8_back S a1 k) : Mi l shX 68 Z (gX Z) yX8_back cX8_back 2 (Option.some .int) (rmk 3 82) [.ref (Z.2.2.1 0), .int a1] S k := by
  have g := gokX hi
  refine e_i (by decide) (Nat.le_of_ble_eq_true rfl) (lv := [(0, .ref (Z.2.2.1 0)), (1, .int a1)]) rfl (fun p e s m args below meth c C hP hS ls hl => ?_)
  have hx := C.1.1
  have hb := C.1.2.1
  unfold q_X8_back at h
  refine lv_iload_n hx hb dX8_back_0 rfl (lv_at hl 1 rfl) ?_
  refine lv_if_lt (tgt := 9) hx hb dX8_back_1 (by decide) (fun c_1 => ?_) (fun c_1 => ?_)
  · have h := h.1 c_1
    refine lv_bipush (v := (-2 : Int32)) hx hb dX8_back_9 (by decide) ?_
    exact s_ri C hP hS h dX8_back_11
  · have h := h.2 c_1
    refine lv_iload_n hx hb dX8_back_4 rfl (lv_at hl 1 rfl) ?_
    refine lv_iconst (v := (nI 2)) hx hb dX8_back_5 (by decide) ?_
    refine lv_icmp_lt (tgt := 12) hx hb dX8_back_6 (by decide) (fun c_2 => ?_) (fun c_2 => ?_)
    · have h := h.1 c_2
      refine lv_aload_n hx hb dX8_back_12 rfl (lv_at hl 0 rfl) ?_
      refine s_gI g C hP 0 7 (by decide) rfl rfl cfX8 (by decide) kFL_X8_91 dX8_back_13 ?_
      refine lv_iload_n hx hb dX8_back_16 rfl (lv_at hl 1 rfl) ?_
      refine go_ip (run_S g C hP hS (As := [.int (S.1 0 7), .int a1]) (rest := []) (c_X8_isIn hi S (S.1 0 7) a1 _ h) cal_X8_isIn kML_X8_149 ⟨rfl, rfl, Nat.le_of_ble_eq_true rfl, Nat.le_of_ble_eq_true rfl⟩ rfl rfl hl.1 (Nat.le_of_ble_eq_true rfl) dX8_back_17) hS (fun r_3 H locs h hP hS => ?_)
      obtain ⟨hbr_3, h⟩ := h
      refine lv_if_ne (tgt := 26) hx hb dX8_back_20 (by decide) (fun c_4 => ?_) (fun c_4 => ?_)
      · have h := h.2 c_4
        refine lv_aload_n hx hb dX8_back_26 rfl (lv_at hl 0 rfl) ?_
        refine s_gR g C hP 0 3 (33 + 7 * 0) (by decide) rfl rfl cfX8 (by decide) kFL_X8_33 dX8_back_27 ?_
        refine lv_aload_n hx hb dX8_back_30 rfl (lv_at hl 0 rfl) ?_
        refine s_gR g C hP 0 6 23 (by decide) rfl rfl cfX8 (by decide) kFL_X8_43 dX8_back_31 ?_
        refine lv_iload_n hx hb dX8_back_34 rfl (lv_at hl 1 rfl) ?_
        have hv_5 := h.1
        have h := h.2
        refine s_aD g C hP 23 (by decide) rfl hv_5 dX8_back_35 ?_
        refine go_v (run_V g C hP hS (c0 := (33 + 7 * 0)) (As := [.ref (Z.2.2.1 (33 + 7 * (3 + a1.toNatClampNeg)))]) (rest := []) (c_X1_become hi 0 (3 + a1.toNatClampNeg) (by decide) (show 3 + a1.toNatClampNeg < 5 by have := vin_lt (hv_5); omega) S _ h) cal_X1_become kML_X8_87 (ltX_day (d := 0) (by decide)) (shX_day (d := 0) (by decide)) cfX1 ⟨rfl, rfl, Nat.le_of_ble_eq_true rfl, Nat.le_of_ble_eq_true rfl⟩ rfl rfl hl.1 (Nat.le_of_ble_eq_true rfl) dX8_back_36) hS (fun S_6 H locs h hP hS => ?_)
        refine lv_aload_n hx hb dX8_back_39 rfl (lv_at hl 0 rfl) ?_
        refine s_gR g C hP 0 8 (24 + 3 * 0) (by decide) rfl rfl cfX8 (by decide) kFL_X8_50 dX8_back_40 ?_
        refine go_v (run_V g C hP hS (c0 := (24 + 3 * 0)) (As := []) (rest := []) (c_X5_forget hi 0 (by decide) S_6 _ h) cal_X5_forget kML_X8_94 (ltX_se (q := 0) (by decide)) (shX_se (q := 0) (by decide)) cfX5 ⟨rfl, rfl, Nat.le_of_ble_eq_true rfl, Nat.le_of_ble_eq_true rfl⟩ rfl rfl hl.1 (Nat.le_of_ble_eq_true rfl) dX8_back_43) hS (fun S_7 H locs h hP hS => ?_)
        refine lv_aload_n hx hb dX8_back_46 rfl (lv_at hl 0 rfl) ?_
        refine s_gR g C hP 0 3 (33 + 7 * 0) (by decide) rfl rfl cfX8 (by decide) kFL_X8_33 dX8_back_47 ?_
        refine s_gI g C hP (33 + 7 * 0) 0 (ltX_day (d := 0) (by decide)) (shX_day (d := 0) (by decide)) rfl cfX1 (by decide) kFL_X8_120 dX8_back_50 ?_
        exact s_ri C hP hS h dX8_back_53
      · have h := h.1 c_4
        refine lv_bipush (v := (-4 : Int32)) hx hb dX8_back_23 (by decide) ?_
        exact s_ri C hP hS h dX8_back_25
    · have h := h.2 c_2
      refine lv_bipush (v := (-2 : Int32)) hx hb dX8_back_9 (by decide) ?_
      exact s_ri C hP hS h dX8_back_11
def q_X8_best_19 (a1 : Int32) (k : Int32 → St → Prop) (S : St) : Prop := ((S.1 (33 + 7 * 0) 0) < (nI 12) → (q_X5_find 0 0 S (nI 1) (fun S_2 => ((a1 = (-1 : Int32) → (k (S_2.1 (24 + 3 * 0) 1) S_2)) ∧ (¬ a1 = (-1 : Int32) → (q_X5_heightOf 0 S_2 a1 (fun r_4 => (k r_4 S_2)))))))) ∧ (¬ (S.1 (33 + 7 * 0) 0) < (nI 12) → (k (-4 : Int32) S))
set_option maxRecDepth 100000 in
set_option maxHeartbeats 4000000 in
theorem b_X8_best_19 {p : Program} {l : Launch} {e : Env} {s : State} {m : MethodId} {args : Array Value} {below : List Frame} {meth : Method} {c : Code} {Z : ZT} (hi : injZ 68 Z) (C : Cxt (gX Z) p s m meth c args yX8_best cX8_best 2 (Option.some .int)) {a1 : Int32} {k : Int32 → St → Prop}   (S : St) (H : Heap) (locs : List Loc) (ls : Array Slot) (hP : va_P Z.1 vwCl (wl shX 68 Z S) H) (hS : va_S (aa 68 Z) s.heap H locs) (hl : lv_has ls 2 [(0, .ref (Z.2.2.1 0)), (1, .int a1)]) (h : q_X8_best_19 a1 k S) : W p l e (rmk 6 158) s m args below meth c H locs 0 0 (Qi below shX 68 Z args s k) (F0 m 19 ls []) := by
  have g := gokX hi
  have hx := C.1.1
  have hb := C.1.2.1
  unfold q_X8_best_19 at h
  refine lv_aload_n hx hb dX8_best_19 rfl (lv_at hl 0 rfl) ?_
  refine s_gR g C hP 0 3 (33 + 7 * 0) (by decide) rfl rfl cfX8 (by decide) kFL_X8_33 dX8_best_20 ?_
  refine s_gI g C hP (33 + 7 * 0) 0 (ltX_day (d := 0) (by decide)) (shX_day (d := 0) (by decide)) rfl cfX1 (by decide) kFL_X8_120 dX8_best_23 ?_
  refine lv_bipush (v := (nI 12)) hx hb dX8_best_26 (by decide) ?_
  refine lv_icmp_lt (tgt := 34) hx hb dX8_best_28 (by decide) (fun c_1 => ?_) (fun c_1 => ?_)
  · have h := h.1 c_1
    refine lv_aload_n hx hb dX8_best_34 rfl (lv_at hl 0 rfl) ?_
    refine s_gR g C hP 0 8 (24 + 3 * 0) (by decide) rfl rfl cfX8 (by decide) kFL_X8_50 dX8_best_35 ?_
    refine lv_aload_n hx hb dX8_best_38 rfl (lv_at hl 0 rfl) ?_
    refine s_gR g C hP 0 3 (33 + 7 * 0) (by decide) rfl rfl cfX8 (by decide) kFL_X8_33 dX8_best_39 ?_
    refine lv_iconst (v := (nI 1)) hx hb dX8_best_42 (by decide) ?_
    refine lv_aload_n hx hb dX8_best_43 rfl (lv_at hl 0 rfl) ?_
    refine s_gR g C hP 0 5 (33 + 7 * 2) (by decide) rfl rfl cfX8 (by decide) kFL_X8_40 dX8_best_44 ?_
    refine lv_aload_n hx hb dX8_best_47 rfl (lv_at hl 0 rfl) ?_
    refine s_gR g C hP 0 1 4 (by decide) rfl rfl cfX8 (by decide) kFL_X8_19 dX8_best_48 ?_
    refine lv_aload_n hx hb dX8_best_51 rfl (lv_at hl 0 rfl) ?_
    refine s_gR g C hP 0 2 19 (by decide) rfl rfl cfX8 (by decide) kFL_X8_26 dX8_best_52 ?_
    refine go_v (run_V g C hP hS (c0 := (24 + 3 * 0)) (As := [.ref (Z.2.2.1 (33 + 7 * 0)), .int (nI 1), .ref (Z.2.2.1 (33 + 7 * 2)), .ref (Z.2.2.1 4), .ref (Z.2.2.1 19)]) (rest := []) (c_X5_find hi 0 0 (by decide) (by decide) S (nI 1) _ h) cal_X5_find kML_X8_200 (ltX_se (q := 0) (by decide)) (shX_se (q := 0) (by decide)) cfX5 ⟨rfl, rfl, Nat.le_of_ble_eq_true rfl, Nat.le_of_ble_eq_true rfl⟩ rfl rfl hl.1 (Nat.le_of_ble_eq_true rfl) dX8_best_55) hS (fun S_2 H locs h hP hS => ?_)
    refine lv_iload_n hx hb dX8_best_58 rfl (lv_at hl 1 rfl) ?_
    refine lv_iconst (v := (-1 : Int32)) hx hb dX8_best_59 (by decide) ?_
    refine lv_icmp_ne (tgt := 73) hx hb dX8_best_60 (by decide) (fun c_3 => ?_) (fun c_3 => ?_)
    · have h := h.2 c_3
      refine lv_aload_n hx hb dX8_best_73 rfl (lv_at hl 0 rfl) ?_
      refine s_gR g C hP 0 8 (24 + 3 * 0) (by decide) rfl rfl cfX8 (by decide) kFL_X8_50 dX8_best_74 ?_
      refine lv_iload_n hx hb dX8_best_77 rfl (lv_at hl 1 rfl) ?_
      refine go_ip (run_V g C hP hS (c0 := (24 + 3 * 0)) (As := [.int a1]) (rest := []) (c_X5_heightOf hi 0 (by decide) S_2 a1 _ h) cal_X5_heightOf kML_X8_207 (ltX_se (q := 0) (by decide)) (shX_se (q := 0) (by decide)) cfX5 ⟨rfl, rfl, Nat.le_of_ble_eq_true rfl, Nat.le_of_ble_eq_true rfl⟩ rfl rfl hl.1 (Nat.le_of_ble_eq_true rfl) dX8_best_78) hS (fun r_4 H locs h hP hS => ?_)
      exact s_ri C hP hS h dX8_best_81
    · have h := h.1 c_3
      refine lv_aload_n hx hb dX8_best_63 rfl (lv_at hl 0 rfl) ?_
      refine s_gR g C hP 0 8 (24 + 3 * 0) (by decide) rfl rfl cfX8 (by decide) kFL_X8_50 dX8_best_64 ?_
      refine s_gI g C hP (24 + 3 * 0) 1 (ltX_se (q := 0) (by decide)) (shX_se (q := 0) (by decide)) rfl cfX5 (by decide) kFL_X8_204 dX8_best_67 ?_
      refine lv_goto (tgt := 81) hx hb dX8_best_70 (by decide) ?_
      exact s_ri C hP hS h dX8_best_81
  · have h := h.2 c_1
    refine lv_bipush (v := (-4 : Int32)) hx hb dX8_best_31 (by decide) ?_
    exact s_ri C hP hS h dX8_best_33
def q_X8_best (S : St) (a1 : Int32) (k : Int32 → St → Prop) : Prop := (a1 = (-1 : Int32) → (q_X8_best_19 a1 k S)) ∧ (¬ a1 = (-1 : Int32) → (q_X4_isToldKite S a1 (fun r_2 => ((r_2 = (nI 0) → (k (-2 : Int32) S)) ∧ (¬ r_2 = (nI 0) → (q_X8_best_19 a1 k S))))))
set_option maxRecDepth 100000 in
set_option maxHeartbeats 4000000 in
theorem c_X8_best {l : Launch} {Z : ZT} (hi : injZ 68 Z) (S : St) (a1 : Int32) (k : Int32 → St → Prop) (h : q_X8_best S a1 k) : Mi l shX 68 Z (gX Z) yX8_best cX8_best 2 (Option.some .int) (rmk 6 158) [.ref (Z.2.2.1 0), .int a1] S k := by
  have g := gokX hi
  refine e_i (by decide) (Nat.le_of_ble_eq_true rfl) (lv := [(0, .ref (Z.2.2.1 0)), (1, .int a1)]) rfl (fun p e s m args below meth c C hP hS ls hl => ?_)
  have hx := C.1.1
  have hb := C.1.2.1
  unfold q_X8_best at h
  refine lv_iload_n hx hb dX8_best_0 rfl (lv_at hl 1 rfl) ?_
  refine lv_iconst (v := (-1 : Int32)) hx hb dX8_best_1 (by decide) ?_
  refine lv_icmp_eq (tgt := 19) hx hb dX8_best_2 (by decide) (fun c_1 => ?_) (fun c_1 => ?_)
  · have h := h.1 c_1
    exact b_X8_best_19 hi C  _ _ _ _ hP hS (lv_sub hl [0, 1] rfl) h
  · have h := h.2 c_1
    refine lv_aload_n hx hb dX8_best_5 rfl (lv_at hl 0 rfl) ?_
    refine s_gR g C hP 0 1 4 (by decide) rfl rfl cfX8 (by decide) kFL_X8_19 dX8_best_6 ?_
    refine lv_iload_n hx hb dX8_best_9 rfl (lv_at hl 1 rfl) ?_
    refine go_ip (run_V g C hP hS (c0 := 4) (As := [.int a1]) (rest := []) (c_X4_isToldKite hi S a1 _ h) cal_X4_isToldKite kML_X8_133 (by decide) rfl cfX4 ⟨rfl, rfl, Nat.le_of_ble_eq_true rfl, Nat.le_of_ble_eq_true rfl⟩ rfl rfl hl.1 (Nat.le_of_ble_eq_true rfl) dX8_best_10) hS (fun r_2 H locs h hP hS => ?_)
    obtain ⟨hbr_2, h⟩ := h
    refine lv_if_ne (tgt := 19) hx hb dX8_best_13 (by decide) (fun c_3 => ?_) (fun c_3 => ?_)
    · have h := h.2 c_3
      exact b_X8_best_19 hi C  _ _ _ _ hP hS (lv_sub hl [0, 1] rfl) h
    · have h := h.1 c_3
      refine lv_bipush (v := (-2 : Int32)) hx hb dX8_best_16 (by decide) ?_
      exact s_ri C hP hS h dX8_best_18
def q_X8_allDay_19 (a1 : Int32) (k : Int32 → St → Prop) (S : St) : Prop := q_X5_find 1 1 S (nI 12) (fun S_1 => ((a1 = (-1 : Int32) → (k (S_1.1 (24 + 3 * 1) 1) S_1)) ∧ (¬ a1 = (-1 : Int32) → (q_X5_heightOf 1 S_1 a1 (fun r_3 => (k r_3 S_1))))))
set_option maxRecDepth 100000 in
set_option maxHeartbeats 4000000 in
theorem b_X8_allDay_19 {p : Program} {l : Launch} {e : Env} {s : State} {m : MethodId} {args : Array Value} {below : List Frame} {meth : Method} {c : Code} {Z : ZT} (hi : injZ 68 Z) (C : Cxt (gX Z) p s m meth c args yX8_allDay cX8_allDay 2 (Option.some .int)) {a1 : Int32} {k : Int32 → St → Prop}   (S : St) (H : Heap) (locs : List Loc) (ls : Array Slot) (hP : va_P Z.1 vwCl (wl shX 68 Z S) H) (hS : va_S (aa 68 Z) s.heap H locs) (hl : lv_has ls 2 [(0, .ref (Z.2.2.1 0)), (1, .int a1)]) (h : q_X8_allDay_19 a1 k S) : W p l e (rmk 6 158) s m args below meth c H locs 0 0 (Qi below shX 68 Z args s k) (F0 m 19 ls []) := by
  have g := gokX hi
  have hx := C.1.1
  have hb := C.1.2.1
  unfold q_X8_allDay_19 at h
  refine lv_aload_n hx hb dX8_allDay_19 rfl (lv_at hl 0 rfl) ?_
  refine s_gR g C hP 0 9 (24 + 3 * 1) (by decide) rfl rfl cfX8 (by decide) kFL_X8_54 dX8_allDay_20 ?_
  refine lv_aload_n hx hb dX8_allDay_23 rfl (lv_at hl 0 rfl) ?_
  refine s_gR g C hP 0 4 (33 + 7 * 1) (by decide) rfl rfl cfX8 (by decide) kFL_X8_37 dX8_allDay_24 ?_
  refine lv_bipush (v := (nI 12)) hx hb dX8_allDay_27 (by decide) ?_
  refine lv_aload_n hx hb dX8_allDay_29 rfl (lv_at hl 0 rfl) ?_
  refine s_gR g C hP 0 5 (33 + 7 * 2) (by decide) rfl rfl cfX8 (by decide) kFL_X8_40 dX8_allDay_30 ?_
  refine lv_aload_n hx hb dX8_allDay_33 rfl (lv_at hl 0 rfl) ?_
  refine s_gR g C hP 0 1 4 (by decide) rfl rfl cfX8 (by decide) kFL_X8_19 dX8_allDay_34 ?_
  refine lv_aload_n hx hb dX8_allDay_37 rfl (lv_at hl 0 rfl) ?_
  refine s_gR g C hP 0 2 19 (by decide) rfl rfl cfX8 (by decide) kFL_X8_26 dX8_allDay_38 ?_
  refine go_v (run_V g C hP hS (c0 := (24 + 3 * 1)) (As := [.ref (Z.2.2.1 (33 + 7 * 1)), .int (nI 12), .ref (Z.2.2.1 (33 + 7 * 2)), .ref (Z.2.2.1 4), .ref (Z.2.2.1 19)]) (rest := []) (c_X5_find hi 1 1 (by decide) (by decide) S (nI 12) _ h) cal_X5_find kML_X8_200 (ltX_se (q := 1) (by decide)) (shX_se (q := 1) (by decide)) cfX5 ⟨rfl, rfl, Nat.le_of_ble_eq_true rfl, Nat.le_of_ble_eq_true rfl⟩ rfl rfl hl.1 (Nat.le_of_ble_eq_true rfl) dX8_allDay_41) hS (fun S_1 H locs h hP hS => ?_)
  refine lv_iload_n hx hb dX8_allDay_44 rfl (lv_at hl 1 rfl) ?_
  refine lv_iconst (v := (-1 : Int32)) hx hb dX8_allDay_45 (by decide) ?_
  refine lv_icmp_ne (tgt := 59) hx hb dX8_allDay_46 (by decide) (fun c_2 => ?_) (fun c_2 => ?_)
  · have h := h.2 c_2
    refine lv_aload_n hx hb dX8_allDay_59 rfl (lv_at hl 0 rfl) ?_
    refine s_gR g C hP 0 9 (24 + 3 * 1) (by decide) rfl rfl cfX8 (by decide) kFL_X8_54 dX8_allDay_60 ?_
    refine lv_iload_n hx hb dX8_allDay_63 rfl (lv_at hl 1 rfl) ?_
    refine go_ip (run_V g C hP hS (c0 := (24 + 3 * 1)) (As := [.int a1]) (rest := []) (c_X5_heightOf hi 1 (by decide) S_1 a1 _ h) cal_X5_heightOf kML_X8_207 (ltX_se (q := 1) (by decide)) (shX_se (q := 1) (by decide)) cfX5 ⟨rfl, rfl, Nat.le_of_ble_eq_true rfl, Nat.le_of_ble_eq_true rfl⟩ rfl rfl hl.1 (Nat.le_of_ble_eq_true rfl) dX8_allDay_64) hS (fun r_3 H locs h hP hS => ?_)
    exact s_ri C hP hS h dX8_allDay_67
  · have h := h.1 c_2
    refine lv_aload_n hx hb dX8_allDay_49 rfl (lv_at hl 0 rfl) ?_
    refine s_gR g C hP 0 9 (24 + 3 * 1) (by decide) rfl rfl cfX8 (by decide) kFL_X8_54 dX8_allDay_50 ?_
    refine s_gI g C hP (24 + 3 * 1) 1 (ltX_se (q := 1) (by decide)) (shX_se (q := 1) (by decide)) rfl cfX5 (by decide) kFL_X8_204 dX8_allDay_53 ?_
    refine lv_goto (tgt := 67) hx hb dX8_allDay_56 (by decide) ?_
    exact s_ri C hP hS h dX8_allDay_67
def q_X8_allDay (S : St) (a1 : Int32) (k : Int32 → St → Prop) : Prop := (a1 = (-1 : Int32) → (q_X8_allDay_19 a1 k S)) ∧ (¬ a1 = (-1 : Int32) → (q_X4_isToldKite S a1 (fun r_2 => ((r_2 = (nI 0) → (k (-2 : Int32) S)) ∧ (¬ r_2 = (nI 0) → (q_X8_allDay_19 a1 k S))))))
set_option maxRecDepth 100000 in
set_option maxHeartbeats 4000000 in
theorem c_X8_allDay {l : Launch} {Z : ZT} (hi : injZ 68 Z) (S : St) (a1 : Int32) (k : Int32 → St → Prop) (h : q_X8_allDay S a1 k) : Mi l shX 68 Z (gX Z) yX8_allDay cX8_allDay 2 (Option.some .int) (rmk 6 158) [.ref (Z.2.2.1 0), .int a1] S k := by
  have g := gokX hi
  refine e_i (by decide) (Nat.le_of_ble_eq_true rfl) (lv := [(0, .ref (Z.2.2.1 0)), (1, .int a1)]) rfl (fun p e s m args below meth c C hP hS ls hl => ?_)
  have hx := C.1.1
  have hb := C.1.2.1
  unfold q_X8_allDay at h
  refine lv_iload_n hx hb dX8_allDay_0 rfl (lv_at hl 1 rfl) ?_
  refine lv_iconst (v := (-1 : Int32)) hx hb dX8_allDay_1 (by decide) ?_
  refine lv_icmp_eq (tgt := 19) hx hb dX8_allDay_2 (by decide) (fun c_1 => ?_) (fun c_1 => ?_)
  · have h := h.1 c_1
    exact b_X8_allDay_19 hi C  _ _ _ _ hP hS (lv_sub hl [0, 1] rfl) h
  · have h := h.2 c_1
    refine lv_aload_n hx hb dX8_allDay_5 rfl (lv_at hl 0 rfl) ?_
    refine s_gR g C hP 0 1 4 (by decide) rfl rfl cfX8 (by decide) kFL_X8_19 dX8_allDay_6 ?_
    refine lv_iload_n hx hb dX8_allDay_9 rfl (lv_at hl 1 rfl) ?_
    refine go_ip (run_V g C hP hS (c0 := 4) (As := [.int a1]) (rest := []) (c_X4_isToldKite hi S a1 _ h) cal_X4_isToldKite kML_X8_133 (by decide) rfl cfX4 ⟨rfl, rfl, Nat.le_of_ble_eq_true rfl, Nat.le_of_ble_eq_true rfl⟩ rfl rfl hl.1 (Nat.le_of_ble_eq_true rfl) dX8_allDay_10) hS (fun r_2 H locs h hP hS => ?_)
    obtain ⟨hbr_2, h⟩ := h
    refine lv_if_ne (tgt := 19) hx hb dX8_allDay_13 (by decide) (fun c_3 => ?_) (fun c_3 => ?_)
    · have h := h.2 c_3
      exact b_X8_allDay_19 hi C  _ _ _ _ hP hS (lv_sub hl [0, 1] rfl) h
    · have h := h.1 c_3
      refine lv_bipush (v := (-2 : Int32)) hx hb dX8_allDay_16 (by decide) ?_
      exact s_ri C hP hS h dX8_allDay_18
def q_X8_caughtAllDayBy_13 (a1 : Int32) (k : Int32 → St → Prop) : Nat → St → Int32 → Prop := fun n_ => Nat.rec (motive := fun _ => St → Int32 → Prop) (fun _ _ => False) (fun _ ih => fun S x2 => ((nI 6) ≤ x2 → (q_X1_pass 2 S (nI 12) a1 (fun S_2 => (k (S_2.1 (33 + 7 * 2) 2) S_2)))) ∧ (¬ (nI 6) ≤ x2 → (vp_in x2 6 ∧ (vp_in x2 6 ∧ (∀ S_5 : St, S_5 = sI S (33 + 7 * 2 + 1) x2.toNatClampNeg (S.1 (33 + 7 * 0 + 1) x2.toNatClampNeg) → (∀ x2_6 : Int32, x2_6 = x2 + (nI 1) → (ih S_5 x2_6))))))) n_
theorem q_X8_caughtAllDayBy_13_s (a1 : Int32) (k : Int32 → St → Prop) (n_ : Nat) (S : St) (x2 : Int32) : q_X8_caughtAllDayBy_13 a1 k (n_ + 1) S x2 = (((nI 6) ≤ x2 → (q_X1_pass 2 S (nI 12) a1 (fun S_2 => (k (S_2.1 (33 + 7 * 2) 2) S_2)))) ∧ (¬ (nI 6) ≤ x2 → (vp_in x2 6 ∧ (vp_in x2 6 ∧ (∀ S_5 : St, S_5 = sI S (33 + 7 * 2 + 1) x2.toNatClampNeg (S.1 (33 + 7 * 0 + 1) x2.toNatClampNeg) → (∀ x2_6 : Int32, x2_6 = x2 + (nI 1) → ((q_X8_caughtAllDayBy_13 a1 k n_) S_5 x2_6))))))) := rfl
set_option maxRecDepth 100000 in
set_option maxHeartbeats 4000000 in
theorem b_X8_caughtAllDayBy_13 {p : Program} {l : Launch} {e : Env} {s : State} {m : MethodId} {args : Array Value} {below : List Frame} {meth : Method} {c : Code} {Z : ZT} (hi : injZ 68 Z) (C : Cxt (gX Z) p s m meth c args yX8_caughtAllDayBy cX8_caughtAllDayBy 3 (Option.some .int)) {a1 : Int32} {k : Int32 → St → Prop}   : ∀ (n_ : Nat) (S : St) (x2 : Int32) (H : Heap) (locs : List Loc) (ls : Array Slot), va_P Z.1 vwCl (wl shX 68 Z S) H → va_S (aa 68 Z) s.heap H locs → lv_has ls 3 [(0, .ref (Z.2.2.1 0)), (1, .int a1), (2, .int x2)] → q_X8_caughtAllDayBy_13 a1 k n_ S x2 → W p l e (rmk 4 103) s m args below meth c H locs 0 0 (Qi below shX 68 Z args s k) (F0 m 13 ls []) := by
  have g := gokX hi
  have hx := C.1.1
  have hb := C.1.2.1
  intro n_
  induction n_ with
  | zero => intro S x2 H locs ls hP hS hl h; exact h.elim
  | succ n_ ih =>
    intro S x2 H locs ls hP hS hl h
    rw [q_X8_caughtAllDayBy_13_s] at h
    refine lv_iload_n hx hb dX8_caughtAllDayBy_13 rfl (lv_at hl 2 rfl) ?_
    refine lv_bipush (v := (nI 6)) hx hb dX8_caughtAllDayBy_14 (by decide) ?_
    refine lv_icmp_ge (tgt := 43) hx hb dX8_caughtAllDayBy_16 (by decide) (fun c_1 => ?_) (fun c_1 => ?_)
    · have h := h.1 c_1
      refine lv_aload_n hx hb dX8_caughtAllDayBy_43 rfl (lv_at hl 0 rfl) ?_
      refine s_gR g C hP 0 5 (33 + 7 * 2) (by decide) rfl rfl cfX8 (by decide) kFL_X8_40 dX8_caughtAllDayBy_44 ?_
      refine lv_bipush (v := (nI 12)) hx hb dX8_caughtAllDayBy_47 (by decide) ?_
      refine lv_aload_n hx hb dX8_caughtAllDayBy_49 rfl (lv_at hl 0 rfl) ?_
      refine s_gR g C hP 0 1 4 (by decide) rfl rfl cfX8 (by decide) kFL_X8_19 dX8_caughtAllDayBy_50 ?_
      refine lv_aload_n hx hb dX8_caughtAllDayBy_53 rfl (lv_at hl 0 rfl) ?_
      refine s_gR g C hP 0 2 19 (by decide) rfl rfl cfX8 (by decide) kFL_X8_26 dX8_caughtAllDayBy_54 ?_
      refine lv_iload_n hx hb dX8_caughtAllDayBy_57 rfl (lv_at hl 1 rfl) ?_
      refine go_v (run_V g C hP hS (c0 := (33 + 7 * 2)) (As := [.int (nI 12), .ref (Z.2.2.1 4), .ref (Z.2.2.1 19), .int a1]) (rest := []) (c_X1_pass hi 2 (by decide) S (nI 12) a1 _ h) cal_X1_pass kML_X8_142 (ltX_day (d := 2) (by decide)) (shX_day (d := 2) (by decide)) cfX1 ⟨rfl, rfl, Nat.le_of_ble_eq_true rfl, Nat.le_of_ble_eq_true rfl⟩ rfl rfl hl.1 (Nat.le_of_ble_eq_true rfl) dX8_caughtAllDayBy_58) hS (fun S_2 H locs h hP hS => ?_)
      refine lv_aload_n hx hb dX8_caughtAllDayBy_61 rfl (lv_at hl 0 rfl) ?_
      refine s_gR g C hP 0 5 (33 + 7 * 2) (by decide) rfl rfl cfX8 (by decide) kFL_X8_40 dX8_caughtAllDayBy_62 ?_
      refine s_gI g C hP (33 + 7 * 2) 2 (ltX_day (d := 2) (by decide)) (shX_day (d := 2) (by decide)) rfl cfX1 (by decide) kFL_X8_261 dX8_caughtAllDayBy_65 ?_
      exact s_ri C hP hS h dX8_caughtAllDayBy_68
    · have h := h.2 c_1
      refine lv_aload_n hx hb dX8_caughtAllDayBy_19 rfl (lv_at hl 0 rfl) ?_
      refine s_gR g C hP 0 5 (33 + 7 * 2) (by decide) rfl rfl cfX8 (by decide) kFL_X8_40 dX8_caughtAllDayBy_20 ?_
      refine s_gR g C hP (33 + 7 * 2) 5 (33 + 7 * 2 + 1) (ltX_day (d := 2) (by decide)) (shX_day (d := 2) (by decide)) rfl cfX1 (by decide) kFL_X8_136 dX8_caughtAllDayBy_23 ?_
      refine lv_iload_n hx hb dX8_caughtAllDayBy_26 rfl (lv_at hl 2 rfl) ?_
      refine lv_aload_n hx hb dX8_caughtAllDayBy_27 rfl (lv_at hl 0 rfl) ?_
      refine s_gR g C hP 0 3 (33 + 7 * 0) (by decide) rfl rfl cfX8 (by decide) kFL_X8_33 dX8_caughtAllDayBy_28 ?_
      refine s_gR g C hP (33 + 7 * 0) 5 (33 + 7 * 0 + 1) (ltX_day (d := 0) (by decide)) (shX_day (d := 0) (by decide)) rfl cfX1 (by decide) kFL_X8_136 dX8_caughtAllDayBy_31 ?_
      refine lv_iload_n hx hb dX8_caughtAllDayBy_34 rfl (lv_at hl 2 rfl) ?_
      have hv_3 := h.1
      have h := h.2
      refine s_aI g C hP (33 + 7 * 0 + 1) (ltX_day1 (d := 0) (by decide)) (shX_day1 (d := 0) (by decide)) hv_3 dX8_caughtAllDayBy_35 ?_
      have hv_4 := h.1
      have h := h.2
      refine s_stI g C hP hS (33 + 7 * 2 + 1) (ltX_day1 (d := 2) (by decide)) (shX_day1 (d := 2) (by decide)) hv_4 dX8_caughtAllDayBy_36 (fun H locs hP hS => ?_)
      obtain ⟨S_5, eS_5⟩ : ∃ z_ : St, z_ = sI S (33 + 7 * 2 + 1) x2.toNatClampNeg (S.1 (33 + 7 * 0 + 1) x2.toNatClampNeg) := ⟨_, rfl⟩
      rw [← eS_5] at hP
      have h := h S_5 eS_5
      obtain ⟨x2_6, ex2_6⟩ : ∃ y_ : Int32, y_ = x2 + (nI 1) := ⟨_, rfl⟩
      have h := h x2_6 ex2_6
      refine lv_iinc (v := x2_6) (lv' := [(2, .int x2_6), (0, .ref (Z.2.2.1 0)), (1, .int a1)]) hx hb dX8_caughtAllDayBy_37 hl (k := 2) rfl (by rw [ex2_6]; rfl) (by decide) rfl (fun ls hl => ?_)
      refine lv_goto (tgt := 13) hx hb dX8_caughtAllDayBy_40 (by decide) ?_
      exact ih _ _ _ _ _ hP hS (lv_sub hl [1, 2, 0] rfl) h
def q_X8_caughtAllDayBy (S : St) (a1 : Int32) (k : Int32 → St → Prop) : Prop := q_X1_resume 2 1 S (fun S_1 => (∃ f_13, q_X8_caughtAllDayBy_13 a1 k f_13 S_1 (nI 0)))
set_option maxRecDepth 100000 in
set_option maxHeartbeats 4000000 in
theorem c_X8_caughtAllDayBy {l : Launch} {Z : ZT} (hi : injZ 68 Z) (S : St) (a1 : Int32) (k : Int32 → St → Prop) (h : q_X8_caughtAllDayBy S a1 k) : Mi l shX 68 Z (gX Z) yX8_caughtAllDayBy cX8_caughtAllDayBy 3 (Option.some .int) (rmk 4 103) [.ref (Z.2.2.1 0), .int a1] S k := by
  have g := gokX hi
  refine e_i (by decide) (Nat.le_of_ble_eq_true rfl) (lv := [(0, .ref (Z.2.2.1 0)), (1, .int a1)]) rfl (fun p e s m args below meth c C hP hS ls hl => ?_)
  have hx := C.1.1
  have hb := C.1.2.1
  unfold q_X8_caughtAllDayBy at h
  refine lv_aload_n hx hb dX8_caughtAllDayBy_0 rfl (lv_at hl 0 rfl) ?_
  refine s_gR g C hP 0 5 (33 + 7 * 2) (by decide) rfl rfl cfX8 (by decide) kFL_X8_40 dX8_caughtAllDayBy_1 ?_
  refine lv_aload_n hx hb dX8_caughtAllDayBy_4 rfl (lv_at hl 0 rfl) ?_
  refine s_gR g C hP 0 4 (33 + 7 * 1) (by decide) rfl rfl cfX8 (by decide) kFL_X8_37 dX8_caughtAllDayBy_5 ?_
  refine go_v (run_V g C hP hS (c0 := (33 + 7 * 2)) (As := [.ref (Z.2.2.1 (33 + 7 * 1))]) (rest := []) (c_X1_resume hi 2 1 (by decide) (by decide) S _ h) cal_X1_resume kML_X8_267 (ltX_day (d := 2) (by decide)) (shX_day (d := 2) (by decide)) cfX1 ⟨rfl, rfl, Nat.le_of_ble_eq_true rfl, Nat.le_of_ble_eq_true rfl⟩ rfl rfl hl.1 (Nat.le_of_ble_eq_true rfl) dX8_caughtAllDayBy_8) hS (fun S_1 H locs h hP hS => ?_)
  refine lv_iconst (v := (nI 0)) hx hb dX8_caughtAllDayBy_11 (by decide) ?_
  refine lv_istore_n (lv' := [(2, .int (nI 0)), (0, .ref (Z.2.2.1 0)), (1, .int a1)]) hx hb dX8_caughtAllDayBy_12 rfl hl (by decide) rfl (fun ls hl => ?_)
  obtain ⟨f_13, h⟩ := h
  exact b_X8_caughtAllDayBy_13 hi C  f_13 _ _ _ _ _ hP hS (lv_sub hl [1, 2, 0] rfl) h
def q_X8_laws_45 (a1 : Int32) (k : Int32 → St → Prop) (e_19 : St → Int32 → Int32 → Int32 → Prop) (S : St) (x2 : Int32) (x3 : Int32) (x4 : Int32) : Prop := ∀ x4_1 : Int32, x4_1 = x4 + (nI 1) → (e_19 S x2 x3 x4_1)
set_option maxRecDepth 100000 in
set_option maxHeartbeats 4000000 in
theorem b_X8_laws_45 {p : Program} {l : Launch} {e : Env} {s : State} {m : MethodId} {args : Array Value} {below : List Frame} {meth : Method} {c : Code} {Z : ZT} (hi : injZ 68 Z) (C : Cxt (gX Z) p s m meth c args yX8_laws cX8_laws 6 (Option.some .int)) {a1 : Int32} {k : Int32 → St → Prop} {e_19 : St → Int32 → Int32 → Int32 → Prop}  (he_19 : ∀ (S : St) (x2 : Int32) (x3 : Int32) (x4 : Int32) (H : Heap) (locs : List Loc) (ls : Array Slot), va_P Z.1 vwCl (wl shX 68 Z S) H → va_S (aa 68 Z) s.heap H locs → lv_has ls 6 [(0, .ref (Z.2.2.1 0)), (1, .int a1), (2, .int x2), (3, .int x3), (4, .int x4)] → e_19 S x2 x3 x4 → W p l e (rmk 5 125) s m args below meth c H locs 0 0 (Qi below shX 68 Z args s k) (F0 m 19 ls [])) (S : St) (x2 : Int32) (x3 : Int32) (x4 : Int32) (H : Heap) (locs : List Loc) (ls : Array Slot) (hP : va_P Z.1 vwCl (wl shX 68 Z S) H) (hS : va_S (aa 68 Z) s.heap H locs) (hl : lv_has ls 6 [(0, .ref (Z.2.2.1 0)), (1, .int a1), (2, .int x2), (3, .int x3), (4, .int x4)]) (h : q_X8_laws_45 a1 k e_19 S x2 x3 x4) : W p l e (rmk 5 125) s m args below meth c H locs 0 0 (Qi below shX 68 Z args s k) (F0 m 45 ls []) := by
  have g := gokX hi
  have hx := C.1.1
  have hb := C.1.2.1
  unfold q_X8_laws_45 at h
  obtain ⟨x4_1, ex4_1⟩ : ∃ y_ : Int32, y_ = x4 + (nI 1) := ⟨_, rfl⟩
  have h := h x4_1 ex4_1
  refine lv_iinc (v := x4_1) (lv' := [(4, .int x4_1), (0, .ref (Z.2.2.1 0)), (1, .int a1), (2, .int x2), (3, .int x3)]) hx hb dX8_laws_45 hl (k := 4) rfl (by rw [ex4_1]; rfl) (by decide) rfl (fun ls hl => ?_)
  refine lv_goto (tgt := 19) hx hb dX8_laws_48 (by decide) ?_
  exact he_19 _ _ _ _ _ _ _ hP hS (lv_sub hl [1, 2, 3, 4, 0] rfl) h
def q_X8_laws_19 (a1 : Int32) (k : Int32 → St → Prop) : Nat → St → Int32 → Int32 → Int32 → Prop := fun n_ => Nat.rec (motive := fun _ => St → Int32 → Int32 → Int32 → Prop) (fun _ _ _ _ => False) (fun _ ih => fun S x2 x3 x4 => ((nI 3) ≤ x4 → ((a1 = (nI 0) → (k x2 S)) ∧ (¬ a1 = (nI 0) → (k x3 S)))) ∧ (¬ (nI 3) ≤ x4 → (q_X8_caughtAllDayBy S x4 (fun r_3 S_4 => ((r_3 ≤ x3 → (q_X8_laws_45 a1 k ih S_4 x2 x3 x4)) ∧ (¬ r_3 ≤ x3 → (q_X8_laws_45 a1 k ih S_4 x4 r_3 x4))))))) n_
theorem q_X8_laws_19_s (a1 : Int32) (k : Int32 → St → Prop) (n_ : Nat) (S : St) (x2 : Int32) (x3 : Int32) (x4 : Int32) : q_X8_laws_19 a1 k (n_ + 1) S x2 x3 x4 = (((nI 3) ≤ x4 → ((a1 = (nI 0) → (k x2 S)) ∧ (¬ a1 = (nI 0) → (k x3 S)))) ∧ (¬ (nI 3) ≤ x4 → (q_X8_caughtAllDayBy S x4 (fun r_3 S_4 => ((r_3 ≤ x3 → (q_X8_laws_45 a1 k (q_X8_laws_19 a1 k n_) S_4 x2 x3 x4)) ∧ (¬ r_3 ≤ x3 → (q_X8_laws_45 a1 k (q_X8_laws_19 a1 k n_) S_4 x4 r_3 x4))))))) := rfl
set_option maxRecDepth 100000 in
set_option maxHeartbeats 4000000 in
theorem b_X8_laws_19 {p : Program} {l : Launch} {e : Env} {s : State} {m : MethodId} {args : Array Value} {below : List Frame} {meth : Method} {c : Code} {Z : ZT} (hi : injZ 68 Z) (C : Cxt (gX Z) p s m meth c args yX8_laws cX8_laws 6 (Option.some .int)) {a1 : Int32} {k : Int32 → St → Prop}   : ∀ (n_ : Nat) (S : St) (x2 : Int32) (x3 : Int32) (x4 : Int32) (H : Heap) (locs : List Loc) (ls : Array Slot), va_P Z.1 vwCl (wl shX 68 Z S) H → va_S (aa 68 Z) s.heap H locs → lv_has ls 6 [(0, .ref (Z.2.2.1 0)), (1, .int a1), (2, .int x2), (3, .int x3), (4, .int x4)] → q_X8_laws_19 a1 k n_ S x2 x3 x4 → W p l e (rmk 5 125) s m args below meth c H locs 0 0 (Qi below shX 68 Z args s k) (F0 m 19 ls []) := by
  have g := gokX hi
  have hx := C.1.1
  have hb := C.1.2.1
  intro n_
  induction n_ with
  | zero => intro S x2 x3 x4 H locs ls hP hS hl h; exact h.elim
  | succ n_ ih =>
    intro S x2 x3 x4 H locs ls hP hS hl h
    rw [q_X8_laws_19_s] at h
    refine lv_iload hx hb dX8_laws_19 (lv_at hl 4 rfl) ?_
    refine lv_iconst (v := (nI 3)) hx hb dX8_laws_21 (by decide) ?_
    refine lv_icmp_ge (tgt := 51) hx hb dX8_laws_22 (by decide) (fun c_1 => ?_) (fun c_1 => ?_)
    · have h := h.1 c_1
      refine lv_iload_n hx hb dX8_laws_51 rfl (lv_at hl 1 rfl) ?_
      refine lv_if_ne (tgt := 59) hx hb dX8_laws_52 (by decide) (fun c_2 => ?_) (fun c_2 => ?_)
      · have h := h.2 c_2
        refine lv_iload_n hx hb dX8_laws_59 rfl (lv_at hl 3 rfl) ?_
        exact s_ri C hP hS h dX8_laws_60
      · have h := h.1 c_2
        refine lv_iload_n hx hb dX8_laws_55 rfl (lv_at hl 2 rfl) ?_
        refine lv_goto (tgt := 60) hx hb dX8_laws_56 (by decide) ?_
        exact s_ri C hP hS h dX8_laws_60
    · have h := h.2 c_1
      refine lv_aload_n hx hb dX8_laws_25 rfl (lv_at hl 0 rfl) ?_
      refine lv_iload hx hb dX8_laws_26 (lv_at hl 4 rfl) ?_
      refine go_i (run_V g C hP hS (c0 := 0) (As := [.int x4]) (rest := []) (c_X8_caughtAllDayBy hi S x4 _ h) cal_X8_caughtAllDayBy kML_X8_211 (by decide) rfl cfX8 ⟨rfl, rfl, Nat.le_of_ble_eq_true rfl, Nat.le_of_ble_eq_true rfl⟩ rfl rfl hl.1 (Nat.le_of_ble_eq_true rfl) dX8_laws_28) hS (fun r_3 S_4 H locs h hP hS => ?_)
      refine lv_istore (lv' := [(5, .int r_3), (0, .ref (Z.2.2.1 0)), (1, .int a1), (2, .int x2), (3, .int x3), (4, .int x4)]) hx hb dX8_laws_31 hl (by decide) rfl (fun ls hl => ?_)
      refine lv_iload hx hb dX8_laws_33 (lv_at hl 0 rfl) ?_
      refine lv_iload_n hx hb dX8_laws_35 rfl (lv_at hl 4 rfl) ?_
      refine lv_icmp_le (tgt := 45) hx hb dX8_laws_36 (by decide) (fun c_5 => ?_) (fun c_5 => ?_)
      · have h := h.1 c_5
        exact b_X8_laws_45 hi C ih _ _ _ _ _ _ _ hP hS (lv_sub hl [1, 2, 3, 4, 5] rfl) h
      · have h := h.2 c_5
        refine lv_iload hx hb dX8_laws_39 (lv_at hl 0 rfl) ?_
        refine lv_istore_n (lv' := [(3, .int r_3), (5, .int r_3), (0, .ref (Z.2.2.1 0)), (1, .int a1), (2, .int x2), (4, .int x4)]) hx hb dX8_laws_41 rfl hl (by decide) rfl (fun ls hl => ?_)
        refine lv_iload hx hb dX8_laws_42 (lv_at hl 5 rfl) ?_
        refine lv_istore_n (lv' := [(2, .int x4), (3, .int r_3), (5, .int r_3), (0, .ref (Z.2.2.1 0)), (1, .int a1), (4, .int x4)]) hx hb dX8_laws_44 rfl hl (by decide) rfl (fun ls hl => ?_)
        exact b_X8_laws_45 hi C ih _ _ _ _ _ _ _ hP hS (lv_sub hl [3, 4, 0, 1, 5] rfl) h
def q_X8_laws (S : St) (a1 : Int32) (k : Int32 → St → Prop) : Prop := (a1 < (nI 0) → (k (-3 : Int32) S)) ∧ (¬ a1 < (nI 0) → ((a1 ≤ (nI 1) → (∃ f_19, q_X8_laws_19 a1 k f_19 S (nI 0) (-1 : Int32) (nI 0))) ∧ (¬ a1 ≤ (nI 1) → (k (-3 : Int32) S))))
set_option maxRecDepth 100000 in
set_option maxHeartbeats 4000000 in
theorem c_X8_laws {l : Launch} {Z : ZT} (hi : injZ 68 Z) (S : St) (a1 : Int32) (k : Int32 → St → Prop) (h : q_X8_laws S a1 k) : Mi l shX 68 Z (gX Z) yX8_laws cX8_laws 6 (Option.some .int) (rmk 5 125) [.ref (Z.2.2.1 0), .int a1] S k := by
  have g := gokX hi
  refine e_i (by decide) (Nat.le_of_ble_eq_true rfl) (lv := [(0, .ref (Z.2.2.1 0)), (1, .int a1)]) rfl (fun p e s m args below meth c C hP hS ls hl => ?_)
  have hx := C.1.1
  have hb := C.1.2.1
  unfold q_X8_laws at h
  refine lv_iload_n hx hb dX8_laws_0 rfl (lv_at hl 1 rfl) ?_
  refine lv_if_lt (tgt := 9) hx hb dX8_laws_1 (by decide) (fun c_1 => ?_) (fun c_1 => ?_)
  · have h := h.1 c_1
    refine lv_bipush (v := (-3 : Int32)) hx hb dX8_laws_9 (by decide) ?_
    exact s_ri C hP hS h dX8_laws_11
  · have h := h.2 c_1
    refine lv_iload_n hx hb dX8_laws_4 rfl (lv_at hl 1 rfl) ?_
    refine lv_iconst (v := (nI 1)) hx hb dX8_laws_5 (by decide) ?_
    refine lv_icmp_le (tgt := 12) hx hb dX8_laws_6 (by decide) (fun c_2 => ?_) (fun c_2 => ?_)
    · have h := h.1 c_2
      refine lv_iconst (v := (nI 0)) hx hb dX8_laws_12 (by decide) ?_
      refine lv_istore_n (lv' := [(2, .int (nI 0)), (0, .ref (Z.2.2.1 0)), (1, .int a1)]) hx hb dX8_laws_13 rfl hl (by decide) rfl (fun ls hl => ?_)
      refine lv_iconst (v := (-1 : Int32)) hx hb dX8_laws_14 (by decide) ?_
      refine lv_istore_n (lv' := [(3, .int (-1 : Int32)), (2, .int (nI 0)), (0, .ref (Z.2.2.1 0)), (1, .int a1)]) hx hb dX8_laws_15 rfl hl (by decide) rfl (fun ls hl => ?_)
      refine lv_iconst (v := (nI 0)) hx hb dX8_laws_16 (by decide) ?_
      refine lv_istore (lv' := [(4, .int (nI 0)), (3, .int (-1 : Int32)), (2, .int (nI 0)), (0, .ref (Z.2.2.1 0)), (1, .int a1)]) hx hb dX8_laws_17 hl (by decide) rfl (fun ls hl => ?_)
      obtain ⟨f_19, h⟩ := h
      exact b_X8_laws_19 hi C  f_19 _ _ _ _ _ _ _ hP hS (lv_sub hl [3, 4, 2, 1, 0] rfl) h
    · have h := h.2 c_2
      refine lv_bipush (v := (-3 : Int32)) hx hb dX8_laws_9 (by decide) ?_
      exact s_ri C hP hS h dX8_laws_11
def q_X8_tenToThe_4 (a1 : Int32) (S : St) (k : Int64 → Prop) : Nat → Int64 → Int32 → Prop := fun n_ => Nat.rec (motive := fun _ => Int64 → Int32 → Prop) (fun _ _ => False) (fun _ ih => fun x1 x3 => (a1 ≤ x3 → (k x1)) ∧ (¬ a1 ≤ x3 → (∀ x1_2 : Int64, x1_2 = (x1 * (lN 10)) → (∀ x3_3 : Int32, x3_3 = x3 + (nI 1) → (ih x1_2 x3_3))))) n_
theorem q_X8_tenToThe_4_s (a1 : Int32) (S : St) (k : Int64 → Prop) (n_ : Nat) (x1 : Int64) (x3 : Int32) : q_X8_tenToThe_4 a1 S k (n_ + 1) x1 x3 = ((a1 ≤ x3 → (k x1)) ∧ (¬ a1 ≤ x3 → (∀ x1_2 : Int64, x1_2 = (x1 * (lN 10)) → (∀ x3_3 : Int32, x3_3 = x3 + (nI 1) → ((q_X8_tenToThe_4 a1 S k n_) x1_2 x3_3))))) := rfl
set_option maxRecDepth 100000 in
set_option maxHeartbeats 4000000 in
theorem b_X8_tenToThe_4 {p : Program} {l : Launch} {e : Env} {s : State} {m : MethodId} {args : Array Value} {below : List Frame} {meth : Method} {c : Code} {Z : ZT} (hi : injZ 68 Z) (C : Cxt (gX Z) p s m meth c args yX8_tenToThe cX8_tenToThe 4 (Option.some .long)) {a1 : Int32} {S : St} {k : Int64 → Prop}   : ∀ (n_ : Nat) (x1 : Int64) (x3 : Int32) (H : Heap) (locs : List Loc) (ls : Array Slot), va_P Z.1 vwCl (wl shX 68 Z S) H → va_S (aa 68 Z) s.heap H locs → lv_has ls 4 [(0, .int a1), (1, .long x1), (3, .int x3)] → q_X8_tenToThe_4 a1 S k n_ x1 x3 → W p l e (rmk 0 0) s m args below meth c H locs 0 0 (Ql below shX 68 Z args s (fun r S' => S' = S ∧ k r)) (F0 m 4 ls []) := by
  have g := gokX hi
  have hx := C.1.1
  have hb := C.1.2.1
  intro n_
  induction n_ with
  | zero => intro x1 x3 H locs ls hP hS hl h; exact h.elim
  | succ n_ ih =>
    intro x1 x3 H locs ls hP hS hl h
    rw [q_X8_tenToThe_4_s] at h
    refine lv_iload_n hx hb dX8_tenToThe_4 rfl (lv_at hl 2 rfl) ?_
    refine lv_iload_n hx hb dX8_tenToThe_5 rfl (lv_at hl 0 rfl) ?_
    refine lv_icmp_ge (tgt := 21) hx hb dX8_tenToThe_6 (by decide) (fun c_1 => ?_) (fun c_1 => ?_)
    · have h := h.1 c_1
      refine lv_lload_n hx hb dX8_tenToThe_21 rfl (lv_at hl 1 rfl) ?_
      exact s_rl C hP hS ⟨rfl, h⟩ dX8_tenToThe_22
    · have h := h.2 c_1
      refine lv_lload_n hx hb dX8_tenToThe_9 rfl (lv_at hl 1 rfl) ?_
      refine lv_ldc2 (v := (lN 10)) hx hb C.1.2.2.2.1 (C.1.2.2.2.2 _ (List.mem_cons_of_mem _ kCO_X8_270)) dX8_tenToThe_10 ?_
      refine lv_lmul hx hb dX8_tenToThe_13 ?_
      refine lv_topl (fun x1_2 ex1_2 => ?_)
      have h := h x1_2 ex1_2
      refine lv_lstore_n (lv' := [(1, .long x1_2), (0, .int a1), (3, .int x3)]) hx hb dX8_tenToThe_14 rfl hl (by decide) rfl (fun ls hl => ?_)
      obtain ⟨x3_3, ex3_3⟩ : ∃ y_ : Int32, y_ = x3 + (nI 1) := ⟨_, rfl⟩
      have h := h x3_3 ex3_3
      refine lv_iinc (v := x3_3) (lv' := [(3, .int x3_3), (1, .long x1_2), (0, .int a1)]) hx hb dX8_tenToThe_15 hl (k := 2) rfl (by rw [ex3_3]; rfl) (by decide) rfl (fun ls hl => ?_)
      refine lv_goto (tgt := 4) hx hb dX8_tenToThe_18 (by decide) ?_
      exact ih _ _ _ _ _ hP hS (lv_sub hl [2, 1, 0] rfl) h
def q_X8_tenToThe (S : St) (a1 : Int32) (k : Int64 → Prop) : Prop := ∃ f_4, q_X8_tenToThe_4 a1 S k f_4 (lN 1) (nI 0)
set_option maxRecDepth 100000 in
set_option maxHeartbeats 4000000 in
theorem c_X8_tenToThe {l : Launch} {Z : ZT} (hi : injZ 68 Z) (S : St) (a1 : Int32) (k : Int64 → Prop) (h : q_X8_tenToThe S a1 k) : Ml l shX 68 Z (gX Z) yX8_tenToThe cX8_tenToThe 4 (Option.some .long) (rmk 0 0) [.int a1] S (fun r S' => S' = S ∧ k r) := by
  have g := gokX hi
  refine e_l (by decide) (Nat.le_of_ble_eq_true rfl) (lv := [(0, .int a1)]) rfl (fun p e s m args below meth c C hP hS ls hl => ?_)
  have hx := C.1.1
  have hb := C.1.2.1
  unfold q_X8_tenToThe at h
  refine lv_lconst (v := (lN 1)) hx hb dX8_tenToThe_0 (by decide) ?_
  refine lv_lstore_n (lv' := [(1, .long (lN 1)), (0, .int a1)]) hx hb dX8_tenToThe_1 rfl hl (by decide) rfl (fun ls hl => ?_)
  refine lv_iconst (v := (nI 0)) hx hb dX8_tenToThe_2 (by decide) ?_
  refine lv_istore_n (lv' := [(3, .int (nI 0)), (1, .long (lN 1)), (0, .int a1)]) hx hb dX8_tenToThe_3 rfl hl (by decide) rfl (fun ls hl => ?_)
  obtain ⟨f_4, h⟩ := h
  exact b_X8_tenToThe_4 hi C  f_4 _ _ _ _ _ hP hS (lv_sub hl [2, 1, 0] rfl) h
def q_X8_lowestTerm_55 (a1 : Int64) (a2 : Int64) (a3 : Int32) (S : St) (k : Int64 → Prop) (x5 : Int64) (t0 : Int64) : Prop := ((lg_cmp x5 (lN 0)) ≤ (nI 0) → (k t0)) ∧ (¬ (lg_cmp x5 (lN 0)) ≤ (nI 0) → (¬ x5 = (lN 0) ∧ (k (t0 / x5))))
set_option maxRecDepth 100000 in
set_option maxHeartbeats 4000000 in
theorem b_X8_lowestTerm_55 {p : Program} {l : Launch} {e : Env} {s : State} {m : MethodId} {args : Array Value} {below : List Frame} {meth : Method} {c : Code} {Z : ZT} (hi : injZ 68 Z) (C : Cxt (gX Z) p s m meth c args yX8_lowestTerm cX8_lowestTerm 12 (Option.some .long)) {a1 : Int64} {a2 : Int64} {a3 : Int32} {S : St} {k : Int64 → Prop}   (x5 : Int64) (t0 : Int64) (H : Heap) (locs : List Loc) (ls : Array Slot) (hP : va_P Z.1 vwCl (wl shX 68 Z S) H) (hS : va_S (aa 68 Z) s.heap H locs) (hl : lv_has ls 12 [(5, .long x5)]) (h : q_X8_lowestTerm_55 a1 a2 a3 S k x5 t0) : W p l e (rmk 0 0) s m args below meth c H locs 0 0 (Ql below shX 68 Z args s (fun r S' => S' = S ∧ k r)) (F0 m 55 ls [.long t0]) := by
  have g := gokX hi
  have hx := C.1.1
  have hb := C.1.2.1
  unfold q_X8_lowestTerm_55 at h
  refine lv_lstore (lv' := [(9, .long t0), (5, .long x5)]) hx hb dX8_lowestTerm_55 hl (by decide) rfl (fun ls hl => ?_)
  refine lv_lload hx hb dX8_lowestTerm_57 (lv_at hl 1 rfl) ?_
  refine lv_lconst (v := (lN 0)) hx hb dX8_lowestTerm_59 (by decide) ?_
  refine W.lcmp hx hb dX8_lowestTerm_60 ?_
  refine lv_if_le (tgt := 72) hx hb dX8_lowestTerm_61 (by decide) (fun c_1 => ?_) (fun c_1 => ?_)
  · have h := h.1 c_1
    refine lv_lload hx hb dX8_lowestTerm_72 (lv_at hl 0 rfl) ?_
    exact s_rl C hP hS ⟨rfl, h⟩ dX8_lowestTerm_74
  · have h := h.2 c_1
    refine lv_lload hx hb dX8_lowestTerm_64 (lv_at hl 0 rfl) ?_
    refine lv_lload hx hb dX8_lowestTerm_66 (lv_at hl 1 rfl) ?_
    have hn_2 := h.1
    have h := h.2
    refine lv_ldiv hx hb dX8_lowestTerm_68 hn_2 ?_
    refine lv_goto (tgt := 74) hx hb dX8_lowestTerm_69 (by decide) ?_
    exact s_rl C hP hS ⟨rfl, h⟩ dX8_lowestTerm_74
def q_X8_lowestTerm_45 (a1 : Int64) (a2 : Int64) (a3 : Int32) (S : St) (k : Int64 → Prop) (x5 : Int64) : Prop := (a3 = (nI 0) → (q_X8_lowestTerm_55 a1 a2 a3 S k x5 a1)) ∧ (¬ a3 = (nI 0) → (q_X8_lowestTerm_55 a1 a2 a3 S k x5 a2))
set_option maxRecDepth 100000 in
set_option maxHeartbeats 4000000 in
theorem b_X8_lowestTerm_45 {p : Program} {l : Launch} {e : Env} {s : State} {m : MethodId} {args : Array Value} {below : List Frame} {meth : Method} {c : Code} {Z : ZT} (hi : injZ 68 Z) (C : Cxt (gX Z) p s m meth c args yX8_lowestTerm cX8_lowestTerm 12 (Option.some .long)) {a1 : Int64} {a2 : Int64} {a3 : Int32} {S : St} {k : Int64 → Prop}   (x5 : Int64) (H : Heap) (locs : List Loc) (ls : Array Slot) (hP : va_P Z.1 vwCl (wl shX 68 Z S) H) (hS : va_S (aa 68 Z) s.heap H locs) (hl : lv_has ls 12 [(0, .long a1), (2, .long a2), (4, .int a3), (5, .long x5)]) (h : q_X8_lowestTerm_45 a1 a2 a3 S k x5) : W p l e (rmk 0 0) s m args below meth c H locs 0 0 (Ql below shX 68 Z args s (fun r S' => S' = S ∧ k r)) (F0 m 45 ls []) := by
  have g := gokX hi
  have hx := C.1.1
  have hb := C.1.2.1
  unfold q_X8_lowestTerm_45 at h
  refine lv_iload hx hb dX8_lowestTerm_45 (lv_at hl 2 rfl) ?_
  refine lv_if_ne (tgt := 54) hx hb dX8_lowestTerm_47 (by decide) (fun c_1 => ?_) (fun c_1 => ?_)
  · have h := h.2 c_1
    refine lv_lload_n hx hb dX8_lowestTerm_54 rfl (lv_at hl 1 rfl) ?_
    exact b_X8_lowestTerm_55 hi C  _ _ _ _ _ hP hS (lv_sub hl [3] rfl) h
  · have h := h.1 c_1
    refine lv_lload_n hx hb dX8_lowestTerm_50 rfl (lv_at hl 0 rfl) ?_
    refine lv_goto (tgt := 55) hx hb dX8_lowestTerm_51 (by decide) ?_
    exact b_X8_lowestTerm_55 hi C  _ _ _ _ _ hP hS (lv_sub hl [3] rfl) h
def q_X8_lowestTerm_9 (a1 : Int64) (a2 : Int64) (a3 : Int32) (S : St) (k : Int64 → Prop) : Nat → Int64 → Int64 → Int32 → Prop := fun n_ => Nat.rec (motive := fun _ => Int64 → Int64 → Int32 → Prop) (fun _ _ _ => False) (fun _ ih => fun x5 x7 x9 => ((nI 1000) ≤ x9 → (q_X8_lowestTerm_45 a1 a2 a3 S k x5)) ∧ (¬ (nI 1000) ≤ x9 → (((lg_cmp x7 (lN 0)) = (nI 0) → (q_X8_lowestTerm_45 a1 a2 a3 S k x5)) ∧ (¬ (lg_cmp x7 (lN 0)) = (nI 0) → (¬ x7 = (lN 0) ∧ (∀ x10_4 : Int64, x10_4 = (x5 - x5 / x7 * x7) → (∀ x9_5 : Int32, x9_5 = x9 + (nI 1) → (ih x7 x10_4 x9_5)))))))) n_
theorem q_X8_lowestTerm_9_s (a1 : Int64) (a2 : Int64) (a3 : Int32) (S : St) (k : Int64 → Prop) (n_ : Nat) (x5 : Int64) (x7 : Int64) (x9 : Int32) : q_X8_lowestTerm_9 a1 a2 a3 S k (n_ + 1) x5 x7 x9 = (((nI 1000) ≤ x9 → (q_X8_lowestTerm_45 a1 a2 a3 S k x5)) ∧ (¬ (nI 1000) ≤ x9 → (((lg_cmp x7 (lN 0)) = (nI 0) → (q_X8_lowestTerm_45 a1 a2 a3 S k x5)) ∧ (¬ (lg_cmp x7 (lN 0)) = (nI 0) → (¬ x7 = (lN 0) ∧ (∀ x10_4 : Int64, x10_4 = (x5 - x5 / x7 * x7) → (∀ x9_5 : Int32, x9_5 = x9 + (nI 1) → ((q_X8_lowestTerm_9 a1 a2 a3 S k n_) x7 x10_4 x9_5)))))))) := rfl
set_option maxRecDepth 100000 in
set_option maxHeartbeats 4000000 in
theorem b_X8_lowestTerm_9 {p : Program} {l : Launch} {e : Env} {s : State} {m : MethodId} {args : Array Value} {below : List Frame} {meth : Method} {c : Code} {Z : ZT} (hi : injZ 68 Z) (C : Cxt (gX Z) p s m meth c args yX8_lowestTerm cX8_lowestTerm 12 (Option.some .long)) {a1 : Int64} {a2 : Int64} {a3 : Int32} {S : St} {k : Int64 → Prop}   : ∀ (n_ : Nat) (x5 : Int64) (x7 : Int64) (x9 : Int32) (H : Heap) (locs : List Loc) (ls : Array Slot), va_P Z.1 vwCl (wl shX 68 Z S) H → va_S (aa 68 Z) s.heap H locs → lv_has ls 12 [(0, .long a1), (2, .long a2), (4, .int a3), (5, .long x5), (7, .long x7), (9, .int x9)] → q_X8_lowestTerm_9 a1 a2 a3 S k n_ x5 x7 x9 → W p l e (rmk 0 0) s m args below meth c H locs 0 0 (Ql below shX 68 Z args s (fun r S' => S' = S ∧ k r)) (F0 m 9 ls []) := by
  have g := gokX hi
  have hx := C.1.1
  have hb := C.1.2.1
  intro n_
  induction n_ with
  | zero => intro x5 x7 x9 H locs ls hP hS hl h; exact h.elim
  | succ n_ ih =>
    intro x5 x7 x9 H locs ls hP hS hl h
    rw [q_X8_lowestTerm_9_s] at h
    refine lv_iload hx hb dX8_lowestTerm_9 (lv_at hl 5 rfl) ?_
    refine lv_sipush (v := (nI 1000)) hx hb dX8_lowestTerm_11 (by decide) ?_
    refine lv_icmp_ge (tgt := 45) hx hb dX8_lowestTerm_14 (by decide) (fun c_1 => ?_) (fun c_1 => ?_)
    · have h := h.1 c_1
      exact b_X8_lowestTerm_45 hi C  _ _ _ _ hP hS (lv_sub hl [0, 1, 2, 3] rfl) h
    · have h := h.2 c_1
      refine lv_lload hx hb dX8_lowestTerm_17 (lv_at hl 4 rfl) ?_
      refine lv_lconst (v := (lN 0)) hx hb dX8_lowestTerm_19 (by decide) ?_
      refine W.lcmp hx hb dX8_lowestTerm_20 ?_
      refine lv_if_eq (tgt := 45) hx hb dX8_lowestTerm_21 (by decide) (fun c_2 => ?_) (fun c_2 => ?_)
      · have h := h.1 c_2
        exact b_X8_lowestTerm_45 hi C  _ _ _ _ hP hS (lv_sub hl [0, 1, 2, 3] rfl) h
      · have h := h.2 c_2
        refine lv_lload hx hb dX8_lowestTerm_24 (lv_at hl 3 rfl) ?_
        refine lv_lload hx hb dX8_lowestTerm_26 (lv_at hl 4 rfl) ?_
        have hn_3 := h.1
        have h := h.2
        refine lv_lrem hx hb dX8_lowestTerm_28 hn_3 ?_
        refine lv_topl (fun x10_4 ex10_4 => ?_)
        have h := h x10_4 ex10_4
        refine lv_lstore (lv' := [(10, .long x10_4), (0, .long a1), (2, .long a2), (4, .int a3), (5, .long x5), (7, .long x7), (9, .int x9)]) hx hb dX8_lowestTerm_29 hl (by decide) rfl (fun ls hl => ?_)
        refine lv_lload hx hb dX8_lowestTerm_31 (lv_at hl 5 rfl) ?_
        refine lv_lstore (lv' := [(5, .long x7), (10, .long x10_4), (0, .long a1), (2, .long a2), (4, .int a3), (7, .long x7), (9, .int x9)]) hx hb dX8_lowestTerm_33 hl (by decide) rfl (fun ls hl => ?_)
        refine lv_lload hx hb dX8_lowestTerm_35 (lv_at hl 1 rfl) ?_
        refine lv_lstore (lv' := [(7, .long x10_4), (5, .long x7), (10, .long x10_4), (0, .long a1), (2, .long a2), (4, .int a3), (9, .int x9)]) hx hb dX8_lowestTerm_37 hl (by decide) rfl (fun ls hl => ?_)
        obtain ⟨x9_5, ex9_5⟩ : ∃ y_ : Int32, y_ = x9 + (nI 1) := ⟨_, rfl⟩
        have h := h x9_5 ex9_5
        refine lv_iinc (v := x9_5) (lv' := [(9, .int x9_5), (7, .long x10_4), (5, .long x7), (10, .long x10_4), (0, .long a1), (2, .long a2), (4, .int a3)]) hx hb dX8_lowestTerm_39 hl (k := 6) rfl (by rw [ex9_5]; rfl) (by decide) rfl (fun ls hl => ?_)
        refine lv_goto (tgt := 9) hx hb dX8_lowestTerm_42 (by decide) ?_
        exact ih _ _ _ _ _ _ hP hS (lv_sub hl [4, 5, 6, 2, 1, 0] rfl) h
def q_X8_lowestTerm (S : St) (a1 : Int64) (a2 : Int64) (a3 : Int32) (k : Int64 → Prop) : Prop := ∃ f_9, q_X8_lowestTerm_9 a1 a2 a3 S k f_9 a2 a1 (nI 0)
set_option maxRecDepth 100000 in
set_option maxHeartbeats 4000000 in
theorem c_X8_lowestTerm {l : Launch} {Z : ZT} (hi : injZ 68 Z) (S : St) (a1 : Int64) (a2 : Int64) (a3 : Int32) (k : Int64 → Prop) (h : q_X8_lowestTerm S a1 a2 a3 k) : Ml l shX 68 Z (gX Z) yX8_lowestTerm cX8_lowestTerm 12 (Option.some .long) (rmk 0 0) [.long a1, .long a2, .int a3] S (fun r S' => S' = S ∧ k r) := by
  have g := gokX hi
  refine e_l (by decide) (Nat.le_of_ble_eq_true rfl) (lv := [(0, .long a1), (2, .long a2), (4, .int a3)]) rfl (fun p e s m args below meth c C hP hS ls hl => ?_)
  have hx := C.1.1
  have hb := C.1.2.1
  unfold q_X8_lowestTerm at h
  refine lv_lload_n hx hb dX8_lowestTerm_0 rfl (lv_at hl 1 rfl) ?_
  refine lv_lstore (lv' := [(5, .long a2), (0, .long a1), (2, .long a2), (4, .int a3)]) hx hb dX8_lowestTerm_1 hl (by decide) rfl (fun ls hl => ?_)
  refine lv_lload_n hx hb dX8_lowestTerm_3 rfl (lv_at hl 1 rfl) ?_
  refine lv_lstore (lv' := [(7, .long a1), (5, .long a2), (0, .long a1), (2, .long a2), (4, .int a3)]) hx hb dX8_lowestTerm_4 hl (by decide) rfl (fun ls hl => ?_)
  refine lv_iconst (v := (nI 0)) hx hb dX8_lowestTerm_6 (by decide) ?_
  refine lv_istore (lv' := [(9, .int (nI 0)), (7, .long a1), (5, .long a2), (0, .long a1), (2, .long a2), (4, .int a3)]) hx hb dX8_lowestTerm_7 hl (by decide) rfl (fun ls hl => ?_)
  obtain ⟨f_9, h⟩ := h
  exact b_X8_lowestTerm_9 hi C  f_9 _ _ _ _ _ _ hP hS (lv_sub hl [3, 4, 5, 2, 1, 0] rfl) h
def q_X8_food (S : St) (a1 : Int32) (a2 : Int32) (a3 : Int32) (a4 : Int32) (a5 : Int32) (a6 : Int32) (k : Int64 → St → Prop) : Prop := (a1 < (nI 0) → (k (-3 : Int64) S)) ∧ (¬ a1 < (nI 0) → (((nI 999) < a1 → (k (-3 : Int64) S)) ∧ (¬ (nI 999) < a1 → ((a2 < (nI 1) → (k (-3 : Int64) S)) ∧ (¬ a2 < (nI 1) → (((nI 99) < a2 → (k (-3 : Int64) S)) ∧ (¬ (nI 99) < a2 → ((a3 < (nI 0) → (k (-3 : Int64) S)) ∧ (¬ a3 < (nI 0) → ((a3 ≤ (nI 99) → ((a4 < (nI 0) → (k (-3 : Int64) S)) ∧ (¬ a4 < (nI 0) → (((nI 10) < a4 → (k (-3 : Int64) S)) ∧ (¬ (nI 10) < a4 → ((a5 < (nI 0) → (k (-3 : Int64) S)) ∧ (¬ a5 < (nI 0) → (((nI 8) < a5 → (k (-3 : Int64) S)) ∧ (¬ (nI 8) < a5 → ((a6 < (nI 0) → (k (-3 : Int64) S)) ∧ (¬ a6 < (nI 0) → ((a6 ≤ (nI 1) → (q_X3_enough S a1 a2 a3 a4 a5 (fun r_13 S_14 => (q_X8_tenToThe S_14 a5 (fun r_15 => (q_X8_lowestTerm S_14 r_13 r_15 a6 (fun r_16 => (k r_16 S_14)))))))) ∧ (¬ a6 ≤ (nI 1) → (k (-3 : Int64) S)))))))))))))) ∧ (¬ a3 ≤ (nI 99) → (k (-3 : Int64) S))))))))))))
set_option maxRecDepth 100000 in
set_option maxHeartbeats 4000000 in
theorem c_X8_food {l : Launch} {Z : ZT} (hi : injZ 68 Z) (S : St) (a1 : Int32) (a2 : Int32) (a3 : Int32) (a4 : Int32) (a5 : Int32) (a6 : Int32) (k : Int64 → St → Prop) (h : q_X8_food S a1 a2 a3 a4 a5 a6 k) : Ml l shX 68 Z (gX Z) yX8_food cX8_food 7 (Option.some .long) (rmk 3 74) [.ref (Z.2.2.1 0), .int a1, .int a2, .int a3, .int a4, .int a5, .int a6] S k := by
  have g := gokX hi
  refine e_l (by decide) (Nat.le_of_ble_eq_true rfl) (lv := [(0, .ref (Z.2.2.1 0)), (1, .int a1), (2, .int a2), (3, .int a3), (4, .int a4), (5, .int a5), (6, .int a6)]) rfl (fun p e s m args below meth c C hP hS ls hl => ?_)
  have hx := C.1.1
  have hb := C.1.2.1
  unfold q_X8_food at h
  refine lv_iload_n hx hb dX8_food_0 rfl (lv_at hl 1 rfl) ?_
  refine lv_if_lt (tgt := 32) hx hb dX8_food_1 (by decide) (fun c_1 => ?_) (fun c_1 => ?_)
  · have h := h.1 c_1
    refine lv_ldc2 (v := (-3 : Int64)) hx hb C.1.2.2.2.1 (C.1.2.2.2.2 _ (List.mem_cons_of_mem _ kCO_X8_214)) dX8_food_32 ?_
    exact s_rl C hP hS h dX8_food_35
  · have h := h.2 c_1
    refine lv_iload_n hx hb dX8_food_4 rfl (lv_at hl 1 rfl) ?_
    refine lv_sipush (v := (nI 999)) hx hb dX8_food_5 (by decide) ?_
    refine lv_icmp_gt (tgt := 32) hx hb dX8_food_8 (by decide) (fun c_2 => ?_) (fun c_2 => ?_)
    · have h := h.1 c_2
      refine lv_ldc2 (v := (-3 : Int64)) hx hb C.1.2.2.2.1 (C.1.2.2.2.2 _ (List.mem_cons_of_mem _ kCO_X8_214)) dX8_food_32 ?_
      exact s_rl C hP hS h dX8_food_35
    · have h := h.2 c_2
      refine lv_iload_n hx hb dX8_food_11 rfl (lv_at hl 2 rfl) ?_
      refine lv_iconst (v := (nI 1)) hx hb dX8_food_12 (by decide) ?_
      refine lv_icmp_lt (tgt := 32) hx hb dX8_food_13 (by decide) (fun c_3 => ?_) (fun c_3 => ?_)
      · have h := h.1 c_3
        refine lv_ldc2 (v := (-3 : Int64)) hx hb C.1.2.2.2.1 (C.1.2.2.2.2 _ (List.mem_cons_of_mem _ kCO_X8_214)) dX8_food_32 ?_
        exact s_rl C hP hS h dX8_food_35
      · have h := h.2 c_3
        refine lv_iload_n hx hb dX8_food_16 rfl (lv_at hl 2 rfl) ?_
        refine lv_bipush (v := (nI 99)) hx hb dX8_food_17 (by decide) ?_
        refine lv_icmp_gt (tgt := 32) hx hb dX8_food_19 (by decide) (fun c_4 => ?_) (fun c_4 => ?_)
        · have h := h.1 c_4
          refine lv_ldc2 (v := (-3 : Int64)) hx hb C.1.2.2.2.1 (C.1.2.2.2.2 _ (List.mem_cons_of_mem _ kCO_X8_214)) dX8_food_32 ?_
          exact s_rl C hP hS h dX8_food_35
        · have h := h.2 c_4
          refine lv_iload_n hx hb dX8_food_22 rfl (lv_at hl 3 rfl) ?_
          refine lv_if_lt (tgt := 32) hx hb dX8_food_23 (by decide) (fun c_5 => ?_) (fun c_5 => ?_)
          · have h := h.1 c_5
            refine lv_ldc2 (v := (-3 : Int64)) hx hb C.1.2.2.2.1 (C.1.2.2.2.2 _ (List.mem_cons_of_mem _ kCO_X8_214)) dX8_food_32 ?_
            exact s_rl C hP hS h dX8_food_35
          · have h := h.2 c_5
            refine lv_iload_n hx hb dX8_food_26 rfl (lv_at hl 3 rfl) ?_
            refine lv_bipush (v := (nI 99)) hx hb dX8_food_27 (by decide) ?_
            refine lv_icmp_le (tgt := 36) hx hb dX8_food_29 (by decide) (fun c_6 => ?_) (fun c_6 => ?_)
            · have h := h.1 c_6
              refine lv_iload hx hb dX8_food_36 (lv_at hl 4 rfl) ?_
              refine lv_if_lt (tgt := 71) hx hb dX8_food_38 (by decide) (fun c_7 => ?_) (fun c_7 => ?_)
              · have h := h.1 c_7
                refine lv_ldc2 (v := (-3 : Int64)) hx hb C.1.2.2.2.1 (C.1.2.2.2.2 _ (List.mem_cons_of_mem _ kCO_X8_214)) dX8_food_71 ?_
                exact s_rl C hP hS h dX8_food_74
              · have h := h.2 c_7
                refine lv_iload hx hb dX8_food_41 (lv_at hl 4 rfl) ?_
                refine lv_bipush (v := (nI 10)) hx hb dX8_food_43 (by decide) ?_
                refine lv_icmp_gt (tgt := 71) hx hb dX8_food_45 (by decide) (fun c_8 => ?_) (fun c_8 => ?_)
                · have h := h.1 c_8
                  refine lv_ldc2 (v := (-3 : Int64)) hx hb C.1.2.2.2.1 (C.1.2.2.2.2 _ (List.mem_cons_of_mem _ kCO_X8_214)) dX8_food_71 ?_
                  exact s_rl C hP hS h dX8_food_74
                · have h := h.2 c_8
                  refine lv_iload hx hb dX8_food_48 (lv_at hl 5 rfl) ?_
                  refine lv_if_lt (tgt := 71) hx hb dX8_food_50 (by decide) (fun c_9 => ?_) (fun c_9 => ?_)
                  · have h := h.1 c_9
                    refine lv_ldc2 (v := (-3 : Int64)) hx hb C.1.2.2.2.1 (C.1.2.2.2.2 _ (List.mem_cons_of_mem _ kCO_X8_214)) dX8_food_71 ?_
                    exact s_rl C hP hS h dX8_food_74
                  · have h := h.2 c_9
                    refine lv_iload hx hb dX8_food_53 (lv_at hl 5 rfl) ?_
                    refine lv_bipush (v := (nI 8)) hx hb dX8_food_55 (by decide) ?_
                    refine lv_icmp_gt (tgt := 71) hx hb dX8_food_57 (by decide) (fun c_10 => ?_) (fun c_10 => ?_)
                    · have h := h.1 c_10
                      refine lv_ldc2 (v := (-3 : Int64)) hx hb C.1.2.2.2.1 (C.1.2.2.2.2 _ (List.mem_cons_of_mem _ kCO_X8_214)) dX8_food_71 ?_
                      exact s_rl C hP hS h dX8_food_74
                    · have h := h.2 c_10
                      refine lv_iload hx hb dX8_food_60 (lv_at hl 6 rfl) ?_
                      refine lv_if_lt (tgt := 71) hx hb dX8_food_62 (by decide) (fun c_11 => ?_) (fun c_11 => ?_)
                      · have h := h.1 c_11
                        refine lv_ldc2 (v := (-3 : Int64)) hx hb C.1.2.2.2.1 (C.1.2.2.2.2 _ (List.mem_cons_of_mem _ kCO_X8_214)) dX8_food_71 ?_
                        exact s_rl C hP hS h dX8_food_74
                      · have h := h.2 c_11
                        refine lv_iload hx hb dX8_food_65 (lv_at hl 6 rfl) ?_
                        refine lv_iconst (v := (nI 1)) hx hb dX8_food_67 (by decide) ?_
                        refine lv_icmp_le (tgt := 75) hx hb dX8_food_68 (by decide) (fun c_12 => ?_) (fun c_12 => ?_)
                        · have h := h.1 c_12
                          refine lv_aload_n hx hb dX8_food_75 rfl (lv_at hl 0 rfl) ?_
                          refine s_gR g C hP 0 10 30 (by decide) rfl rfl cfX8 (by decide) kFL_X8_60 dX8_food_76 ?_
                          refine lv_iload_n hx hb dX8_food_79 rfl (lv_at hl 1 rfl) ?_
                          refine lv_iload_n hx hb dX8_food_80 rfl (lv_at hl 2 rfl) ?_
                          refine lv_iload_n hx hb dX8_food_81 rfl (lv_at hl 3 rfl) ?_
                          refine lv_iload hx hb dX8_food_82 (lv_at hl 4 rfl) ?_
                          refine lv_iload hx hb dX8_food_84 (lv_at hl 5 rfl) ?_
                          refine go_l (run_V g C hP hS (c0 := 30) (As := [.int a1, .int a2, .int a3, .int a4, .int a5]) (rest := []) (c_X3_enough hi S a1 a2 a3 a4 a5 _ h) cal_X3_enough kML_X8_216 (by decide) rfl cfX3 ⟨rfl, rfl, Nat.le_of_ble_eq_true rfl, Nat.le_of_ble_eq_true rfl⟩ rfl rfl hl.1 (Nat.le_of_ble_eq_true rfl) dX8_food_86) hS (fun r_13 S_14 H locs h hP hS => ?_)
                          refine lv_iload hx hb dX8_food_89 (lv_at hl 5 rfl) ?_
                          refine go_lp (run_S g C hP hS (As := [.int a5]) (rest := [.long r_13]) (c_X8_tenToThe hi S_14 a5 _ h) cal_X8_tenToThe kML_X8_220 ⟨rfl, rfl, Nat.le_of_ble_eq_true rfl, Nat.le_of_ble_eq_true rfl⟩ rfl rfl hl.1 (Nat.le_of_ble_eq_true rfl) dX8_food_91) hS (fun r_15 H locs h hP hS => ?_)
                          refine lv_iload hx hb dX8_food_94 (lv_at hl 6 rfl) ?_
                          refine go_lp (run_S g C hP hS (As := [.long r_13, .long r_15, .int a6]) (rest := []) (c_X8_lowestTerm hi S_14 r_13 r_15 a6 _ h) cal_X8_lowestTerm kML_X8_224 ⟨rfl, rfl, Nat.le_of_ble_eq_true rfl, Nat.le_of_ble_eq_true rfl⟩ rfl rfl hl.1 (Nat.le_of_ble_eq_true rfl) dX8_food_96) hS (fun r_16 H locs h hP hS => ?_)
                          exact s_rl C hP hS h dX8_food_99
                        · have h := h.2 c_12
                          refine lv_ldc2 (v := (-3 : Int64)) hx hb C.1.2.2.2.1 (C.1.2.2.2.2 _ (List.mem_cons_of_mem _ kCO_X8_214)) dX8_food_71 ?_
                          exact s_rl C hP hS h dX8_food_74
            · have h := h.2 c_6
              refine lv_ldc2 (v := (-3 : Int64)) hx hb C.1.2.2.2.1 (C.1.2.2.2.2 _ (List.mem_cons_of_mem _ kCO_X8_214)) dX8_food_32 ?_
              exact s_rl C hP hS h dX8_food_35
def q_X8_cut_107 (a1 : Int32) (a2 : Int32) (a3 : Int32) (a4 : Int32) (a5 : Int32) (k : Int64 → St → Prop) : Nat → St → Int32 → Int32 → Prop := fun n_ => Nat.rec (motive := fun _ => St → Int32 → Int32 → Prop) (fun _ _ _ => False) (fun _ ih => fun S x6 x8 => ((nI 12) ≤ x8 → (q_X3_sumFrom S (a3 - (-45 : Int32)) (fun r_2 => (q_X8_tenToThe S ((nI 12) - a2) (fun r_3 => (q_X8_lowestTerm S r_2 r_3 a5 (fun r_4 => (k r_4 S)))))))) ∧ (¬ (nI 12) ≤ x8 → (q_X4_windAt 8 S x6 x8 (fun r_5 => (q_X3_drift S r_5 a4 (fun S_6 => (∀ x8_7 : Int32, x8_7 = x8 + (nI 1) → (ih S_6 x6 x8_7)))))))) n_
theorem q_X8_cut_107_s (a1 : Int32) (a2 : Int32) (a3 : Int32) (a4 : Int32) (a5 : Int32) (k : Int64 → St → Prop) (n_ : Nat) (S : St) (x6 : Int32) (x8 : Int32) : q_X8_cut_107 a1 a2 a3 a4 a5 k (n_ + 1) S x6 x8 = (((nI 12) ≤ x8 → (q_X3_sumFrom S (a3 - (-45 : Int32)) (fun r_2 => (q_X8_tenToThe S ((nI 12) - a2) (fun r_3 => (q_X8_lowestTerm S r_2 r_3 a5 (fun r_4 => (k r_4 S)))))))) ∧ (¬ (nI 12) ≤ x8 → (q_X4_windAt 8 S x6 x8 (fun r_5 => (q_X3_drift S r_5 a4 (fun S_6 => (∀ x8_7 : Int32, x8_7 = x8 + (nI 1) → ((q_X8_cut_107 a1 a2 a3 a4 a5 k n_) S_6 x6 x8_7)))))))) := rfl
set_option maxRecDepth 100000 in
set_option maxHeartbeats 4000000 in
theorem b_X8_cut_107 {p : Program} {l : Launch} {e : Env} {s : State} {m : MethodId} {args : Array Value} {below : List Frame} {meth : Method} {c : Code} {Z : ZT} (hi : injZ 68 Z) (C : Cxt (gX Z) p s m meth c args yX8_cut cX8_cut 9 (Option.some .long)) {a1 : Int32} {a2 : Int32} {a3 : Int32} {a4 : Int32} {a5 : Int32} {k : Int64 → St → Prop}   : ∀ (n_ : Nat) (S : St) (x6 : Int32) (x8 : Int32) (H : Heap) (locs : List Loc) (ls : Array Slot), va_P Z.1 vwCl (wl shX 68 Z S) H → va_S (aa 68 Z) s.heap H locs → lv_has ls 9 [(0, .ref (Z.2.2.1 0)), (2, .int a2), (3, .int a3), (4, .int a4), (5, .int a5), (6, .int x6), (8, .int x8)] → q_X8_cut_107 a1 a2 a3 a4 a5 k n_ S x6 x8 → W p l e (rmk 2 66) s m args below meth c H locs 0 0 (Ql below shX 68 Z args s k) (F0 m 107 ls []) := by
  have g := gokX hi
  have hx := C.1.1
  have hb := C.1.2.1
  intro n_
  induction n_ with
  | zero => intro S x6 x8 H locs ls hP hS hl h; exact h.elim
  | succ n_ ih =>
    intro S x6 x8 H locs ls hP hS hl h
    rw [q_X8_cut_107_s] at h
    refine lv_iload hx hb dX8_cut_107 (lv_at hl 6 rfl) ?_
    refine lv_bipush (v := (nI 12)) hx hb dX8_cut_109 (by decide) ?_
    refine lv_icmp_ge (tgt := 143) hx hb dX8_cut_111 (by decide) (fun c_1 => ?_) (fun c_1 => ?_)
    · have h := h.1 c_1
      refine lv_aload_n hx hb dX8_cut_143 rfl (lv_at hl 0 rfl) ?_
      refine s_gR g C hP 0 10 30 (by decide) rfl rfl cfX8 (by decide) kFL_X8_60 dX8_cut_144 ?_
      refine lv_iload_n hx hb dX8_cut_147 rfl (lv_at hl 2 rfl) ?_
      refine lv_bipush (v := (-45 : Int32)) hx hb dX8_cut_148 (by decide) ?_
      refine lv_isub hx hb dX8_cut_150 ?_
      refine go_lp (run_V g C hP hS (c0 := 30) (As := [.int (a3 - (-45 : Int32))]) (rest := []) (c_X3_sumFrom hi S (a3 - (-45 : Int32)) _ h) cal_X3_sumFrom kML_X8_239 (by decide) rfl cfX3 ⟨rfl, rfl, Nat.le_of_ble_eq_true rfl, Nat.le_of_ble_eq_true rfl⟩ rfl rfl hl.1 (Nat.le_of_ble_eq_true rfl) dX8_cut_151) hS (fun r_2 H locs h hP hS => ?_)
      refine lv_bipush (v := (nI 12)) hx hb dX8_cut_154 (by decide) ?_
      refine lv_iload_n hx hb dX8_cut_156 rfl (lv_at hl 1 rfl) ?_
      refine lv_isub hx hb dX8_cut_157 ?_
      refine go_lp (run_S g C hP hS (As := [.int ((nI 12) - a2)]) (rest := [.long r_2]) (c_X8_tenToThe hi S ((nI 12) - a2) _ h) cal_X8_tenToThe kML_X8_220 ⟨rfl, rfl, Nat.le_of_ble_eq_true rfl, Nat.le_of_ble_eq_true rfl⟩ rfl rfl hl.1 (Nat.le_of_ble_eq_true rfl) dX8_cut_158) hS (fun r_3 H locs h hP hS => ?_)
      refine lv_iload hx hb dX8_cut_161 (lv_at hl 4 rfl) ?_
      refine go_lp (run_S g C hP hS (As := [.long r_2, .long r_3, .int a5]) (rest := []) (c_X8_lowestTerm hi S r_2 r_3 a5 _ h) cal_X8_lowestTerm kML_X8_224 ⟨rfl, rfl, Nat.le_of_ble_eq_true rfl, Nat.le_of_ble_eq_true rfl⟩ rfl rfl hl.1 (Nat.le_of_ble_eq_true rfl) dX8_cut_163) hS (fun r_4 H locs h hP hS => ?_)
      exact s_rl C hP hS h dX8_cut_166
    · have h := h.2 c_1
      refine lv_aload_n hx hb dX8_cut_114 rfl (lv_at hl 0 rfl) ?_
      refine s_gR g C hP 0 10 30 (by decide) rfl rfl cfX8 (by decide) kFL_X8_60 dX8_cut_115 ?_
      refine lv_aload_n hx hb dX8_cut_118 rfl (lv_at hl 0 rfl) ?_
      refine s_gR g C hP 0 1 4 (by decide) rfl rfl cfX8 (by decide) kFL_X8_19 dX8_cut_119 ?_
      refine s_gR g C hP 4 3 8 (by decide) rfl rfl cfX4 (by decide) kFL_X8_114 dX8_cut_122 ?_
      refine lv_iload hx hb dX8_cut_125 (lv_at hl 5 rfl) ?_
      refine lv_iload hx hb dX8_cut_127 (lv_at hl 6 rfl) ?_
      refine go_ip (run_S g C hP hS (As := [.ref (Z.2.2.1 8), .int x6, .int x8]) (rest := [.ref (Z.2.2.1 30)]) (c_X4_windAt hi 8 ⟨(by decide), rfl⟩ S x6 x8 _ h) cal_X4_windAt kML_X8_110 ⟨rfl, rfl, Nat.le_of_ble_eq_true rfl, Nat.le_of_ble_eq_true rfl⟩ rfl rfl hl.1 (Nat.le_of_ble_eq_true rfl) dX8_cut_129) hS (fun r_5 H locs h hP hS => ?_)
      refine lv_iload hx hb dX8_cut_132 (lv_at hl 3 rfl) ?_
      refine go_v (run_V g C hP hS (c0 := 30) (As := [.int r_5, .int a4]) (rest := []) (c_X3_drift hi S r_5 a4 _ h) cal_X3_drift kML_X8_236 (by decide) rfl cfX3 ⟨rfl, rfl, Nat.le_of_ble_eq_true rfl, Nat.le_of_ble_eq_true rfl⟩ rfl rfl hl.1 (Nat.le_of_ble_eq_true rfl) dX8_cut_134) hS (fun S_6 H locs h hP hS => ?_)
      obtain ⟨x8_7, ex8_7⟩ : ∃ y_ : Int32, y_ = x8 + (nI 1) := ⟨_, rfl⟩
      have h := h x8_7 ex8_7
      refine lv_iinc (v := x8_7) (lv' := [(8, .int x8_7), (0, .ref (Z.2.2.1 0)), (2, .int a2), (3, .int a3), (4, .int a4), (5, .int a5), (6, .int x6)]) hx hb dX8_cut_137 hl (k := 6) rfl (by rw [ex8_7]; rfl) (by decide) rfl (fun ls hl => ?_)
      refine lv_goto (tgt := 107) hx hb dX8_cut_140 (by decide) ?_
      exact ih _ _ _ _ _ _ hP hS (lv_sub hl [1, 2, 3, 4, 5, 6, 0] rfl) h
def q_X8_cut (S : St) (a1 : Int32) (a2 : Int32) (a3 : Int32) (a4 : Int32) (a5 : Int32) (k : Int64 → St → Prop) : Prop := q_X4_isToldKite S a1 (fun r_1 => ((r_1 = (nI 0) → (k (-2 : Int64) S)) ∧ (¬ r_1 = (nI 0) → (q_X8_isHour S a2 (fun r_3 => ((r_3 = (nI 0) → (k (-2 : Int64) S)) ∧ (¬ r_3 = (nI 0) → ((a3 < (nI 0) → (k (-3 : Int64) S)) ∧ (¬ a3 < (nI 0) → (((nI 40) < a3 → (k (-3 : Int64) S)) ∧ (¬ (nI 40) < a3 → ((a4 < (nI 0) → (k (-3 : Int64) S)) ∧ (¬ a4 < (nI 0) → (((nI 10) < a4 → (k (-3 : Int64) S)) ∧ (¬ (nI 10) < a4 → ((a5 < (nI 0) → (k (-3 : Int64) S)) ∧ (¬ a5 < (nI 0) → ((a5 ≤ (nI 1) → (vp_in a1 6 ∧ (∀ x6_12 : Int32, x6_12 = (S.1 (33 + 7 * 0 + 1) a1.toNatClampNeg) → ((x6_12 = (nI 0) → (k (-4 : Int64) S)) ∧ (¬ x6_12 = (nI 0) → (q_X4_kiteX S a1 x6_12 a2 (fun r_14 => (q_X3_begin S (r_14 - (-45 : Int32)) (fun S_15 => (∃ f_107, q_X8_cut_107 a1 a2 a3 a4 a5 k f_107 S_15 x6_12 a2)))))))))) ∧ (¬ a5 ≤ (nI 1) → (k (-3 : Int64) S))))))))))))))))))))
set_option maxRecDepth 100000 in
set_option maxHeartbeats 4000000 in
theorem c_X8_cut {l : Launch} {Z : ZT} (hi : injZ 68 Z) (S : St) (a1 : Int32) (a2 : Int32) (a3 : Int32) (a4 : Int32) (a5 : Int32) (k : Int64 → St → Prop) (h : q_X8_cut S a1 a2 a3 a4 a5 k) : Ml l shX 68 Z (gX Z) yX8_cut cX8_cut 9 (Option.some .long) (rmk 2 66) [.ref (Z.2.2.1 0), .int a1, .int a2, .int a3, .int a4, .int a5] S k := by
  have g := gokX hi
  refine e_l (by decide) (Nat.le_of_ble_eq_true rfl) (lv := [(0, .ref (Z.2.2.1 0)), (1, .int a1), (2, .int a2), (3, .int a3), (4, .int a4), (5, .int a5)]) rfl (fun p e s m args below meth c C hP hS ls hl => ?_)
  have hx := C.1.1
  have hb := C.1.2.1
  unfold q_X8_cut at h
  refine lv_aload_n hx hb dX8_cut_0 rfl (lv_at hl 0 rfl) ?_
  refine s_gR g C hP 0 1 4 (by decide) rfl rfl cfX8 (by decide) kFL_X8_19 dX8_cut_1 ?_
  refine lv_iload_n hx hb dX8_cut_4 rfl (lv_at hl 1 rfl) ?_
  refine go_ip (run_V g C hP hS (c0 := 4) (As := [.int a1]) (rest := []) (c_X4_isToldKite hi S a1 _ h) cal_X4_isToldKite kML_X8_133 (by decide) rfl cfX4 ⟨rfl, rfl, Nat.le_of_ble_eq_true rfl, Nat.le_of_ble_eq_true rfl⟩ rfl rfl hl.1 (Nat.le_of_ble_eq_true rfl) dX8_cut_5) hS (fun r_1 H locs h hP hS => ?_)
  obtain ⟨hbr_1, h⟩ := h
  refine lv_if_eq (tgt := 18) hx hb dX8_cut_8 (by decide) (fun c_2 => ?_) (fun c_2 => ?_)
  · have h := h.1 c_2
    refine lv_ldc2 (v := (-2 : Int64)) hx hb C.1.2.2.2.1 (C.1.2.2.2.2 _ (List.mem_cons_of_mem _ kCO_X8_228)) dX8_cut_18 ?_
    exact s_rl C hP hS h dX8_cut_21
  · have h := h.2 c_2
    refine lv_iload_n hx hb dX8_cut_11 rfl (lv_at hl 2 rfl) ?_
    refine go_ip (run_S g C hP hS (As := [.int a2]) (rest := []) (c_X8_isHour hi S a2 _ h) cal_X8_isHour kML_X8_103 ⟨rfl, rfl, Nat.le_of_ble_eq_true rfl, Nat.le_of_ble_eq_true rfl⟩ rfl rfl hl.1 (Nat.le_of_ble_eq_true rfl) dX8_cut_12) hS (fun r_3 H locs h hP hS => ?_)
    obtain ⟨hbr_3, h⟩ := h
    refine lv_if_ne (tgt := 22) hx hb dX8_cut_15 (by decide) (fun c_4 => ?_) (fun c_4 => ?_)
    · have h := h.2 c_4
      refine lv_iload_n hx hb dX8_cut_22 rfl (lv_at hl 3 rfl) ?_
      refine lv_if_lt (tgt := 55) hx hb dX8_cut_23 (by decide) (fun c_5 => ?_) (fun c_5 => ?_)
      · have h := h.1 c_5
        refine lv_ldc2 (v := (-3 : Int64)) hx hb C.1.2.2.2.1 (C.1.2.2.2.2 _ (List.mem_cons_of_mem _ kCO_X8_214)) dX8_cut_55 ?_
        exact s_rl C hP hS h dX8_cut_58
      · have h := h.2 c_5
        refine lv_iload_n hx hb dX8_cut_26 rfl (lv_at hl 3 rfl) ?_
        refine lv_bipush (v := (nI 40)) hx hb dX8_cut_27 (by decide) ?_
        refine lv_icmp_gt (tgt := 55) hx hb dX8_cut_29 (by decide) (fun c_6 => ?_) (fun c_6 => ?_)
        · have h := h.1 c_6
          refine lv_ldc2 (v := (-3 : Int64)) hx hb C.1.2.2.2.1 (C.1.2.2.2.2 _ (List.mem_cons_of_mem _ kCO_X8_214)) dX8_cut_55 ?_
          exact s_rl C hP hS h dX8_cut_58
        · have h := h.2 c_6
          refine lv_iload hx hb dX8_cut_32 (lv_at hl 4 rfl) ?_
          refine lv_if_lt (tgt := 55) hx hb dX8_cut_34 (by decide) (fun c_7 => ?_) (fun c_7 => ?_)
          · have h := h.1 c_7
            refine lv_ldc2 (v := (-3 : Int64)) hx hb C.1.2.2.2.1 (C.1.2.2.2.2 _ (List.mem_cons_of_mem _ kCO_X8_214)) dX8_cut_55 ?_
            exact s_rl C hP hS h dX8_cut_58
          · have h := h.2 c_7
            refine lv_iload hx hb dX8_cut_37 (lv_at hl 4 rfl) ?_
            refine lv_bipush (v := (nI 10)) hx hb dX8_cut_39 (by decide) ?_
            refine lv_icmp_gt (tgt := 55) hx hb dX8_cut_41 (by decide) (fun c_8 => ?_) (fun c_8 => ?_)
            · have h := h.1 c_8
              refine lv_ldc2 (v := (-3 : Int64)) hx hb C.1.2.2.2.1 (C.1.2.2.2.2 _ (List.mem_cons_of_mem _ kCO_X8_214)) dX8_cut_55 ?_
              exact s_rl C hP hS h dX8_cut_58
            · have h := h.2 c_8
              refine lv_iload hx hb dX8_cut_44 (lv_at hl 5 rfl) ?_
              refine lv_if_lt (tgt := 55) hx hb dX8_cut_46 (by decide) (fun c_9 => ?_) (fun c_9 => ?_)
              · have h := h.1 c_9
                refine lv_ldc2 (v := (-3 : Int64)) hx hb C.1.2.2.2.1 (C.1.2.2.2.2 _ (List.mem_cons_of_mem _ kCO_X8_214)) dX8_cut_55 ?_
                exact s_rl C hP hS h dX8_cut_58
              · have h := h.2 c_9
                refine lv_iload hx hb dX8_cut_49 (lv_at hl 5 rfl) ?_
                refine lv_iconst (v := (nI 1)) hx hb dX8_cut_51 (by decide) ?_
                refine lv_icmp_le (tgt := 59) hx hb dX8_cut_52 (by decide) (fun c_10 => ?_) (fun c_10 => ?_)
                · have h := h.1 c_10
                  refine lv_aload_n hx hb dX8_cut_59 rfl (lv_at hl 0 rfl) ?_
                  refine s_gR g C hP 0 3 (33 + 7 * 0) (by decide) rfl rfl cfX8 (by decide) kFL_X8_33 dX8_cut_60 ?_
                  refine s_gR g C hP (33 + 7 * 0) 5 (33 + 7 * 0 + 1) (ltX_day (d := 0) (by decide)) (shX_day (d := 0) (by decide)) rfl cfX1 (by decide) kFL_X8_136 dX8_cut_63 ?_
                  refine lv_iload_n hx hb dX8_cut_66 rfl (lv_at hl 1 rfl) ?_
                  have hv_11 := h.1
                  have h := h.2
                  refine s_aI g C hP (33 + 7 * 0 + 1) (ltX_day1 (d := 0) (by decide)) (shX_day1 (d := 0) (by decide)) hv_11 dX8_cut_67 ?_
                  refine lv_topi (fun x6_12 ex6_12 => ?_)
                  have h := h x6_12 ex6_12
                  refine lv_istore (lv' := [(6, .int x6_12), (0, .ref (Z.2.2.1 0)), (1, .int a1), (2, .int a2), (3, .int a3), (4, .int a4), (5, .int a5)]) hx hb dX8_cut_68 hl (by decide) rfl (fun ls hl => ?_)
                  refine lv_iload hx hb dX8_cut_70 (lv_at hl 0 rfl) ?_
                  refine lv_if_ne (tgt := 79) hx hb dX8_cut_72 (by decide) (fun c_13 => ?_) (fun c_13 => ?_)
                  · have h := h.2 c_13
                    refine lv_aload_n hx hb dX8_cut_79 rfl (lv_at hl 1 rfl) ?_
                    refine s_gR g C hP 0 1 4 (by decide) rfl rfl cfX8 (by decide) kFL_X8_19 dX8_cut_80 ?_
                    refine lv_iload_n hx hb dX8_cut_83 rfl (lv_at hl 2 rfl) ?_
                    refine lv_iload hx hb dX8_cut_84 (lv_at hl 0 rfl) ?_
                    refine lv_iload_n hx hb dX8_cut_86 rfl (lv_at hl 3 rfl) ?_
                    refine go_ip (run_V g C hP hS (c0 := 4) (As := [.int a1, .int x6_12, .int a2]) (rest := []) (c_X4_kiteX hi S a1 x6_12 a2 _ h) cal_X4_kiteX kML_X8_169 (by decide) rfl cfX4 ⟨rfl, rfl, Nat.le_of_ble_eq_true rfl, Nat.le_of_ble_eq_true rfl⟩ rfl rfl hl.1 (Nat.le_of_ble_eq_true rfl) dX8_cut_87) hS (fun r_14 H locs h hP hS => ?_)
                    refine lv_istore (lv' := [(7, .int r_14), (6, .int x6_12), (0, .ref (Z.2.2.1 0)), (1, .int a1), (2, .int a2), (3, .int a3), (4, .int a4), (5, .int a5)]) hx hb dX8_cut_90 hl (by decide) rfl (fun ls hl => ?_)
                    refine lv_aload_n hx hb dX8_cut_92 rfl (lv_at hl 2 rfl) ?_
                    refine s_gR g C hP 0 10 30 (by decide) rfl rfl cfX8 (by decide) kFL_X8_60 dX8_cut_93 ?_
                    refine lv_iload hx hb dX8_cut_96 (lv_at hl 0 rfl) ?_
                    refine lv_bipush (v := (-45 : Int32)) hx hb dX8_cut_98 (by decide) ?_
                    refine lv_isub hx hb dX8_cut_100 ?_
                    refine go_v (run_V g C hP hS (c0 := 30) (As := [.int (r_14 - (-45 : Int32))]) (rest := []) (c_X3_begin hi S (r_14 - (-45 : Int32)) _ h) cal_X3_begin kML_X8_232 (by decide) rfl cfX3 ⟨rfl, rfl, Nat.le_of_ble_eq_true rfl, Nat.le_of_ble_eq_true rfl⟩ rfl rfl hl.1 (Nat.le_of_ble_eq_true rfl) dX8_cut_101) hS (fun S_15 H locs h hP hS => ?_)
                    refine lv_iload_n hx hb dX8_cut_104 rfl (lv_at hl 4 rfl) ?_
                    refine lv_istore (lv' := [(8, .int a2), (7, .int r_14), (6, .int x6_12), (0, .ref (Z.2.2.1 0)), (1, .int a1), (2, .int a2), (3, .int a3), (4, .int a4), (5, .int a5)]) hx hb dX8_cut_105 hl (by decide) rfl (fun ls hl => ?_)
                    obtain ⟨f_107, h⟩ := h
                    exact b_X8_cut_107 hi C  f_107 _ _ _ _ _ _ hP hS (lv_sub hl [3, 5, 6, 7, 8, 2, 0] rfl) h
                  · have h := h.1 c_13
                    refine lv_ldc2 (v := (-4 : Int64)) hx hb C.1.2.2.2.1 (C.1.2.2.2.2 _ (List.mem_cons_of_mem _ kCO_X8_230)) dX8_cut_75 ?_
                    exact s_rl C hP hS h dX8_cut_78
                · have h := h.2 c_10
                  refine lv_ldc2 (v := (-3 : Int64)) hx hb C.1.2.2.2.1 (C.1.2.2.2.2 _ (List.mem_cons_of_mem _ kCO_X8_214)) dX8_cut_55 ?_
                  exact s_rl C hP hS h dX8_cut_58
    · have h := h.1 c_4
      refine lv_ldc2 (v := (-2 : Int64)) hx hb C.1.2.2.2.1 (C.1.2.2.2.2 _ (List.mem_cons_of_mem _ kCO_X8_228)) dX8_cut_18 ?_
      exact s_rl C hP hS h dX8_cut_21
def q_X8_share (S : St) (a1 : Int32) (a2 : Int32) (k : Int32 → Prop) : Prop := q_X4_isToldKite S a2 (fun r_1 => ((r_1 = (nI 0) → (k (-2 : Int32))) ∧ (¬ r_1 = (nI 0) → ((a1 < (nI 0) → (k (-3 : Int32))) ∧ (¬ a1 < (nI 0) → ((a1 ≤ (nI 999) → (q_X4_shareOf S a1 a2 (fun r_5 => (k r_5)))) ∧ (¬ a1 ≤ (nI 999) → (k (-3 : Int32)))))))))
set_option maxRecDepth 100000 in
set_option maxHeartbeats 4000000 in
theorem c_X8_share {l : Launch} {Z : ZT} (hi : injZ 68 Z) (S : St) (a1 : Int32) (a2 : Int32) (k : Int32 → Prop) (h : q_X8_share S a1 a2 k) : Mi l shX 68 Z (gX Z) yX8_share cX8_share 3 (Option.some .int) (rmk 2 49) [.ref (Z.2.2.1 0), .int a1, .int a2] S (fun r S' => S' = S ∧ k r) := by
  have g := gokX hi
  refine e_i (by decide) (Nat.le_of_ble_eq_true rfl) (lv := [(0, .ref (Z.2.2.1 0)), (1, .int a1), (2, .int a2)]) rfl (fun p e s m args below meth c C hP hS ls hl => ?_)
  have hx := C.1.1
  have hb := C.1.2.1
  unfold q_X8_share at h
  refine lv_aload_n hx hb dX8_share_0 rfl (lv_at hl 0 rfl) ?_
  refine s_gR g C hP 0 1 4 (by decide) rfl rfl cfX8 (by decide) kFL_X8_19 dX8_share_1 ?_
  refine lv_iload_n hx hb dX8_share_4 rfl (lv_at hl 2 rfl) ?_
  refine go_ip (run_V g C hP hS (c0 := 4) (As := [.int a2]) (rest := []) (c_X4_isToldKite hi S a2 _ h) cal_X4_isToldKite kML_X8_133 (by decide) rfl cfX4 ⟨rfl, rfl, Nat.le_of_ble_eq_true rfl, Nat.le_of_ble_eq_true rfl⟩ rfl rfl hl.1 (Nat.le_of_ble_eq_true rfl) dX8_share_5) hS (fun r_1 H locs h hP hS => ?_)
  obtain ⟨hbr_1, h⟩ := h
  refine lv_if_ne (tgt := 14) hx hb dX8_share_8 (by decide) (fun c_2 => ?_) (fun c_2 => ?_)
  · have h := h.2 c_2
    refine lv_iload_n hx hb dX8_share_14 rfl (lv_at hl 1 rfl) ?_
    refine lv_if_lt (tgt := 25) hx hb dX8_share_15 (by decide) (fun c_3 => ?_) (fun c_3 => ?_)
    · have h := h.1 c_3
      refine lv_bipush (v := (-3 : Int32)) hx hb dX8_share_25 (by decide) ?_
      exact s_ri C hP hS ⟨rfl, h⟩ dX8_share_27
    · have h := h.2 c_3
      refine lv_iload_n hx hb dX8_share_18 rfl (lv_at hl 1 rfl) ?_
      refine lv_sipush (v := (nI 999)) hx hb dX8_share_19 (by decide) ?_
      refine lv_icmp_le (tgt := 28) hx hb dX8_share_22 (by decide) (fun c_4 => ?_) (fun c_4 => ?_)
      · have h := h.1 c_4
        refine lv_aload_n hx hb dX8_share_28 rfl (lv_at hl 0 rfl) ?_
        refine s_gR g C hP 0 1 4 (by decide) rfl rfl cfX8 (by decide) kFL_X8_19 dX8_share_29 ?_
        refine lv_iload_n hx hb dX8_share_32 rfl (lv_at hl 1 rfl) ?_
        refine lv_iload_n hx hb dX8_share_33 rfl (lv_at hl 2 rfl) ?_
        refine go_ip (run_V g C hP hS (c0 := 4) (As := [.int a1, .int a2]) (rest := []) (c_X4_shareOf hi S a1 a2 _ h) cal_X4_shareOf kML_X8_242 (by decide) rfl cfX4 ⟨rfl, rfl, Nat.le_of_ble_eq_true rfl, Nat.le_of_ble_eq_true rfl⟩ rfl rfl hl.1 (Nat.le_of_ble_eq_true rfl) dX8_share_34) hS (fun r_5 H locs h hP hS => ?_)
        exact s_ri C hP hS ⟨rfl, h⟩ dX8_share_37
      · have h := h.2 c_4
        refine lv_bipush (v := (-3 : Int32)) hx hb dX8_share_25 (by decide) ?_
        exact s_ri C hP hS ⟨rfl, h⟩ dX8_share_27
  · have h := h.1 c_2
    refine lv_bipush (v := (-2 : Int32)) hx hb dX8_share_11 (by decide) ?_
    exact s_ri C hP hS ⟨rfl, h⟩ dX8_share_13
def q_X8_count (S : St) (a1 : Int32) (k : Int32 → Prop) : Prop := ∀ sw_1 : Int32, sw_1 = a1 → ((sw_1 = (nI 0) → (q_X4_kiteBits S (fun r_3 => (k r_3)))) ∧ (¬ sw_1 = (nI 0) → ((sw_1 = (nI 1) → (q_X4_shoalBits S (fun r_5 => (k r_5)))) ∧ (¬ sw_1 = (nI 1) → ((sw_1 = (nI 2) → (k (S.1 4 4))) ∧ (¬ sw_1 = (nI 2) → ((sw_1 = (nI 3) → (k (S.1 4 5))) ∧ (¬ sw_1 = (nI 3) → ((sw_1 = (nI 4) → (k (S.1 4 6))) ∧ (¬ sw_1 = (nI 4) → ((sw_1 = (nI 5) → (k (S.1 4 7))) ∧ (¬ sw_1 = (nI 5) → ((sw_1 = (nI 6) → (k (S.1 (33 + 7 * 0) 0))) ∧ (¬ sw_1 = (nI 6) → ((sw_1 = (nI 7) → (k (S.1 (33 + 7 * 0) 4))) ∧ (¬ sw_1 = (nI 7) → ((sw_1 = (nI 8) → (k (S.1 (33 + 7 * 0) 2))) ∧ (¬ sw_1 = (nI 8) → ((sw_1 = (nI 9) → (k (S.1 (33 + 7 * 0) 3))) ∧ (¬ sw_1 = (nI 9) → ((sw_1 = (nI 10) → (k (S.1 1 2))) ∧ (¬ sw_1 = (nI 10) → (k (-3 : Int32))))))))))))))))))))))))
set_option maxRecDepth 100000 in
set_option maxHeartbeats 4000000 in
theorem c_X8_count {l : Launch} {Z : ZT} (hi : injZ 68 Z) (S : St) (a1 : Int32) (k : Int32 → Prop) (h : q_X8_count S a1 k) : Mi l shX 68 Z (gX Z) yX8_count cX8_count 2 (Option.some .int) (rmk 1 22) [.ref (Z.2.2.1 0), .int a1] S (fun r S' => S' = S ∧ k r) := by
  have g := gokX hi
  refine e_i (by decide) (Nat.le_of_ble_eq_true rfl) (lv := [(0, .ref (Z.2.2.1 0)), (1, .int a1)]) rfl (fun p e s m args below meth c C hP hS ls hl => ?_)
  have hx := C.1.1
  have hb := C.1.2.1
  unfold q_X8_count at h
  refine lv_iload_n hx hb dX8_count_0 rfl (lv_at hl 1 rfl) ?_
  refine lv_topi (fun sw_1 esw_1 => ?_)
  have h := h sw_1 esw_1
  by_cases c_2 : sw_1 = (nI 0)
  · have h := h.1 c_2
    rw [c_2]
    refine lv_tableIn (tgt := 60) hx hb dX8_count_1 (by decide) (by decide) rfl (by decide) ?_
    refine lv_aload_n hx hb dX8_count_60 rfl (lv_at hl 0 rfl) ?_
    refine s_gR g C hP 0 1 4 (by decide) rfl rfl cfX8 (by decide) kFL_X8_19 dX8_count_61 ?_
    refine go_ip (run_V g C hP hS (c0 := 4) (As := []) (rest := []) (c_X4_kiteBits hi S _ h) cal_X4_kiteBits kML_X8_245 (by decide) rfl cfX4 ⟨rfl, rfl, Nat.le_of_ble_eq_true rfl, Nat.le_of_ble_eq_true rfl⟩ rfl rfl hl.1 (Nat.le_of_ble_eq_true rfl) dX8_count_64) hS (fun r_3 H locs h hP hS => ?_)
    exact s_ri C hP hS ⟨rfl, h⟩ dX8_count_67
  · have h := h.2 c_2
    by_cases c_4 : sw_1 = (nI 1)
    · have h := h.1 c_4
      rw [c_4]
      refine lv_tableIn (tgt := 68) hx hb dX8_count_1 (by decide) (by decide) rfl (by decide) ?_
      refine lv_aload_n hx hb dX8_count_68 rfl (lv_at hl 0 rfl) ?_
      refine s_gR g C hP 0 1 4 (by decide) rfl rfl cfX8 (by decide) kFL_X8_19 dX8_count_69 ?_
      refine go_ip (run_V g C hP hS (c0 := 4) (As := []) (rest := []) (c_X4_shoalBits hi S _ h) cal_X4_shoalBits kML_X8_249 (by decide) rfl cfX4 ⟨rfl, rfl, Nat.le_of_ble_eq_true rfl, Nat.le_of_ble_eq_true rfl⟩ rfl rfl hl.1 (Nat.le_of_ble_eq_true rfl) dX8_count_72) hS (fun r_5 H locs h hP hS => ?_)
      exact s_ri C hP hS ⟨rfl, h⟩ dX8_count_75
    · have h := h.2 c_4
      by_cases c_6 : sw_1 = (nI 2)
      · have h := h.1 c_6
        rw [c_6]
        refine lv_tableIn (tgt := 76) hx hb dX8_count_1 (by decide) (by decide) rfl (by decide) ?_
        refine lv_aload_n hx hb dX8_count_76 rfl (lv_at hl 0 rfl) ?_
        refine s_gR g C hP 0 1 4 (by decide) rfl rfl cfX8 (by decide) kFL_X8_19 dX8_count_77 ?_
        refine s_gI g C hP 4 4 (by decide) rfl rfl cfX4 (by decide) kFL_X8_139 dX8_count_80 ?_
        exact s_ri C hP hS ⟨rfl, h⟩ dX8_count_83
      · have h := h.2 c_6
        by_cases c_7 : sw_1 = (nI 3)
        · have h := h.1 c_7
          rw [c_7]
          refine lv_tableIn (tgt := 84) hx hb dX8_count_1 (by decide) (by decide) rfl (by decide) ?_
          refine lv_aload_n hx hb dX8_count_84 rfl (lv_at hl 0 rfl) ?_
          refine s_gR g C hP 0 1 4 (by decide) rfl rfl cfX8 (by decide) kFL_X8_19 dX8_count_85 ?_
          refine s_gI g C hP 4 5 (by decide) rfl rfl cfX4 (by decide) kFL_X8_252 dX8_count_88 ?_
          exact s_ri C hP hS ⟨rfl, h⟩ dX8_count_91
        · have h := h.2 c_7
          by_cases c_8 : sw_1 = (nI 4)
          · have h := h.1 c_8
            rw [c_8]
            refine lv_tableIn (tgt := 92) hx hb dX8_count_1 (by decide) (by decide) rfl (by decide) ?_
            refine lv_aload_n hx hb dX8_count_92 rfl (lv_at hl 0 rfl) ?_
            refine s_gR g C hP 0 1 4 (by decide) rfl rfl cfX8 (by decide) kFL_X8_19 dX8_count_93 ?_
            refine s_gI g C hP 4 6 (by decide) rfl rfl cfX4 (by decide) kFL_X8_255 dX8_count_96 ?_
            exact s_ri C hP hS ⟨rfl, h⟩ dX8_count_99
          · have h := h.2 c_8
            by_cases c_9 : sw_1 = (nI 5)
            · have h := h.1 c_9
              rw [c_9]
              refine lv_tableIn (tgt := 100) hx hb dX8_count_1 (by decide) (by decide) rfl (by decide) ?_
              refine lv_aload_n hx hb dX8_count_100 rfl (lv_at hl 0 rfl) ?_
              refine s_gR g C hP 0 1 4 (by decide) rfl rfl cfX8 (by decide) kFL_X8_19 dX8_count_101 ?_
              refine s_gI g C hP 4 7 (by decide) rfl rfl cfX4 (by decide) kFL_X8_258 dX8_count_104 ?_
              exact s_ri C hP hS ⟨rfl, h⟩ dX8_count_107
            · have h := h.2 c_9
              by_cases c_10 : sw_1 = (nI 6)
              · have h := h.1 c_10
                rw [c_10]
                refine lv_tableIn (tgt := 108) hx hb dX8_count_1 (by decide) (by decide) rfl (by decide) ?_
                refine lv_aload_n hx hb dX8_count_108 rfl (lv_at hl 0 rfl) ?_
                refine s_gR g C hP 0 3 (33 + 7 * 0) (by decide) rfl rfl cfX8 (by decide) kFL_X8_33 dX8_count_109 ?_
                refine s_gI g C hP (33 + 7 * 0) 0 (ltX_day (d := 0) (by decide)) (shX_day (d := 0) (by decide)) rfl cfX1 (by decide) kFL_X8_120 dX8_count_112 ?_
                exact s_ri C hP hS ⟨rfl, h⟩ dX8_count_115
              · have h := h.2 c_10
                by_cases c_11 : sw_1 = (nI 7)
                · have h := h.1 c_11
                  rw [c_11]
                  refine lv_tableIn (tgt := 116) hx hb dX8_count_1 (by decide) (by decide) rfl (by decide) ?_
                  refine lv_aload_n hx hb dX8_count_116 rfl (lv_at hl 0 rfl) ?_
                  refine s_gR g C hP 0 3 (33 + 7 * 0) (by decide) rfl rfl cfX8 (by decide) kFL_X8_33 dX8_count_117 ?_
                  refine s_gI g C hP (33 + 7 * 0) 4 (ltX_day (d := 0) (by decide)) (shX_day (d := 0) (by decide)) rfl cfX1 (by decide) kFL_X8_194 dX8_count_120 ?_
                  exact s_ri C hP hS ⟨rfl, h⟩ dX8_count_123
                · have h := h.2 c_11
                  by_cases c_12 : sw_1 = (nI 8)
                  · have h := h.1 c_12
                    rw [c_12]
                    refine lv_tableIn (tgt := 124) hx hb dX8_count_1 (by decide) (by decide) rfl (by decide) ?_
                    refine lv_aload_n hx hb dX8_count_124 rfl (lv_at hl 0 rfl) ?_
                    refine s_gR g C hP 0 3 (33 + 7 * 0) (by decide) rfl rfl cfX8 (by decide) kFL_X8_33 dX8_count_125 ?_
                    refine s_gI g C hP (33 + 7 * 0) 2 (ltX_day (d := 0) (by decide)) (shX_day (d := 0) (by decide)) rfl cfX1 (by decide) kFL_X8_261 dX8_count_128 ?_
                    exact s_ri C hP hS ⟨rfl, h⟩ dX8_count_131
                  · have h := h.2 c_12
                    by_cases c_13 : sw_1 = (nI 9)
                    · have h := h.1 c_13
                      rw [c_13]
                      refine lv_tableIn (tgt := 132) hx hb dX8_count_1 (by decide) (by decide) rfl (by decide) ?_
                      refine lv_aload_n hx hb dX8_count_132 rfl (lv_at hl 0 rfl) ?_
                      refine s_gR g C hP 0 3 (33 + 7 * 0) (by decide) rfl rfl cfX8 (by decide) kFL_X8_33 dX8_count_133 ?_
                      refine s_gI g C hP (33 + 7 * 0) 3 (ltX_day (d := 0) (by decide)) (shX_day (d := 0) (by decide)) rfl cfX1 (by decide) kFL_X8_264 dX8_count_136 ?_
                      exact s_ri C hP hS ⟨rfl, h⟩ dX8_count_139
                    · have h := h.2 c_13
                      by_cases c_14 : sw_1 = (nI 10)
                      · have h := h.1 c_14
                        rw [c_14]
                        refine lv_tableIn (tgt := 140) hx hb dX8_count_1 (by decide) (by decide) rfl (by decide) ?_
                        refine lv_aload_n hx hb dX8_count_140 rfl (lv_at hl 0 rfl) ?_
                        refine s_gR g C hP 0 0 1 (by decide) rfl rfl cfX8 (by decide) kFL_X8_12 dX8_count_141 ?_
                        refine s_gI g C hP 1 2 (by decide) rfl rfl cfX7 (by decide) kFL_X8_72 dX8_count_144 ?_
                        exact s_ri C hP hS ⟨rfl, h⟩ dX8_count_147
                      · have h := h.2 c_14
                        have c_2_ := tIne c_2 (z := 0) (by decide)
                        have c_4_ := tIne c_4 (z := 1) (by decide)
                        have c_6_ := tIne c_6 (z := 2) (by decide)
                        have c_7_ := tIne c_7 (z := 3) (by decide)
                        have c_8_ := tIne c_8 (z := 4) (by decide)
                        have c_9_ := tIne c_9 (z := 5) (by decide)
                        have c_10_ := tIne c_10 (z := 6) (by decide)
                        have c_11_ := tIne c_11 (z := 7) (by decide)
                        have c_12_ := tIne c_12 (z := 8) (by decide)
                        have c_13_ := tIne c_13 (z := 9) (by decide)
                        have c_14_ := tIne c_14 (z := 10) (by decide)
                        refine lv_tableOut (tgt := 148) hx hb dX8_count_1 (by omega) (by decide) ?_
                        refine lv_bipush (v := (-3 : Int32)) hx hb dX8_count_148 (by decide) ?_
                        exact s_ri C hP hS ⟨rfl, h⟩ dX8_count_150
