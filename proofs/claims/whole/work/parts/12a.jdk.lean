def q_J0_coder_7d493 (u : Nat) (S : St) (k : Int32 → Prop) : Prop := ((nI 1) = (nI 0) → (k (nI 1))) ∧ (¬ (nI 1) = (nI 0) → (k (nI 0)))
set_option maxRecDepth 100000 in
set_option maxHeartbeats 4000000 in
theorem c_J0_coder_7d493 {l : Launch} {Z : ZT} (hi : injZ 68 Z) (u : Nat) (hu : u < 9) (S : St) (k : Int32 → Prop) (h : q_J0_coder_7d493 u S k) : Mi l shX 68 Z (gX Z) yJ0_coder_7d493 cJ0_coder_7d493 1 (Option.some .byte) (rmk 0 0) [.ref (Z.2.2.2 (10 + u))] S (fun r S' => S' = S ∧ narrow .byte (.int r) = .int r ∧ k r) := by
  have g := gokX hi
  refine e_i (by decide) (Nat.le_of_ble_eq_true rfl) (lv := [(0, .ref (Z.2.2.2 (10 + u)))]) rfl (fun p e s m args below meth c C hP hS ls hl => ?_)
  have hx := C.1.1
  have hb := C.1.2.1
  unfold q_J0_coder_7d493 at h
  refine s_cs C hS kFL_J0_38 dJ0_coder_7d493_0 ?_
  refine lv_if_eq (tgt := 13) hx hb dJ0_coder_7d493_3 (by decide) (fun c_1 => ?_) (fun c_1 => ?_)
  · have h := h.1 c_1
    refine lv_iconst (v := (nI 1)) hx hb dJ0_coder_7d493_13 (by decide) ?_
    exact s_rb C hP hS rfl ⟨rfl, ⟨rfl, h⟩⟩ dJ0_coder_7d493_14
  · have h := h.2 c_1
    refine lv_aload_n hx hb dJ0_coder_7d493_6 rfl (lv_at hl 0 rfl) ?_
    refine s_sc C hS hu kFL_J0_15 dJ0_coder_7d493_7 ?_
    refine lv_goto (tgt := 14) hx hb dJ0_coder_7d493_10 (by decide) ?_
    exact s_rb C hP hS rfl ⟨rfl, ⟨rfl, h⟩⟩ dJ0_coder_7d493_14
def q_J0_length_8abf5 (u : Nat) (S : St) (k : Int32 → Prop) : Prop := q_J0_coder_7d493 u S (fun r_1 => (k ((nI (txL.getD u 0)) >>> (r_1 &&& 31))))
set_option maxRecDepth 100000 in
set_option maxHeartbeats 4000000 in
theorem c_J0_length_8abf5 {l : Launch} {Z : ZT} (hi : injZ 68 Z) (u : Nat) (hu : u < 9) (S : St) (k : Int32 → Prop) (h : q_J0_length_8abf5 u S k) : Mi l shX 68 Z (gX Z) yJ0_length_8abf5 cJ0_length_8abf5 1 (Option.some .int) (rmk 1 20) [.ref (Z.2.2.2 (10 + u))] S (fun r S' => S' = S ∧ k r) := by
  have g := gokX hi
  refine e_i (by decide) (Nat.le_of_ble_eq_true rfl) (lv := [(0, .ref (Z.2.2.2 (10 + u)))]) rfl (fun p e s m args below meth c C hP hS ls hl => ?_)
  have hx := C.1.1
  have hb := C.1.2.1
  unfold q_J0_length_8abf5 at h
  refine lv_aload_n hx hb dJ0_length_8abf5_0 rfl (lv_at hl 0 rfl) ?_
  refine s_sv C hS hu kFL_J0_9 dJ0_length_8abf5_1 ?_
  refine s_sl C hS hu dJ0_length_8abf5_4 ?_
  refine lv_aload_n hx hb dJ0_length_8abf5_5 rfl (lv_at hl 0 rfl) ?_
  refine go_ip (run_VS hi C hP hS (i := u) (As := []) (rest := [.int (nI (txL.getD u 0))]) (c_J0_coder_7d493 hi u hu S _ h) cal_J0_coder_7d493 kML_J0_335 hu rfl ⟨rfl, rfl, Nat.le_of_ble_eq_true rfl, Nat.le_of_ble_eq_true rfl⟩ rfl rfl hl.1 (Nat.le_of_ble_eq_true rfl) dJ0_length_8abf5_6) hS (fun r_1 H locs h hP hS => ?_)
  obtain ⟨hbr_1, h⟩ := h
  refine lv_ishr hx hb dJ0_length_8abf5_9 ?_
  exact s_ri C hP hS ⟨rfl, h⟩ dJ0_length_8abf5_10
def q_J0_isLatin1_aae02 (u : Nat) (S : St) (k : Int32 → Prop) : Prop := ((nI 1) = (nI 0) → (k (nI 0))) ∧ (¬ (nI 1) = (nI 0) → (((nI 0) = (nI 0) → (k (nI 1))) ∧ (¬ (nI 0) = (nI 0) → (k (nI 0)))))
set_option maxRecDepth 100000 in
set_option maxHeartbeats 4000000 in
theorem c_J0_isLatin1_aae02 {l : Launch} {Z : ZT} (hi : injZ 68 Z) (u : Nat) (hu : u < 9) (S : St) (k : Int32 → Prop) (h : q_J0_isLatin1_aae02 u S k) : Mi l shX 68 Z (gX Z) yJ0_isLatin1_aae02 cJ0_isLatin1_aae02 1 (Option.some .boolean) (rmk 0 0) [.ref (Z.2.2.2 (10 + u))] S (fun r S' => S' = S ∧ (r = 0 ∨ r = 1) ∧ k r) := by
  have g := gokX hi
  refine e_i (by decide) (Nat.le_of_ble_eq_true rfl) (lv := [(0, .ref (Z.2.2.2 (10 + u)))]) rfl (fun p e s m args below meth c C hP hS ls hl => ?_)
  have hx := C.1.1
  have hb := C.1.2.1
  unfold q_J0_isLatin1_aae02 at h
  refine s_cs C hS kFL_J0_38 dJ0_isLatin1_aae02_0 ?_
  refine lv_if_eq (tgt := 17) hx hb dJ0_isLatin1_aae02_3 (by decide) (fun c_1 => ?_) (fun c_1 => ?_)
  · have h := h.1 c_1
    refine lv_iconst (v := (nI 0)) hx hb dJ0_isLatin1_aae02_17 (by decide) ?_
    exact s_rz C hP hS (nar_b (Or.inl rfl)) ⟨rfl, ⟨(Or.inl rfl), h⟩⟩ dJ0_isLatin1_aae02_18
  · have h := h.2 c_1
    refine lv_aload_n hx hb dJ0_isLatin1_aae02_6 rfl (lv_at hl 0 rfl) ?_
    refine s_sc C hS hu kFL_J0_15 dJ0_isLatin1_aae02_7 ?_
    refine lv_if_ne (tgt := 17) hx hb dJ0_isLatin1_aae02_10 (by decide) (fun c_2 => ?_) (fun c_2 => ?_)
    · have h := h.2 c_2
      refine lv_iconst (v := (nI 0)) hx hb dJ0_isLatin1_aae02_17 (by decide) ?_
      exact s_rz C hP hS (nar_b (Or.inl rfl)) ⟨rfl, ⟨(Or.inl rfl), h⟩⟩ dJ0_isLatin1_aae02_18
    · have h := h.1 c_2
      refine lv_iconst (v := (nI 1)) hx hb dJ0_isLatin1_aae02_13 (by decide) ?_
      refine lv_goto (tgt := 18) hx hb dJ0_isLatin1_aae02_14 (by decide) ?_
      exact s_rz C hP hS (nar_b (Or.inr rfl)) ⟨rfl, ⟨(Or.inr rfl), h⟩⟩ dJ0_isLatin1_aae02_18
def q_J3_checkIndex_n_9 (a1 : Int32) (a2 : Int32) (S : St) (k : Int32 → Prop)  : Prop := False
set_option maxRecDepth 100000 in
set_option maxHeartbeats 4000000 in
theorem b_J3_checkIndex_n_9 {p : Program} {l : Launch} {e : Env} {s : State} {m : MethodId} {args : Array Value} {below : List Frame} {meth : Method} {c : Code} {Z : ZT} (hi : injZ 68 Z) (C : Cxt (gX Z) p s m meth c args yJ3_checkIndex_8e157 cJ3_checkIndex_8e157 3 (Option.some .int)) {a1 : Int32} {a2 : Int32} {S : St} {k : Int32 → Prop}   (H : Heap) (locs : List Loc) (ls : Array Slot) (hP : va_P Z.1 vwCl (wl shX 68 Z S) H) (hS : va_S (aa 68 Z) s.heap H locs) (hl : lv_has ls 3 [(0, .int a1), (1, .int a2), (2, .null)]) (h : q_J3_checkIndex_n_9 a1 a2 S k ) : W p l e (rmk 0 0) s m args below meth c H locs 0 0 (Qi below shX 68 Z args s (fun r S' => S' = S ∧ k r)) (F0 m 9 ls []) := by
  have g := gokX hi
  have hx := C.1.1
  have hb := C.1.2.1
  unfold q_J3_checkIndex_n_9 at h
  exact h.elim
def q_J3_checkIndex_n (S : St) (a1 : Int32) (a2 : Int32) (k : Int32 → Prop) : Prop := (a1 < (nI 0) → (q_J3_checkIndex_n_9 a1 a2 S k )) ∧ (¬ a1 < (nI 0) → ((a1 < a2 → (k a1)) ∧ (¬ a1 < a2 → (q_J3_checkIndex_n_9 a1 a2 S k ))))
set_option maxRecDepth 100000 in
set_option maxHeartbeats 4000000 in
theorem c_J3_checkIndex_n {l : Launch} {Z : ZT} (hi : injZ 68 Z) (S : St) (a1 : Int32) (a2 : Int32) (k : Int32 → Prop) (h : q_J3_checkIndex_n S a1 a2 k) : Mi l shX 68 Z (gX Z) yJ3_checkIndex_8e157 cJ3_checkIndex_8e157 3 (Option.some .int) (rmk 0 0) [.int a1, .int a2, .null] S (fun r S' => S' = S ∧ k r) := by
  have g := gokX hi
  refine e_i (by decide) (Nat.le_of_ble_eq_true rfl) (lv := [(0, .int a1), (1, .int a2), (2, .null)]) rfl (fun p e s m args below meth c C hP hS ls hl => ?_)
  have hx := C.1.1
  have hb := C.1.2.1
  unfold q_J3_checkIndex_n at h
  refine lv_iload_n hx hb dJ3_checkIndex_8e157_0 rfl (lv_at hl 0 rfl) ?_
  refine lv_if_lt (tgt := 9) hx hb dJ3_checkIndex_8e157_1 (by decide) (fun c_1 => ?_) (fun c_1 => ?_)
  · have h := h.1 c_1
    exact b_J3_checkIndex_n_9 hi C  _ _ _ hP hS (lv_sub hl [0, 1, 2] rfl) h
  · have h := h.2 c_1
    refine lv_iload_n hx hb dJ3_checkIndex_8e157_4 rfl (lv_at hl 0 rfl) ?_
    refine lv_iload_n hx hb dJ3_checkIndex_8e157_5 rfl (lv_at hl 1 rfl) ?_
    refine lv_icmp_lt (tgt := 16) hx hb dJ3_checkIndex_8e157_6 (by decide) (fun c_2 => ?_) (fun c_2 => ?_)
    · have h := h.1 c_2
      refine lv_iload_n hx hb dJ3_checkIndex_8e157_16 rfl (lv_at hl 0 rfl) ?_
      exact s_ri C hP hS ⟨rfl, h⟩ dJ3_checkIndex_8e157_17
    · have h := h.2 c_2
      exact b_J3_checkIndex_n_9 hi C  _ _ _ hP hS (lv_sub hl [0, 1, 2] rfl) h
def q_J3_checkIndex_8e157_9 (t3 : Nat) (a1 : Int32) (a2 : Int32) (S : St) (k : Int32 → Prop)  : Prop := False
set_option maxRecDepth 100000 in
set_option maxHeartbeats 4000000 in
theorem b_J3_checkIndex_8e157_9 {p : Program} {l : Launch} {e : Env} {s : State} {m : MethodId} {args : Array Value} {below : List Frame} {meth : Method} {c : Code} {Z : ZT} (hi : injZ 68 Z) (C : Cxt (gX Z) p s m meth c args yJ3_checkIndex_8e157 cJ3_checkIndex_8e157 3 (Option.some .int)) {t3 : Nat} {a1 : Int32} {a2 : Int32} {S : St} {k : Int32 → Prop}   (H : Heap) (locs : List Loc) (ls : Array Slot) (hP : va_P Z.1 vwCl (wl shX 68 Z S) H) (hS : va_S (aa 68 Z) s.heap H locs) (hl : lv_has ls 3 [(0, .int a1), (1, .int a2), (2, .ref (t3))]) (h : q_J3_checkIndex_8e157_9 t3 a1 a2 S k ) : W p l e (rmk 0 0) s m args below meth c H locs 0 0 (Qi below shX 68 Z args s (fun r S' => S' = S ∧ k r)) (F0 m 9 ls []) := by
  have g := gokX hi
  have hx := C.1.1
  have hb := C.1.2.1
  unfold q_J3_checkIndex_8e157_9 at h
  exact h.elim
def q_J3_checkIndex_8e157 (t3 : Nat) (S : St) (a1 : Int32) (a2 : Int32) (k : Int32 → Prop) : Prop := (a1 < (nI 0) → (q_J3_checkIndex_8e157_9 t3 a1 a2 S k )) ∧ (¬ a1 < (nI 0) → ((a1 < a2 → (k a1)) ∧ (¬ a1 < a2 → (q_J3_checkIndex_8e157_9 t3 a1 a2 S k ))))
set_option maxRecDepth 100000 in
set_option maxHeartbeats 4000000 in
theorem c_J3_checkIndex_8e157 {l : Launch} {Z : ZT} (hi : injZ 68 Z) (t3 : Nat) (S : St) (a1 : Int32) (a2 : Int32) (k : Int32 → Prop) (h : q_J3_checkIndex_8e157 t3 S a1 a2 k) : Mi l shX 68 Z (gX Z) yJ3_checkIndex_8e157 cJ3_checkIndex_8e157 3 (Option.some .int) (rmk 0 0) [.int a1, .int a2, .ref (t3)] S (fun r S' => S' = S ∧ k r) := by
  have g := gokX hi
  refine e_i (by decide) (Nat.le_of_ble_eq_true rfl) (lv := [(0, .int a1), (1, .int a2), (2, .ref (t3))]) rfl (fun p e s m args below meth c C hP hS ls hl => ?_)
  have hx := C.1.1
  have hb := C.1.2.1
  unfold q_J3_checkIndex_8e157 at h
  refine lv_iload_n hx hb dJ3_checkIndex_8e157_0 rfl (lv_at hl 0 rfl) ?_
  refine lv_if_lt (tgt := 9) hx hb dJ3_checkIndex_8e157_1 (by decide) (fun c_1 => ?_) (fun c_1 => ?_)
  · have h := h.1 c_1
    exact b_J3_checkIndex_8e157_9 hi C  _ _ _ hP hS (lv_sub hl [0, 1, 2] rfl) h
  · have h := h.2 c_1
    refine lv_iload_n hx hb dJ3_checkIndex_8e157_4 rfl (lv_at hl 0 rfl) ?_
    refine lv_iload_n hx hb dJ3_checkIndex_8e157_5 rfl (lv_at hl 1 rfl) ?_
    refine lv_icmp_lt (tgt := 16) hx hb dJ3_checkIndex_8e157_6 (by decide) (fun c_2 => ?_) (fun c_2 => ?_)
    · have h := h.1 c_2
      refine lv_iload_n hx hb dJ3_checkIndex_8e157_16 rfl (lv_at hl 0 rfl) ?_
      exact s_ri C hP hS ⟨rfl, h⟩ dJ3_checkIndex_8e157_17
    · have h := h.2 c_2
      exact b_J3_checkIndex_8e157_9 hi C  _ _ _ hP hS (lv_sub hl [0, 1, 2] rfl) h
def q_J0_checkIndex_df160 (S : St) (a1 : Int32) (a2 : Int32) (k : Prop) : Prop := q_J3_checkIndex_8e157 0 S a1 a2 (fun _ => k)
theorem q_J3_ck (t : Nat) (S : St) (a1 a2 : Int32) (k : Int32 → Prop) : q_J3_checkIndex_8e157 t S a1 a2 k = q_J3_checkIndex_8e157 0 S a1 a2 k := rfl
theorem q_J3_ckn (S : St) (a1 a2 : Int32) (k : Int32 → Prop) : q_J3_checkIndex_n S a1 a2 k = q_J3_checkIndex_8e157 0 S a1 a2 k := rfl
set_option maxRecDepth 100000 in
set_option maxHeartbeats 4000000 in
theorem c_J0_checkIndex_df160 {l : Launch} {Z : ZT} (hi : injZ 68 Z) (S : St) (a1 : Int32) (a2 : Int32) (k : Prop) (h : q_J0_checkIndex_df160 S a1 a2 k) : Mv l shX 68 Z (gX Z) yJ0_checkIndex_df160 cJ0_checkIndex_df160 2 none (rmk 1 22) [.int a1, .int a2] S (fun S' => S' = S ∧ k) := by
  have g := gokX hi
  refine e_v (by decide) (Nat.le_of_ble_eq_true rfl) (lv := [(0, .int a1), (1, .int a2)]) rfl (fun p e s m args below meth c C hP hS ls hl => ?_)
  have hx := C.1.1
  have hb := C.1.2.1
  unfold q_J0_checkIndex_df160 at h
  refine lv_iload_n hx hb dJ0_checkIndex_df160_0 rfl (lv_at hl 0 rfl) ?_
  refine lv_iload_n hx hb dJ0_checkIndex_df160_1 rfl (lv_at hl 1 rfl) ?_
  refine s_fmt C hS kFL_J0_1053 dJ0_checkIndex_df160_2 ?_ (fun t => ?_)
  · rw [← q_J3_ckn] at h
    refine go_ip (run_S g C hP hS (As := [.int a1, .int a2, .null]) (rest := []) (c_J3_checkIndex_n hi S a1 a2 _ h) cal_J3_checkIndex_8e157 kML_J0_1059 ⟨rfl, rfl, Nat.le_of_ble_eq_true rfl, Nat.le_of_ble_eq_true rfl⟩ rfl rfl hl.1 (Nat.le_of_ble_eq_true rfl) dJ0_checkIndex_df160_5) hS (fun r_1 H locs h hP hS => ?_)
    refine lv_pop hx hb dJ0_checkIndex_df160_8 rfl ?_
    exact s_rv C hP hS ⟨rfl, h⟩ dJ0_checkIndex_df160_9
  · rw [← q_J3_ck t] at h
    refine go_ip (run_S g C hP hS (As := [.int a1, .int a2, .ref t]) (rest := []) (c_J3_checkIndex_8e157 hi t S a1 a2 _ h) cal_J3_checkIndex_8e157 kML_J0_1059 ⟨rfl, rfl, Nat.le_of_ble_eq_true rfl, Nat.le_of_ble_eq_true rfl⟩ rfl rfl hl.1 (Nat.le_of_ble_eq_true rfl) dJ0_checkIndex_df160_5) hS (fun r_1 H locs h hP hS => ?_)
    refine lv_pop hx hb dJ0_checkIndex_df160_8 rfl ?_
    exact s_rv C hP hS ⟨rfl, h⟩ dJ0_checkIndex_df160_9
