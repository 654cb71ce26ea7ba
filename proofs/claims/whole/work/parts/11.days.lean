def q_X0_shoalsAt_84 (a2 : Int32) (a3 : Int32) (a4 : Int32) (S : St) (k : Int32 → Prop) (e_23 : Int32 → Int32 → Int32 → Int32 → Prop) (x4 : Int32) (x5 : Int32) (x7 : Int32) (t0 : Int32) (t1 : Int32) : Prop := ∀ x6_1 : Int32, x6_1 = (t1 ||| t0) → (∀ x7_2 : Int32, x7_2 = x7 + (nI 1) → (e_23 x4 x5 x6_1 x7_2))
set_option maxRecDepth 100000 in
set_option maxHeartbeats 4000000 in
theorem b_X0_shoalsAt_84 {p : Program} {l : Launch} {e : Env} {s : State} {m : MethodId} {args : Array Value} {below : List Frame} {meth : Method} {c : Code} {Z : ZT} (hi : injZ 68 Z) (C : Cxt (gX Z) p s m meth c args yX0_shoalsAt cX0_shoalsAt 9 (Option.some .int)) {a2 : Int32} {a3 : Int32} {a4 : Int32} {S : St} {k : Int32 → Prop} {e_23 : Int32 → Int32 → Int32 → Int32 → Prop}  (he_23 : ∀ (x4 : Int32) (x5 : Int32) (x6 : Int32) (x7 : Int32) (H : Heap) (locs : List Loc) (ls : Array Slot), va_P Z.1 vwCl (wl shX 68 Z S) H → va_S (aa 68 Z) s.heap H locs → lv_has ls 9 [(0, .ref (Z.2.2.1 4)), (3, .int a4), (4, .int x4), (5, .int x5), (6, .int x6), (7, .int x7)] → e_23 x4 x5 x6 x7 → W p l e (rmk 2 46) s m args below meth c H locs 0 0 (Qi below shX 68 Z args s (fun r S' => S' = S ∧ k r)) (F0 m 23 ls [])) (x4 : Int32) (x5 : Int32) (x7 : Int32) (t0 : Int32) (t1 : Int32) (H : Heap) (locs : List Loc) (ls : Array Slot) (hP : va_P Z.1 vwCl (wl shX 68 Z S) H) (hS : va_S (aa 68 Z) s.heap H locs) (hl : lv_has ls 9 [(0, .ref (Z.2.2.1 4)), (3, .int a4), (4, .int x4), (5, .int x5), (7, .int x7)]) (h : q_X0_shoalsAt_84 a2 a3 a4 S k e_23 x4 x5 x7 t0 t1) : W p l e (rmk 2 46) s m args below meth c H locs 0 0 (Qi below shX 68 Z args s (fun r S' => S' = S ∧ k r)) (F0 m 84 ls [.int t0, .int t1]) := by
  have g := gokX hi
  have hx := C.1.1
  have hb := C.1.2.1
  unfold q_X0_shoalsAt_84 at h
  refine lv_ior hx hb dX0_shoalsAt_84 ?_
  refine lv_topi (fun x6_1 ex6_1 => ?_)
  have h := h x6_1 ex6_1
  refine lv_istore (lv' := [(6, .int x6_1), (0, .ref (Z.2.2.1 4)), (3, .int a4), (4, .int x4), (5, .int x5), (7, .int x7)]) hx hb dX0_shoalsAt_85 hl (by decide) rfl (fun ls hl => ?_)
  obtain ⟨x7_2, ex7_2⟩ : ∃ y_ : Int32, y_ = x7 + (nI 1) := ⟨_, rfl⟩
  have h := h x7_2 ex7_2
  refine lv_iinc (v := x7_2) (lv' := [(7, .int x7_2), (6, .int x6_1), (0, .ref (Z.2.2.1 4)), (3, .int a4), (4, .int x4), (5, .int x5)]) hx hb dX0_shoalsAt_87 hl (k := 5) rfl (by rw [ex7_2]; rfl) (by decide) rfl (fun ls hl => ?_)
  refine lv_goto (tgt := 23) hx hb dX0_shoalsAt_90 (by decide) ?_
  exact he_23 _ _ _ _ _ _ _ hP hS (lv_sub hl [2, 3, 4, 5, 1, 0] rfl) h
def q_X0_shoalsAt_67 (a2 : Int32) (a3 : Int32) (a4 : Int32) (S : St) (k : Int32 → Prop) (e_23 : Int32 → Int32 → Int32 → Int32 → Prop) (x4 : Int32) (x5 : Int32) (x6 : Int32) (x7 : Int32) (t0 : Int32) : Prop := (t0 = (nI 0) → (q_X0_shoalsAt_84 a2 a3 a4 S k e_23 x4 x5 x7 (nI 0) x6)) ∧ (¬ t0 = (nI 0) → (q_X0_shoalsAt_84 a2 a3 a4 S k e_23 x4 x5 x7 ((nI 1) <<< (x7 &&& 31)) x6))
set_option maxRecDepth 100000 in
set_option maxHeartbeats 4000000 in
theorem b_X0_shoalsAt_67 {p : Program} {l : Launch} {e : Env} {s : State} {m : MethodId} {args : Array Value} {below : List Frame} {meth : Method} {c : Code} {Z : ZT} (hi : injZ 68 Z) (C : Cxt (gX Z) p s m meth c args yX0_shoalsAt cX0_shoalsAt 9 (Option.some .int)) {a2 : Int32} {a3 : Int32} {a4 : Int32} {S : St} {k : Int32 → Prop} {e_23 : Int32 → Int32 → Int32 → Int32 → Prop}  (he_23 : ∀ (x4 : Int32) (x5 : Int32) (x6 : Int32) (x7 : Int32) (H : Heap) (locs : List Loc) (ls : Array Slot), va_P Z.1 vwCl (wl shX 68 Z S) H → va_S (aa 68 Z) s.heap H locs → lv_has ls 9 [(0, .ref (Z.2.2.1 4)), (3, .int a4), (4, .int x4), (5, .int x5), (6, .int x6), (7, .int x7)] → e_23 x4 x5 x6 x7 → W p l e (rmk 2 46) s m args below meth c H locs 0 0 (Qi below shX 68 Z args s (fun r S' => S' = S ∧ k r)) (F0 m 23 ls [])) (x4 : Int32) (x5 : Int32) (x6 : Int32) (x7 : Int32) (t0 : Int32) (H : Heap) (locs : List Loc) (ls : Array Slot) (hP : va_P Z.1 vwCl (wl shX 68 Z S) H) (hS : va_S (aa 68 Z) s.heap H locs) (hl : lv_has ls 9 [(0, .ref (Z.2.2.1 4)), (3, .int a4), (4, .int x4), (5, .int x5), (6, .int x6), (7, .int x7)]) (h : q_X0_shoalsAt_67 a2 a3 a4 S k e_23 x4 x5 x6 x7 t0) : W p l e (rmk 2 46) s m args below meth c H locs 0 0 (Qi below shX 68 Z args s (fun r S' => S' = S ∧ k r)) (F0 m 67 ls [.int t0]) := by
  have g := gokX hi
  have hx := C.1.1
  have hb := C.1.2.1
  unfold q_X0_shoalsAt_67 at h
  refine lv_istore (lv' := [(8, .int t0), (0, .ref (Z.2.2.1 4)), (3, .int a4), (4, .int x4), (5, .int x5), (6, .int x6), (7, .int x7)]) hx hb dX0_shoalsAt_67 hl (by decide) rfl (fun ls hl => ?_)
  refine lv_iload hx hb dX0_shoalsAt_69 (lv_at hl 5 rfl) ?_
  refine lv_iload hx hb dX0_shoalsAt_71 (lv_at hl 0 rfl) ?_
  refine lv_if_eq (tgt := 83) hx hb dX0_shoalsAt_73 (by decide) (fun c_1 => ?_) (fun c_1 => ?_)
  · have h := h.1 c_1
    refine lv_iconst (v := (nI 0)) hx hb dX0_shoalsAt_83 (by decide) ?_
    exact b_X0_shoalsAt_84 hi C he_23 _ _ _ _ _ _ _ _ hP hS (lv_sub hl [1, 2, 3, 4, 6] rfl) h
  · have h := h.2 c_1
    refine lv_iconst (v := (nI 1)) hx hb dX0_shoalsAt_76 (by decide) ?_
    refine lv_iload hx hb dX0_shoalsAt_77 (lv_at hl 6 rfl) ?_
    refine lv_ishl hx hb dX0_shoalsAt_79 ?_
    refine lv_goto (tgt := 84) hx hb dX0_shoalsAt_80 (by decide) ?_
    exact b_X0_shoalsAt_84 hi C he_23 _ _ _ _ _ _ _ _ hP hS (lv_sub hl [1, 2, 3, 4, 6] rfl) h
def q_X0_shoalsAt_66 (a2 : Int32) (a3 : Int32) (a4 : Int32) (S : St) (k : Int32 → Prop) (e_23 : Int32 → Int32 → Int32 → Int32 → Prop) (x4 : Int32) (x5 : Int32) (x6 : Int32) (x7 : Int32) : Prop := q_X0_shoalsAt_67 a2 a3 a4 S k e_23 x4 x5 x6 x7 (nI 0)
set_option maxRecDepth 100000 in
set_option maxHeartbeats 4000000 in
theorem b_X0_shoalsAt_66 {p : Program} {l : Launch} {e : Env} {s : State} {m : MethodId} {args : Array Value} {below : List Frame} {meth : Method} {c : Code} {Z : ZT} (hi : injZ 68 Z) (C : Cxt (gX Z) p s m meth c args yX0_shoalsAt cX0_shoalsAt 9 (Option.some .int)) {a2 : Int32} {a3 : Int32} {a4 : Int32} {S : St} {k : Int32 → Prop} {e_23 : Int32 → Int32 → Int32 → Int32 → Prop}  (he_23 : ∀ (x4 : Int32) (x5 : Int32) (x6 : Int32) (x7 : Int32) (H : Heap) (locs : List Loc) (ls : Array Slot), va_P Z.1 vwCl (wl shX 68 Z S) H → va_S (aa 68 Z) s.heap H locs → lv_has ls 9 [(0, .ref (Z.2.2.1 4)), (3, .int a4), (4, .int x4), (5, .int x5), (6, .int x6), (7, .int x7)] → e_23 x4 x5 x6 x7 → W p l e (rmk 2 46) s m args below meth c H locs 0 0 (Qi below shX 68 Z args s (fun r S' => S' = S ∧ k r)) (F0 m 23 ls [])) (x4 : Int32) (x5 : Int32) (x6 : Int32) (x7 : Int32) (H : Heap) (locs : List Loc) (ls : Array Slot) (hP : va_P Z.1 vwCl (wl shX 68 Z S) H) (hS : va_S (aa 68 Z) s.heap H locs) (hl : lv_has ls 9 [(0, .ref (Z.2.2.1 4)), (3, .int a4), (4, .int x4), (5, .int x5), (6, .int x6), (7, .int x7)]) (h : q_X0_shoalsAt_66 a2 a3 a4 S k e_23 x4 x5 x6 x7) : W p l e (rmk 2 46) s m args below meth c H locs 0 0 (Qi below shX 68 Z args s (fun r S' => S' = S ∧ k r)) (F0 m 66 ls []) := by
  have g := gokX hi
  have hx := C.1.1
  have hb := C.1.2.1
  unfold q_X0_shoalsAt_66 at h
  refine lv_iconst (v := (nI 0)) hx hb dX0_shoalsAt_66 (by decide) ?_
  exact b_X0_shoalsAt_67 hi C he_23 _ _ _ _ _ _ _ _ hP hS (lv_sub hl [0, 1, 2, 3, 4, 5] rfl) h
def q_X0_shoalsAt_23 (a2 : Int32) (a3 : Int32) (a4 : Int32) (S : St) (k : Int32 → Prop) : Nat → Int32 → Int32 → Int32 → Int32 → Prop := fun n_ => Nat.rec (motive := fun _ => Int32 → Int32 → Int32 → Int32 → Prop) (fun _ _ _ _ => False) (fun _ ih => fun x4 x5 x6 x7 => ((nI 4) ≤ x7 → (k x6)) ∧ (¬ (nI 4) ≤ x7 → (q_X4_isToldShoal S x7 (fun r_2 => ((r_2 = (nI 0) → (q_X0_shoalsAt_66 a2 a3 a4 S k ih x4 x5 x6 x7)) ∧ (¬ r_2 = (nI 0) → (q_X4_shoalX S x7 a4 (fun r_4 => ((r_4 = x4 → (q_X4_shoalY S x7 a4 (fun r_6 => ((r_6 = x5 → (q_X0_shoalsAt_67 a2 a3 a4 S k ih x4 x5 x6 x7 (nI 1))) ∧ (¬ r_6 = x5 → (q_X0_shoalsAt_66 a2 a3 a4 S k ih x4 x5 x6 x7)))))) ∧ (¬ r_4 = x4 → (q_X0_shoalsAt_66 a2 a3 a4 S k ih x4 x5 x6 x7))))))))))) n_
theorem q_X0_shoalsAt_23_s (a2 : Int32) (a3 : Int32) (a4 : Int32) (S : St) (k : Int32 → Prop) (n_ : Nat) (x4 : Int32) (x5 : Int32) (x6 : Int32) (x7 : Int32) : q_X0_shoalsAt_23 a2 a3 a4 S k (n_ + 1) x4 x5 x6 x7 = (((nI 4) ≤ x7 → (k x6)) ∧ (¬ (nI 4) ≤ x7 → (q_X4_isToldShoal S x7 (fun r_2 => ((r_2 = (nI 0) → (q_X0_shoalsAt_66 a2 a3 a4 S k (q_X0_shoalsAt_23 a2 a3 a4 S k n_) x4 x5 x6 x7)) ∧ (¬ r_2 = (nI 0) → (q_X4_shoalX S x7 a4 (fun r_4 => ((r_4 = x4 → (q_X4_shoalY S x7 a4 (fun r_6 => ((r_6 = x5 → (q_X0_shoalsAt_67 a2 a3 a4 S k (q_X0_shoalsAt_23 a2 a3 a4 S k n_) x4 x5 x6 x7 (nI 1))) ∧ (¬ r_6 = x5 → (q_X0_shoalsAt_66 a2 a3 a4 S k (q_X0_shoalsAt_23 a2 a3 a4 S k n_) x4 x5 x6 x7)))))) ∧ (¬ r_4 = x4 → (q_X0_shoalsAt_66 a2 a3 a4 S k (q_X0_shoalsAt_23 a2 a3 a4 S k n_) x4 x5 x6 x7))))))))))) := rfl
set_option maxRecDepth 100000 in
set_option maxHeartbeats 4000000 in
theorem b_X0_shoalsAt_23 {p : Program} {l : Launch} {e : Env} {s : State} {m : MethodId} {args : Array Value} {below : List Frame} {meth : Method} {c : Code} {Z : ZT} (hi : injZ 68 Z) (C : Cxt (gX Z) p s m meth c args yX0_shoalsAt cX0_shoalsAt 9 (Option.some .int)) {a2 : Int32} {a3 : Int32} {a4 : Int32} {S : St} {k : Int32 → Prop}   : ∀ (n_ : Nat) (x4 : Int32) (x5 : Int32) (x6 : Int32) (x7 : Int32) (H : Heap) (locs : List Loc) (ls : Array Slot), va_P Z.1 vwCl (wl shX 68 Z S) H → va_S (aa 68 Z) s.heap H locs → lv_has ls 9 [(0, .ref (Z.2.2.1 4)), (3, .int a4), (4, .int x4), (5, .int x5), (6, .int x6), (7, .int x7)] → q_X0_shoalsAt_23 a2 a3 a4 S k n_ x4 x5 x6 x7 → W p l e (rmk 2 46) s m args below meth c H locs 0 0 (Qi below shX 68 Z args s (fun r S' => S' = S ∧ k r)) (F0 m 23 ls []) := by
  have g := gokX hi
  have hx := C.1.1
  have hb := C.1.2.1
  intro n_
  induction n_ with
  | zero => intro x4 x5 x6 x7 H locs ls hP hS hl h; exact h.elim
  | succ n_ ih =>
    intro x4 x5 x6 x7 H locs ls hP hS hl h
    rw [q_X0_shoalsAt_23_s] at h
    refine lv_iload hx hb dX0_shoalsAt_23 (lv_at hl 5 rfl) ?_
    refine lv_iconst (v := (nI 4)) hx hb dX0_shoalsAt_25 (by decide) ?_
    refine lv_icmp_ge (tgt := 93) hx hb dX0_shoalsAt_26 (by decide) (fun c_1 => ?_) (fun c_1 => ?_)
    · have h := h.1 c_1
      refine lv_iload hx hb dX0_shoalsAt_93 (lv_at hl 4 rfl) ?_
      exact s_ri C hP hS ⟨rfl, h⟩ dX0_shoalsAt_95
    · have h := h.2 c_1
      refine lv_aload_n hx hb dX0_shoalsAt_29 rfl (lv_at hl 0 rfl) ?_
      refine lv_iload hx hb dX0_shoalsAt_30 (lv_at hl 5 rfl) ?_
      refine go_ip (run_V g C hP hS (c0 := 4) (As := [.int x7]) (rest := []) (c_X4_isToldShoal hi S x7 _ h) cal_X4_isToldShoal kML_X0_49 (by decide) rfl cfX4 ⟨rfl, rfl, Nat.le_of_ble_eq_true rfl, Nat.le_of_ble_eq_true rfl⟩ rfl rfl hl.1 (Nat.le_of_ble_eq_true rfl) dX0_shoalsAt_32) hS (fun r_2 H locs h hP hS => ?_)
      obtain ⟨hbr_2, h⟩ := h
      refine lv_if_eq (tgt := 66) hx hb dX0_shoalsAt_35 (by decide) (fun c_3 => ?_) (fun c_3 => ?_)
      · have h := h.1 c_3
        exact b_X0_shoalsAt_66 hi C ih _ _ _ _ _ _ _ hP hS (lv_sub hl [0, 1, 2, 3, 4, 5] rfl) h
      · have h := h.2 c_3
        refine lv_aload_n hx hb dX0_shoalsAt_38 rfl (lv_at hl 0 rfl) ?_
        refine lv_iload hx hb dX0_shoalsAt_39 (lv_at hl 5 rfl) ?_
        refine lv_iload_n hx hb dX0_shoalsAt_41 rfl (lv_at hl 1 rfl) ?_
        refine go_ip (run_V g C hP hS (c0 := 4) (As := [.int x7, .int a4]) (rest := []) (c_X4_shoalX hi S x7 a4 _ h) cal_X4_shoalX kML_X0_53 (by decide) rfl cfX4 ⟨rfl, rfl, Nat.le_of_ble_eq_true rfl, Nat.le_of_ble_eq_true rfl⟩ rfl rfl hl.1 (Nat.le_of_ble_eq_true rfl) dX0_shoalsAt_42) hS (fun r_4 H locs h hP hS => ?_)
        refine lv_iload hx hb dX0_shoalsAt_45 (lv_at hl 2 rfl) ?_
        refine lv_icmp_ne (tgt := 66) hx hb dX0_shoalsAt_47 (by decide) (fun c_5 => ?_) (fun c_5 => ?_)
        · have h := h.2 c_5
          exact b_X0_shoalsAt_66 hi C ih _ _ _ _ _ _ _ hP hS (lv_sub hl [0, 1, 2, 3, 4, 5] rfl) h
        · have h := h.1 c_5
          refine lv_aload_n hx hb dX0_shoalsAt_50 rfl (lv_at hl 0 rfl) ?_
          refine lv_iload hx hb dX0_shoalsAt_51 (lv_at hl 5 rfl) ?_
          refine lv_iload_n hx hb dX0_shoalsAt_53 rfl (lv_at hl 1 rfl) ?_
          refine go_ip (run_V g C hP hS (c0 := 4) (As := [.int x7, .int a4]) (rest := []) (c_X4_shoalY hi S x7 a4 _ h) cal_X4_shoalY kML_X0_56 (by decide) rfl cfX4 ⟨rfl, rfl, Nat.le_of_ble_eq_true rfl, Nat.le_of_ble_eq_true rfl⟩ rfl rfl hl.1 (Nat.le_of_ble_eq_true rfl) dX0_shoalsAt_54) hS (fun r_6 H locs h hP hS => ?_)
          refine lv_iload hx hb dX0_shoalsAt_57 (lv_at hl 3 rfl) ?_
          refine lv_icmp_ne (tgt := 66) hx hb dX0_shoalsAt_59 (by decide) (fun c_7 => ?_) (fun c_7 => ?_)
          · have h := h.2 c_7
            exact b_X0_shoalsAt_66 hi C ih _ _ _ _ _ _ _ hP hS (lv_sub hl [0, 1, 2, 3, 4, 5] rfl) h
          · have h := h.1 c_7
            refine lv_iconst (v := (nI 1)) hx hb dX0_shoalsAt_62 (by decide) ?_
            refine lv_goto (tgt := 67) hx hb dX0_shoalsAt_63 (by decide) ?_
            exact b_X0_shoalsAt_67 hi C ih _ _ _ _ _ _ _ _ hP hS (lv_sub hl [0, 1, 2, 3, 4, 5] rfl) h
def q_X0_shoalsAt (S : St) (a2 : Int32) (a3 : Int32) (a4 : Int32) (k : Int32 → Prop) : Prop := q_X4_kiteX S a2 a3 a4 (fun r_1 => (q_X4_kiteY S a2 a3 (fun r_2 => (∃ f_23, q_X0_shoalsAt_23 a2 a3 a4 S k f_23 r_1 r_2 (nI 0) (nI 0)))))
set_option maxRecDepth 100000 in
set_option maxHeartbeats 4000000 in
theorem c_X0_shoalsAt {l : Launch} {Z : ZT} (hi : injZ 68 Z) (S : St) (a2 : Int32) (a3 : Int32) (a4 : Int32) (k : Int32 → Prop) (h : q_X0_shoalsAt S a2 a3 a4 k) : Mi l shX 68 Z (gX Z) yX0_shoalsAt cX0_shoalsAt 9 (Option.some .int) (rmk 2 46) [.ref (Z.2.2.1 4), .int a2, .int a3, .int a4] S (fun r S' => S' = S ∧ k r) := by
  have g := gokX hi
  refine e_i (by decide) (Nat.le_of_ble_eq_true rfl) (lv := [(0, .ref (Z.2.2.1 4)), (1, .int a2), (2, .int a3), (3, .int a4)]) rfl (fun p e s m args below meth c C hP hS ls hl => ?_)
  have hx := C.1.1
  have hb := C.1.2.1
  unfold q_X0_shoalsAt at h
  refine lv_aload_n hx hb dX0_shoalsAt_0 rfl (lv_at hl 0 rfl) ?_
  refine lv_iload_n hx hb dX0_shoalsAt_1 rfl (lv_at hl 1 rfl) ?_
  refine lv_iload_n hx hb dX0_shoalsAt_2 rfl (lv_at hl 2 rfl) ?_
  refine lv_iload_n hx hb dX0_shoalsAt_3 rfl (lv_at hl 3 rfl) ?_
  refine go_ip (run_V g C hP hS (c0 := 4) (As := [.int a2, .int a3, .int a4]) (rest := []) (c_X4_kiteX hi S a2 a3 a4 _ h) cal_X4_kiteX kML_X0_41 (by decide) rfl cfX4 ⟨rfl, rfl, Nat.le_of_ble_eq_true rfl, Nat.le_of_ble_eq_true rfl⟩ rfl rfl hl.1 (Nat.le_of_ble_eq_true rfl) dX0_shoalsAt_4) hS (fun r_1 H locs h hP hS => ?_)
  refine lv_istore (lv' := [(4, .int r_1), (0, .ref (Z.2.2.1 4)), (1, .int a2), (2, .int a3), (3, .int a4)]) hx hb dX0_shoalsAt_7 hl (by decide) rfl (fun ls hl => ?_)
  refine lv_aload_n hx hb dX0_shoalsAt_9 rfl (lv_at hl 1 rfl) ?_
  refine lv_iload_n hx hb dX0_shoalsAt_10 rfl (lv_at hl 2 rfl) ?_
  refine lv_iload_n hx hb dX0_shoalsAt_11 rfl (lv_at hl 3 rfl) ?_
  refine go_ip (run_V g C hP hS (c0 := 4) (As := [.int a2, .int a3]) (rest := []) (c_X4_kiteY hi S a2 a3 _ h) cal_X4_kiteY kML_X0_45 (by decide) rfl cfX4 ⟨rfl, rfl, Nat.le_of_ble_eq_true rfl, Nat.le_of_ble_eq_true rfl⟩ rfl rfl hl.1 (Nat.le_of_ble_eq_true rfl) dX0_shoalsAt_12) hS (fun r_2 H locs h hP hS => ?_)
  refine lv_istore (lv' := [(5, .int r_2), (4, .int r_1), (0, .ref (Z.2.2.1 4)), (1, .int a2), (2, .int a3), (3, .int a4)]) hx hb dX0_shoalsAt_15 hl (by decide) rfl (fun ls hl => ?_)
  refine lv_iconst (v := (nI 0)) hx hb dX0_shoalsAt_17 (by decide) ?_
  refine lv_istore (lv' := [(6, .int (nI 0)), (5, .int r_2), (4, .int r_1), (0, .ref (Z.2.2.1 4)), (1, .int a2), (2, .int a3), (3, .int a4)]) hx hb dX0_shoalsAt_18 hl (by decide) rfl (fun ls hl => ?_)
  refine lv_iconst (v := (nI 0)) hx hb dX0_shoalsAt_20 (by decide) ?_
  refine lv_istore (lv' := [(7, .int (nI 0)), (6, .int (nI 0)), (5, .int r_2), (4, .int r_1), (0, .ref (Z.2.2.1 4)), (1, .int a2), (2, .int a3), (3, .int a4)]) hx hb dX0_shoalsAt_21 hl (by decide) rfl (fun ls hl => ?_)
  obtain ⟨f_23, h⟩ := h
  exact b_X0_shoalsAt_23 hi C  f_23 _ _ _ _ _ _ _ hP hS (lv_sub hl [4, 7, 3, 2, 1, 0] rfl) h
def q_X0_kitesAcross_37 (a2 : Int32) (a3 : Int32) (a4 : Int32) (S : St) (k : Int32 → Prop) (e_8 : Int32 → Int32 → Prop) (x5 : Int32) (t0 : Int32) (t1 : Int32) : Prop := ∀ x4_1 : Int32, x4_1 = (t1 ||| t0) → (∀ x5_2 : Int32, x5_2 = x5 + (nI 1) → (e_8 x4_1 x5_2))
set_option maxRecDepth 100000 in
set_option maxHeartbeats 4000000 in
theorem b_X0_kitesAcross_37 {p : Program} {l : Launch} {e : Env} {s : State} {m : MethodId} {args : Array Value} {below : List Frame} {meth : Method} {c : Code} {Z : ZT} (hi : injZ 68 Z) (C : Cxt (gX Z) p s m meth c args yX0_kitesAcross cX0_kitesAcross 6 (Option.some .int)) {a2 : Int32} {a3 : Int32} {a4 : Int32} {S : St} {k : Int32 → Prop} {e_8 : Int32 → Int32 → Prop}  (he_8 : ∀ (x4 : Int32) (x5 : Int32) (H : Heap) (locs : List Loc) (ls : Array Slot), va_P Z.1 vwCl (wl shX 68 Z S) H → va_S (aa 68 Z) s.heap H locs → lv_has ls 6 [(0, .ref (Z.2.2.1 4)), (1, .int a2), (2, .int a3), (3, .int a4), (4, .int x4), (5, .int x5)] → e_8 x4 x5 → W p l e (rmk 3 72) s m args below meth c H locs 0 0 (Qi below shX 68 Z args s (fun r S' => S' = S ∧ k r)) (F0 m 8 ls [])) (x5 : Int32) (t0 : Int32) (t1 : Int32) (H : Heap) (locs : List Loc) (ls : Array Slot) (hP : va_P Z.1 vwCl (wl shX 68 Z S) H) (hS : va_S (aa 68 Z) s.heap H locs) (hl : lv_has ls 6 [(0, .ref (Z.2.2.1 4)), (1, .int a2), (2, .int a3), (3, .int a4), (5, .int x5)]) (h : q_X0_kitesAcross_37 a2 a3 a4 S k e_8 x5 t0 t1) : W p l e (rmk 3 72) s m args below meth c H locs 0 0 (Qi below shX 68 Z args s (fun r S' => S' = S ∧ k r)) (F0 m 37 ls [.int t0, .int t1]) := by
  have g := gokX hi
  have hx := C.1.1
  have hb := C.1.2.1
  unfold q_X0_kitesAcross_37 at h
  refine lv_ior hx hb dX0_kitesAcross_37 ?_
  refine lv_topi (fun x4_1 ex4_1 => ?_)
  have h := h x4_1 ex4_1
  refine lv_istore (lv' := [(4, .int x4_1), (0, .ref (Z.2.2.1 4)), (1, .int a2), (2, .int a3), (3, .int a4), (5, .int x5)]) hx hb dX0_kitesAcross_38 hl (by decide) rfl (fun ls hl => ?_)
  obtain ⟨x5_2, ex5_2⟩ : ∃ y_ : Int32, y_ = x5 + (nI 1) := ⟨_, rfl⟩
  have h := h x5_2 ex5_2
  refine lv_iinc (v := x5_2) (lv' := [(5, .int x5_2), (4, .int x4_1), (0, .ref (Z.2.2.1 4)), (1, .int a2), (2, .int a3), (3, .int a4)]) hx hb dX0_kitesAcross_40 hl (k := 5) rfl (by rw [ex5_2]; rfl) (by decide) rfl (fun ls hl => ?_)
  refine lv_goto (tgt := 8) hx hb dX0_kitesAcross_43 (by decide) ?_
  exact he_8 _ _ _ _ _ hP hS (lv_sub hl [2, 3, 4, 5, 1, 0] rfl) h
def q_X0_kitesAcross_8 (a2 : Int32) (a3 : Int32) (a4 : Int32) (S : St) (k : Int32 → Prop) : Nat → Int32 → Int32 → Prop := fun n_ => Nat.rec (motive := fun _ => Int32 → Int32 → Prop) (fun _ _ => False) (fun _ ih => fun x4 x5 => ((nI 6) ≤ x5 → (k x4)) ∧ (¬ (nI 6) ≤ x5 → (q_X4_wouldCross S a2 x5 a3 a4 (fun r_2 => ((r_2 = (nI 0) → (q_X0_kitesAcross_37 a2 a3 a4 S k ih x5 (nI 0) x4)) ∧ (¬ r_2 = (nI 0) → (q_X0_kitesAcross_37 a2 a3 a4 S k ih x5 ((nI 1) <<< (x5 &&& 31)) x4))))))) n_
theorem q_X0_kitesAcross_8_s (a2 : Int32) (a3 : Int32) (a4 : Int32) (S : St) (k : Int32 → Prop) (n_ : Nat) (x4 : Int32) (x5 : Int32) : q_X0_kitesAcross_8 a2 a3 a4 S k (n_ + 1) x4 x5 = (((nI 6) ≤ x5 → (k x4)) ∧ (¬ (nI 6) ≤ x5 → (q_X4_wouldCross S a2 x5 a3 a4 (fun r_2 => ((r_2 = (nI 0) → (q_X0_kitesAcross_37 a2 a3 a4 S k (q_X0_kitesAcross_8 a2 a3 a4 S k n_) x5 (nI 0) x4)) ∧ (¬ r_2 = (nI 0) → (q_X0_kitesAcross_37 a2 a3 a4 S k (q_X0_kitesAcross_8 a2 a3 a4 S k n_) x5 ((nI 1) <<< (x5 &&& 31)) x4))))))) := rfl
set_option maxRecDepth 100000 in
set_option maxHeartbeats 4000000 in
theorem b_X0_kitesAcross_8 {p : Program} {l : Launch} {e : Env} {s : State} {m : MethodId} {args : Array Value} {below : List Frame} {meth : Method} {c : Code} {Z : ZT} (hi : injZ 68 Z) (C : Cxt (gX Z) p s m meth c args yX0_kitesAcross cX0_kitesAcross 6 (Option.some .int)) {a2 : Int32} {a3 : Int32} {a4 : Int32} {S : St} {k : Int32 → Prop}   : ∀ (n_ : Nat) (x4 : Int32) (x5 : Int32) (H : Heap) (locs : List Loc) (ls : Array Slot), va_P Z.1 vwCl (wl shX 68 Z S) H → va_S (aa 68 Z) s.heap H locs → lv_has ls 6 [(0, .ref (Z.2.2.1 4)), (1, .int a2), (2, .int a3), (3, .int a4), (4, .int x4), (5, .int x5)] → q_X0_kitesAcross_8 a2 a3 a4 S k n_ x4 x5 → W p l e (rmk 3 72) s m args below meth c H locs 0 0 (Qi below shX 68 Z args s (fun r S' => S' = S ∧ k r)) (F0 m 8 ls []) := by
  have g := gokX hi
  have hx := C.1.1
  have hb := C.1.2.1
  intro n_
  induction n_ with
  | zero => intro x4 x5 H locs ls hP hS hl h; exact h.elim
  | succ n_ ih =>
    intro x4 x5 H locs ls hP hS hl h
    rw [q_X0_kitesAcross_8_s] at h
    refine lv_iload hx hb dX0_kitesAcross_8 (lv_at hl 5 rfl) ?_
    refine lv_bipush (v := (nI 6)) hx hb dX0_kitesAcross_10 (by decide) ?_
    refine lv_icmp_ge (tgt := 46) hx hb dX0_kitesAcross_12 (by decide) (fun c_1 => ?_) (fun c_1 => ?_)
    · have h := h.1 c_1
      refine lv_iload hx hb dX0_kitesAcross_46 (lv_at hl 4 rfl) ?_
      exact s_ri C hP hS ⟨rfl, h⟩ dX0_kitesAcross_48
    · have h := h.2 c_1
      refine lv_iload hx hb dX0_kitesAcross_15 (lv_at hl 4 rfl) ?_
      refine lv_aload_n hx hb dX0_kitesAcross_17 rfl (lv_at hl 0 rfl) ?_
      refine lv_iload_n hx hb dX0_kitesAcross_18 rfl (lv_at hl 1 rfl) ?_
      refine lv_iload hx hb dX0_kitesAcross_19 (lv_at hl 5 rfl) ?_
      refine lv_iload_n hx hb dX0_kitesAcross_21 rfl (lv_at hl 2 rfl) ?_
      refine lv_iload_n hx hb dX0_kitesAcross_22 rfl (lv_at hl 3 rfl) ?_
      refine go_ip (run_V g C hP hS (c0 := 4) (As := [.int a2, .int x5, .int a3, .int a4]) (rest := [.int x4]) (c_X4_wouldCross hi S a2 x5 a3 a4 _ h) cal_X4_wouldCross kML_X0_59 (by decide) rfl cfX4 ⟨rfl, rfl, Nat.le_of_ble_eq_true rfl, Nat.le_of_ble_eq_true rfl⟩ rfl rfl hl.1 (Nat.le_of_ble_eq_true rfl) dX0_kitesAcross_23) hS (fun r_2 H locs h hP hS => ?_)
      obtain ⟨hbr_2, h⟩ := h
      refine lv_if_eq (tgt := 36) hx hb dX0_kitesAcross_26 (by decide) (fun c_3 => ?_) (fun c_3 => ?_)
      · have h := h.1 c_3
        refine lv_iconst (v := (nI 0)) hx hb dX0_kitesAcross_36 (by decide) ?_
        exact b_X0_kitesAcross_37 hi C ih _ _ _ _ _ _ hP hS (lv_sub hl [0, 1, 2, 3, 5] rfl) h
      · have h := h.2 c_3
        refine lv_iconst (v := (nI 1)) hx hb dX0_kitesAcross_29 (by decide) ?_
        refine lv_iload hx hb dX0_kitesAcross_30 (lv_at hl 5 rfl) ?_
        refine lv_ishl hx hb dX0_kitesAcross_32 ?_
        refine lv_goto (tgt := 37) hx hb dX0_kitesAcross_33 (by decide) ?_
        exact b_X0_kitesAcross_37 hi C ih _ _ _ _ _ _ hP hS (lv_sub hl [0, 1, 2, 3, 5] rfl) h
def q_X0_kitesAcross (S : St) (a2 : Int32) (a3 : Int32) (a4 : Int32) (k : Int32 → Prop) : Prop := ∀ x5_1 : Int32, x5_1 = (a2 + (nI 1)) → (∃ f_8, q_X0_kitesAcross_8 a2 a3 a4 S k f_8 (nI 0) x5_1)
set_option maxRecDepth 100000 in
set_option maxHeartbeats 4000000 in
theorem c_X0_kitesAcross {l : Launch} {Z : ZT} (hi : injZ 68 Z) (S : St) (a2 : Int32) (a3 : Int32) (a4 : Int32) (k : Int32 → Prop) (h : q_X0_kitesAcross S a2 a3 a4 k) : Mi l shX 68 Z (gX Z) yX0_kitesAcross cX0_kitesAcross 6 (Option.some .int) (rmk 3 72) [.ref (Z.2.2.1 4), .int a2, .int a3, .int a4] S (fun r S' => S' = S ∧ k r) := by
  have g := gokX hi
  refine e_i (by decide) (Nat.le_of_ble_eq_true rfl) (lv := [(0, .ref (Z.2.2.1 4)), (1, .int a2), (2, .int a3), (3, .int a4)]) rfl (fun p e s m args below meth c C hP hS ls hl => ?_)
  have hx := C.1.1
  have hb := C.1.2.1
  unfold q_X0_kitesAcross at h
  refine lv_iconst (v := (nI 0)) hx hb dX0_kitesAcross_0 (by decide) ?_
  refine lv_istore (lv' := [(4, .int (nI 0)), (0, .ref (Z.2.2.1 4)), (1, .int a2), (2, .int a3), (3, .int a4)]) hx hb dX0_kitesAcross_1 hl (by decide) rfl (fun ls hl => ?_)
  refine lv_iload_n hx hb dX0_kitesAcross_3 rfl (lv_at hl 2 rfl) ?_
  refine lv_iconst (v := (nI 1)) hx hb dX0_kitesAcross_4 (by decide) ?_
  refine lv_iadd hx hb dX0_kitesAcross_5 ?_
  refine lv_topi (fun x5_1 ex5_1 => ?_)
  have h := h x5_1 ex5_1
  refine lv_istore (lv' := [(5, .int x5_1), (4, .int (nI 0)), (0, .ref (Z.2.2.1 4)), (1, .int a2), (2, .int a3), (3, .int a4)]) hx hb dX0_kitesAcross_6 hl (by decide) rfl (fun ls hl => ?_)
  obtain ⟨f_8, h⟩ := h
  exact b_X0_kitesAcross_8 hi C  f_8 _ _ _ _ _ hP hS (lv_sub hl [2, 3, 4, 5, 1, 0] rfl) h
def q_X0_drawKite_126 (a2 : Int32) (a3 : Int32) (k : St → Prop) (e_13 : St → Int32 → Int32 → Int32 → Prop) (S : St) (x4 : Int32) (x5 : Int32) (x6 : Int32) (t0 : Int32) (t1 : Int32) : Prop := vp_in t1 288 ∧ (∀ S_2 : St, S_2 = sI S 22 t1.toNatClampNeg t0 → (∀ x6_3 : Int32, x6_3 = x6 + (nI 1) → (e_13 S_2 x4 x5 x6_3)))
set_option maxRecDepth 100000 in
set_option maxHeartbeats 4000000 in
theorem b_X0_drawKite_126 {p : Program} {l : Launch} {e : Env} {s : State} {m : MethodId} {args : Array Value} {below : List Frame} {meth : Method} {c : Code} {Z : ZT} (hi : injZ 68 Z) (C : Cxt (gX Z) p s m meth c args yX0_drawKite cX0_drawKite 8 none) {a2 : Int32} {a3 : Int32} {k : St → Prop} {e_13 : St → Int32 → Int32 → Int32 → Prop}  (he_13 : ∀ (S : St) (x4 : Int32) (x5 : Int32) (x6 : Int32) (H : Heap) (locs : List Loc) (ls : Array Slot), va_P Z.1 vwCl (wl shX 68 Z S) H → va_S (aa 68 Z) s.heap H locs → lv_has ls 8 [(0, .ref (Z.2.2.1 19)), (1, .ref (Z.2.2.1 4)), (2, .int a2), (3, .int a3), (4, .int x4), (5, .int x5), (6, .int x6)] → e_13 S x4 x5 x6 → W p l e (rmk 4 97) s m args below meth c H locs 0 0 (Qv below shX 68 Z args s k) (F0 m 13 ls [])) (S : St) (x4 : Int32) (x5 : Int32) (x6 : Int32) (t0 : Int32) (t1 : Int32) (H : Heap) (locs : List Loc) (ls : Array Slot) (hP : va_P Z.1 vwCl (wl shX 68 Z S) H) (hS : va_S (aa 68 Z) s.heap H locs) (hl : lv_has ls 8 [(0, .ref (Z.2.2.1 19)), (1, .ref (Z.2.2.1 4)), (2, .int a2), (3, .int a3), (4, .int x4), (5, .int x5), (6, .int x6)]) (h : q_X0_drawKite_126 a2 a3 k e_13 S x4 x5 x6 t0 t1) : W p l e (rmk 4 97) s m args below meth c H locs 0 0 (Qv below shX 68 Z args s k) (F0 m 126 ls [.int t0, .int t1, .ref (Z.2.2.1 22)]) := by
  have g := gokX hi
  have hx := C.1.1
  have hb := C.1.2.1
  unfold q_X0_drawKite_126 at h
  have hv_1 := h.1
  have h := h.2
  refine s_stI g C hP hS 22 (by decide) rfl hv_1 dX0_drawKite_126 (fun H locs hP hS => ?_)
  obtain ⟨S_2, eS_2⟩ : ∃ z_ : St, z_ = sI S 22 t1.toNatClampNeg t0 := ⟨_, rfl⟩
  rw [← eS_2] at hP
  have h := h S_2 eS_2
  obtain ⟨x6_3, ex6_3⟩ : ∃ y_ : Int32, y_ = x6 + (nI 1) := ⟨_, rfl⟩
  have h := h x6_3 ex6_3
  refine lv_iinc (v := x6_3) (lv' := [(6, .int x6_3), (0, .ref (Z.2.2.1 19)), (1, .ref (Z.2.2.1 4)), (2, .int a2), (3, .int a3), (4, .int x4), (5, .int x5)]) hx hb dX0_drawKite_127 hl (k := 6) rfl (by rw [ex6_3]; rfl) (by decide) rfl (fun ls hl => ?_)
  refine lv_goto (tgt := 13) hx hb dX0_drawKite_130 (by decide) ?_
  exact he_13 _ _ _ _ _ _ _ hP hS (lv_sub hl [1, 2, 3, 4, 5, 6, 0] rfl) h
def q_X0_drawKite_96 (a2 : Int32) (a3 : Int32) (k : St → Prop) (e_13 : St → Int32 → Int32 → Int32 → Prop) (S : St) (x4 : Int32) (x5 : Int32) (x6 : Int32) (x7 : Int32) (t0 : Int32) (t1 : Int32) : Prop := vp_in t1 288 ∧ (∀ S_2 : St, S_2 = sI S 21 t1.toNatClampNeg t0 → ((x7 = (nI 0) → (q_X0_drawKite_126 a2 a3 k e_13 S_2 x4 x5 x6 (nI 0) ((x4 * (nI 12)) + x6))) ∧ (¬ x7 = (nI 0) → (q_X0_kitesAcross S_2 a2 a3 x6 (fun r_4 => (q_X0_drawKite_126 a2 a3 k e_13 S_2 x4 x5 x6 r_4 ((x4 * (nI 12)) + x6)))))))
set_option maxRecDepth 100000 in
set_option maxHeartbeats 4000000 in
theorem b_X0_drawKite_96 {p : Program} {l : Launch} {e : Env} {s : State} {m : MethodId} {args : Array Value} {below : List Frame} {meth : Method} {c : Code} {Z : ZT} (hi : injZ 68 Z) (C : Cxt (gX Z) p s m meth c args yX0_drawKite cX0_drawKite 8 none) {a2 : Int32} {a3 : Int32} {k : St → Prop} {e_13 : St → Int32 → Int32 → Int32 → Prop}  (he_13 : ∀ (S : St) (x4 : Int32) (x5 : Int32) (x6 : Int32) (H : Heap) (locs : List Loc) (ls : Array Slot), va_P Z.1 vwCl (wl shX 68 Z S) H → va_S (aa 68 Z) s.heap H locs → lv_has ls 8 [(0, .ref (Z.2.2.1 19)), (1, .ref (Z.2.2.1 4)), (2, .int a2), (3, .int a3), (4, .int x4), (5, .int x5), (6, .int x6)] → e_13 S x4 x5 x6 → W p l e (rmk 4 97) s m args below meth c H locs 0 0 (Qv below shX 68 Z args s k) (F0 m 13 ls [])) (S : St) (x4 : Int32) (x5 : Int32) (x6 : Int32) (x7 : Int32) (t0 : Int32) (t1 : Int32) (H : Heap) (locs : List Loc) (ls : Array Slot) (hP : va_P Z.1 vwCl (wl shX 68 Z S) H) (hS : va_S (aa 68 Z) s.heap H locs) (hl : lv_has ls 8 [(0, .ref (Z.2.2.1 19)), (1, .ref (Z.2.2.1 4)), (2, .int a2), (3, .int a3), (4, .int x4), (5, .int x5), (6, .int x6), (7, .int x7)]) (h : q_X0_drawKite_96 a2 a3 k e_13 S x4 x5 x6 x7 t0 t1) : W p l e (rmk 4 97) s m args below meth c H locs 0 0 (Qv below shX 68 Z args s k) (F0 m 96 ls [.int t0, .int t1, .ref (Z.2.2.1 21)]) := by
  have g := gokX hi
  have hx := C.1.1
  have hb := C.1.2.1
  unfold q_X0_drawKite_96 at h
  have hv_1 := h.1
  have h := h.2
  refine s_stI g C hP hS 21 (by decide) rfl hv_1 dX0_drawKite_96 (fun H locs hP hS => ?_)
  obtain ⟨S_2, eS_2⟩ : ∃ z_ : St, z_ = sI S 21 t1.toNatClampNeg t0 := ⟨_, rfl⟩
  rw [← eS_2] at hP
  have h := h S_2 eS_2
  refine lv_aload_n hx hb dX0_drawKite_97 rfl (lv_at hl 0 rfl) ?_
  refine s_gR g C hP 19 2 22 (by decide) rfl rfl cfX0 (by decide) kFL_X0_18 dX0_drawKite_98 ?_
  refine lv_iload hx hb dX0_drawKite_101 (lv_at hl 4 rfl) ?_
  refine lv_bipush (v := (nI 12)) hx hb dX0_drawKite_103 (by decide) ?_
  refine lv_imul hx hb dX0_drawKite_105 ?_
  refine lv_iload hx hb dX0_drawKite_106 (lv_at hl 6 rfl) ?_
  refine lv_iadd hx hb dX0_drawKite_108 ?_
  refine lv_iload hx hb dX0_drawKite_109 (lv_at hl 7 rfl) ?_
  refine lv_if_eq (tgt := 125) hx hb dX0_drawKite_111 (by decide) (fun c_3 => ?_) (fun c_3 => ?_)
  · have h := h.1 c_3
    refine lv_iconst (v := (nI 0)) hx hb dX0_drawKite_125 (by decide) ?_
    exact b_X0_drawKite_126 hi C he_13 _ _ _ _ _ _ _ _ _ hP hS (lv_sub hl [0, 1, 2, 3, 4, 5, 6] rfl) h
  · have h := h.2 c_3
    refine lv_aload_n hx hb dX0_drawKite_114 rfl (lv_at hl 1 rfl) ?_
    refine lv_iload_n hx hb dX0_drawKite_115 rfl (lv_at hl 2 rfl) ?_
    refine lv_iload_n hx hb dX0_drawKite_116 rfl (lv_at hl 3 rfl) ?_
    refine lv_iload hx hb dX0_drawKite_117 (lv_at hl 6 rfl) ?_
    refine go_ip (run_S g C hP hS (As := [.ref (Z.2.2.1 4), .int a2, .int a3, .int x6]) (rest := [.int ((x4 * (nI 12)) + x6), .ref (Z.2.2.1 22)]) (c_X0_kitesAcross hi S_2 a2 a3 x6 _ h) cal_X0_kitesAcross kML_X0_38 ⟨rfl, rfl, Nat.le_of_ble_eq_true rfl, Nat.le_of_ble_eq_true rfl⟩ rfl rfl hl.1 (Nat.le_of_ble_eq_true rfl) dX0_drawKite_119) hS (fun r_4 H locs h hP hS => ?_)
    refine lv_goto (tgt := 126) hx hb dX0_drawKite_122 (by decide) ?_
    exact b_X0_drawKite_126 hi C he_13 _ _ _ _ _ _ _ _ _ hP hS (lv_sub hl [0, 1, 2, 3, 4, 5, 6] rfl) h
def q_X0_drawKite_64 (a2 : Int32) (a3 : Int32) (k : St → Prop) (e_13 : St → Int32 → Int32 → Int32 → Prop) (S : St) (x4 : Int32) (x6 : Int32) (x7 : Int32) (t0 : Int32) (t1 : Int32) : Prop := ∀ x5_1 : Int32, x5_1 = (t1 ||| t0) → ((x7 = (nI 0) → (q_X0_drawKite_96 a2 a3 k e_13 S x4 x5_1 x6 x7 (nI 0) ((x4 * (nI 12)) + x6))) ∧ (¬ x7 = (nI 0) → (q_X0_shoalsAt S a2 a3 x6 (fun r_3 => (q_X0_drawKite_96 a2 a3 k e_13 S x4 x5_1 x6 x7 r_3 ((x4 * (nI 12)) + x6))))))
set_option maxRecDepth 100000 in
set_option maxHeartbeats 4000000 in
theorem b_X0_drawKite_64 {p : Program} {l : Launch} {e : Env} {s : State} {m : MethodId} {args : Array Value} {below : List Frame} {meth : Method} {c : Code} {Z : ZT} (hi : injZ 68 Z) (C : Cxt (gX Z) p s m meth c args yX0_drawKite cX0_drawKite 8 none) {a2 : Int32} {a3 : Int32} {k : St → Prop} {e_13 : St → Int32 → Int32 → Int32 → Prop}  (he_13 : ∀ (S : St) (x4 : Int32) (x5 : Int32) (x6 : Int32) (H : Heap) (locs : List Loc) (ls : Array Slot), va_P Z.1 vwCl (wl shX 68 Z S) H → va_S (aa 68 Z) s.heap H locs → lv_has ls 8 [(0, .ref (Z.2.2.1 19)), (1, .ref (Z.2.2.1 4)), (2, .int a2), (3, .int a3), (4, .int x4), (5, .int x5), (6, .int x6)] → e_13 S x4 x5 x6 → W p l e (rmk 4 97) s m args below meth c H locs 0 0 (Qv below shX 68 Z args s k) (F0 m 13 ls [])) (S : St) (x4 : Int32) (x6 : Int32) (x7 : Int32) (t0 : Int32) (t1 : Int32) (H : Heap) (locs : List Loc) (ls : Array Slot) (hP : va_P Z.1 vwCl (wl shX 68 Z S) H) (hS : va_S (aa 68 Z) s.heap H locs) (hl : lv_has ls 8 [(0, .ref (Z.2.2.1 19)), (1, .ref (Z.2.2.1 4)), (2, .int a2), (3, .int a3), (4, .int x4), (6, .int x6), (7, .int x7)]) (h : q_X0_drawKite_64 a2 a3 k e_13 S x4 x6 x7 t0 t1) : W p l e (rmk 4 97) s m args below meth c H locs 0 0 (Qv below shX 68 Z args s k) (F0 m 64 ls [.int t0, .int t1]) := by
  have g := gokX hi
  have hx := C.1.1
  have hb := C.1.2.1
  unfold q_X0_drawKite_64 at h
  refine lv_ior hx hb dX0_drawKite_64 ?_
  refine lv_topi (fun x5_1 ex5_1 => ?_)
  have h := h x5_1 ex5_1
  refine lv_istore (lv' := [(5, .int x5_1), (0, .ref (Z.2.2.1 19)), (1, .ref (Z.2.2.1 4)), (2, .int a2), (3, .int a3), (4, .int x4), (6, .int x6), (7, .int x7)]) hx hb dX0_drawKite_65 hl (by decide) rfl (fun ls hl => ?_)
  refine lv_aload_n hx hb dX0_drawKite_67 rfl (lv_at hl 1 rfl) ?_
  refine s_gR g C hP 19 1 21 (by decide) rfl rfl cfX0 (by decide) kFL_X0_15 dX0_drawKite_68 ?_
  refine lv_iload hx hb dX0_drawKite_71 (lv_at hl 5 rfl) ?_
  refine lv_bipush (v := (nI 12)) hx hb dX0_drawKite_73 (by decide) ?_
  refine lv_imul hx hb dX0_drawKite_75 ?_
  refine lv_iload hx hb dX0_drawKite_76 (lv_at hl 6 rfl) ?_
  refine lv_iadd hx hb dX0_drawKite_78 ?_
  refine lv_iload hx hb dX0_drawKite_79 (lv_at hl 7 rfl) ?_
  refine lv_if_eq (tgt := 95) hx hb dX0_drawKite_81 (by decide) (fun c_2 => ?_) (fun c_2 => ?_)
  · have h := h.1 c_2
    refine lv_iconst (v := (nI 0)) hx hb dX0_drawKite_95 (by decide) ?_
    exact b_X0_drawKite_96 hi C he_13 _ _ _ _ _ _ _ _ _ _ hP hS (lv_sub hl [1, 2, 3, 4, 5, 0, 6, 7] rfl) h
  · have h := h.2 c_2
    refine lv_aload_n hx hb dX0_drawKite_84 rfl (lv_at hl 2 rfl) ?_
    refine lv_iload_n hx hb dX0_drawKite_85 rfl (lv_at hl 3 rfl) ?_
    refine lv_iload_n hx hb dX0_drawKite_86 rfl (lv_at hl 4 rfl) ?_
    refine lv_iload hx hb dX0_drawKite_87 (lv_at hl 6 rfl) ?_
    refine go_ip (run_S g C hP hS (As := [.ref (Z.2.2.1 4), .int a2, .int a3, .int x6]) (rest := [.int ((x4 * (nI 12)) + x6), .ref (Z.2.2.1 21)]) (c_X0_shoalsAt hi S a2 a3 x6 _ h) cal_X0_shoalsAt kML_X0_34 ⟨rfl, rfl, Nat.le_of_ble_eq_true rfl, Nat.le_of_ble_eq_true rfl⟩ rfl rfl hl.1 (Nat.le_of_ble_eq_true rfl) dX0_drawKite_89) hS (fun r_3 H locs h hP hS => ?_)
    refine lv_goto (tgt := 96) hx hb dX0_drawKite_92 (by decide) ?_
    exact b_X0_drawKite_96 hi C he_13 _ _ _ _ _ _ _ _ _ _ hP hS (lv_sub hl [1, 2, 3, 4, 5, 0, 6, 7] rfl) h
def q_X0_drawKite_47 (a2 : Int32) (a3 : Int32) (k : St → Prop) (e_13 : St → Int32 → Int32 → Int32 → Prop) (S : St) (x4 : Int32) (x5 : Int32) (x6 : Int32) (t0 : Int32) : Prop := (t0 = (nI 0) → (q_X0_drawKite_64 a2 a3 k e_13 S x4 x6 t0 (nI 0) x5)) ∧ (¬ t0 = (nI 0) → (q_X0_drawKite_64 a2 a3 k e_13 S x4 x6 t0 ((nI 1) <<< (x6 &&& 31)) x5))
set_option maxRecDepth 100000 in
set_option maxHeartbeats 4000000 in
theorem b_X0_drawKite_47 {p : Program} {l : Launch} {e : Env} {s : State} {m : MethodId} {args : Array Value} {below : List Frame} {meth : Method} {c : Code} {Z : ZT} (hi : injZ 68 Z) (C : Cxt (gX Z) p s m meth c args yX0_drawKite cX0_drawKite 8 none) {a2 : Int32} {a3 : Int32} {k : St → Prop} {e_13 : St → Int32 → Int32 → Int32 → Prop}  (he_13 : ∀ (S : St) (x4 : Int32) (x5 : Int32) (x6 : Int32) (H : Heap) (locs : List Loc) (ls : Array Slot), va_P Z.1 vwCl (wl shX 68 Z S) H → va_S (aa 68 Z) s.heap H locs → lv_has ls 8 [(0, .ref (Z.2.2.1 19)), (1, .ref (Z.2.2.1 4)), (2, .int a2), (3, .int a3), (4, .int x4), (5, .int x5), (6, .int x6)] → e_13 S x4 x5 x6 → W p l e (rmk 4 97) s m args below meth c H locs 0 0 (Qv below shX 68 Z args s k) (F0 m 13 ls [])) (S : St) (x4 : Int32) (x5 : Int32) (x6 : Int32) (t0 : Int32) (H : Heap) (locs : List Loc) (ls : Array Slot) (hP : va_P Z.1 vwCl (wl shX 68 Z S) H) (hS : va_S (aa 68 Z) s.heap H locs) (hl : lv_has ls 8 [(0, .ref (Z.2.2.1 19)), (1, .ref (Z.2.2.1 4)), (2, .int a2), (3, .int a3), (4, .int x4), (5, .int x5), (6, .int x6)]) (h : q_X0_drawKite_47 a2 a3 k e_13 S x4 x5 x6 t0) : W p l e (rmk 4 97) s m args below meth c H locs 0 0 (Qv below shX 68 Z args s k) (F0 m 47 ls [.int t0]) := by
  have g := gokX hi
  have hx := C.1.1
  have hb := C.1.2.1
  unfold q_X0_drawKite_47 at h
  refine lv_istore (lv' := [(7, .int t0), (0, .ref (Z.2.2.1 19)), (1, .ref (Z.2.2.1 4)), (2, .int a2), (3, .int a3), (4, .int x4), (5, .int x5), (6, .int x6)]) hx hb dX0_drawKite_47 hl (by decide) rfl (fun ls hl => ?_)
  refine lv_iload hx hb dX0_drawKite_49 (lv_at hl 6 rfl) ?_
  refine lv_iload hx hb dX0_drawKite_51 (lv_at hl 0 rfl) ?_
  refine lv_if_eq (tgt := 63) hx hb dX0_drawKite_53 (by decide) (fun c_1 => ?_) (fun c_1 => ?_)
  · have h := h.1 c_1
    refine lv_iconst (v := (nI 0)) hx hb dX0_drawKite_63 (by decide) ?_
    exact b_X0_drawKite_64 hi C he_13 _ _ _ _ _ _ _ _ _ hP hS (lv_sub hl [1, 2, 3, 4, 5, 7, 0] rfl) h
  · have h := h.2 c_1
    refine lv_iconst (v := (nI 1)) hx hb dX0_drawKite_56 (by decide) ?_
    refine lv_iload hx hb dX0_drawKite_57 (lv_at hl 7 rfl) ?_
    refine lv_ishl hx hb dX0_drawKite_59 ?_
    refine lv_goto (tgt := 64) hx hb dX0_drawKite_60 (by decide) ?_
    exact b_X0_drawKite_64 hi C he_13 _ _ _ _ _ _ _ _ _ hP hS (lv_sub hl [1, 2, 3, 4, 5, 7, 0] rfl) h
def q_X0_drawKite_46 (a2 : Int32) (a3 : Int32) (k : St → Prop) (e_13 : St → Int32 → Int32 → Int32 → Prop) (S : St) (x4 : Int32) (x5 : Int32) (x6 : Int32) : Prop := q_X0_drawKite_47 a2 a3 k e_13 S x4 x5 x6 (nI 0)
set_option maxRecDepth 100000 in
set_option maxHeartbeats 4000000 in
theorem b_X0_drawKite_46 {p : Program} {l : Launch} {e : Env} {s : State} {m : MethodId} {args : Array Value} {below : List Frame} {meth : Method} {c : Code} {Z : ZT} (hi : injZ 68 Z) (C : Cxt (gX Z) p s m meth c args yX0_drawKite cX0_drawKite 8 none) {a2 : Int32} {a3 : Int32} {k : St → Prop} {e_13 : St → Int32 → Int32 → Int32 → Prop}  (he_13 : ∀ (S : St) (x4 : Int32) (x5 : Int32) (x6 : Int32) (H : Heap) (locs : List Loc) (ls : Array Slot), va_P Z.1 vwCl (wl shX 68 Z S) H → va_S (aa 68 Z) s.heap H locs → lv_has ls 8 [(0, .ref (Z.2.2.1 19)), (1, .ref (Z.2.2.1 4)), (2, .int a2), (3, .int a3), (4, .int x4), (5, .int x5), (6, .int x6)] → e_13 S x4 x5 x6 → W p l e (rmk 4 97) s m args below meth c H locs 0 0 (Qv below shX 68 Z args s k) (F0 m 13 ls [])) (S : St) (x4 : Int32) (x5 : Int32) (x6 : Int32) (H : Heap) (locs : List Loc) (ls : Array Slot) (hP : va_P Z.1 vwCl (wl shX 68 Z S) H) (hS : va_S (aa 68 Z) s.heap H locs) (hl : lv_has ls 8 [(0, .ref (Z.2.2.1 19)), (1, .ref (Z.2.2.1 4)), (2, .int a2), (3, .int a3), (4, .int x4), (5, .int x5), (6, .int x6)]) (h : q_X0_drawKite_46 a2 a3 k e_13 S x4 x5 x6) : W p l e (rmk 4 97) s m args below meth c H locs 0 0 (Qv below shX 68 Z args s k) (F0 m 46 ls []) := by
  have g := gokX hi
  have hx := C.1.1
  have hb := C.1.2.1
  unfold q_X0_drawKite_46 at h
  refine lv_iconst (v := (nI 0)) hx hb dX0_drawKite_46 (by decide) ?_
  exact b_X0_drawKite_47 hi C he_13 _ _ _ _ _ _ _ _ hP hS (lv_sub hl [0, 1, 2, 3, 4, 5, 6] rfl) h
def q_X0_drawKite_13 (a2 : Int32) (a3 : Int32) (k : St → Prop) : Nat → St → Int32 → Int32 → Int32 → Prop := fun n_ => Nat.rec (motive := fun _ => St → Int32 → Int32 → Int32 → Prop) (fun _ _ _ _ => False) (fun _ ih => fun S x4 x5 x6 => ((nI 12) ≤ x6 → (vp_in x4 24 ∧ (∀ S_3 : St, S_3 = sI S 20 x4.toNatClampNeg x5 → (k S_3)))) ∧ (¬ (nI 12) ≤ x6 → (q_X4_isInSea S a2 a3 x6 (fun r_4 => ((r_4 = (nI 0) → (q_X0_drawKite_46 a2 a3 k ih S x4 x5 x6)) ∧ (¬ r_4 = (nI 0) → (q_X4_hasLift S a2 a3 x6 (fun r_6 => ((r_6 = (nI 0) → (q_X0_drawKite_46 a2 a3 k ih S x4 x5 x6)) ∧ (¬ r_6 = (nI 0) → (q_X0_drawKite_47 a2 a3 k ih S x4 x5 x6 (nI 1)))))))))))) n_
theorem q_X0_drawKite_13_s (a2 : Int32) (a3 : Int32) (k : St → Prop) (n_ : Nat) (S : St) (x4 : Int32) (x5 : Int32) (x6 : Int32) : q_X0_drawKite_13 a2 a3 k (n_ + 1) S x4 x5 x6 = (((nI 12) ≤ x6 → (vp_in x4 24 ∧ (∀ S_3 : St, S_3 = sI S 20 x4.toNatClampNeg x5 → (k S_3)))) ∧ (¬ (nI 12) ≤ x6 → (q_X4_isInSea S a2 a3 x6 (fun r_4 => ((r_4 = (nI 0) → (q_X0_drawKite_46 a2 a3 k (q_X0_drawKite_13 a2 a3 k n_) S x4 x5 x6)) ∧ (¬ r_4 = (nI 0) → (q_X4_hasLift S a2 a3 x6 (fun r_6 => ((r_6 = (nI 0) → (q_X0_drawKite_46 a2 a3 k (q_X0_drawKite_13 a2 a3 k n_) S x4 x5 x6)) ∧ (¬ r_6 = (nI 0) → (q_X0_drawKite_47 a2 a3 k (q_X0_drawKite_13 a2 a3 k n_) S x4 x5 x6 (nI 1)))))))))))) := rfl
set_option maxRecDepth 100000 in
set_option maxHeartbeats 4000000 in
theorem b_X0_drawKite_13 {p : Program} {l : Launch} {e : Env} {s : State} {m : MethodId} {args : Array Value} {below : List Frame} {meth : Method} {c : Code} {Z : ZT} (hi : injZ 68 Z) (C : Cxt (gX Z) p s m meth c args yX0_drawKite cX0_drawKite 8 none) {a2 : Int32} {a3 : Int32} {k : St → Prop}   : ∀ (n_ : Nat) (S : St) (x4 : Int32) (x5 : Int32) (x6 : Int32) (H : Heap) (locs : List Loc) (ls : Array Slot), va_P Z.1 vwCl (wl shX 68 Z S) H → va_S (aa 68 Z) s.heap H locs → lv_has ls 8 [(0, .ref (Z.2.2.1 19)), (1, .ref (Z.2.2.1 4)), (2, .int a2), (3, .int a3), (4, .int x4), (5, .int x5), (6, .int x6)] → q_X0_drawKite_13 a2 a3 k n_ S x4 x5 x6 → W p l e (rmk 4 97) s m args below meth c H locs 0 0 (Qv below shX 68 Z args s k) (F0 m 13 ls []) := by
  have g := gokX hi
  have hx := C.1.1
  have hb := C.1.2.1
  intro n_
  induction n_ with
  | zero => intro S x4 x5 x6 H locs ls hP hS hl h; exact h.elim
  | succ n_ ih =>
    intro S x4 x5 x6 H locs ls hP hS hl h
    rw [q_X0_drawKite_13_s] at h
    refine lv_iload hx hb dX0_drawKite_13 (lv_at hl 6 rfl) ?_
    refine lv_bipush (v := (nI 12)) hx hb dX0_drawKite_15 (by decide) ?_
    refine lv_icmp_ge (tgt := 133) hx hb dX0_drawKite_17 (by decide) (fun c_1 => ?_) (fun c_1 => ?_)
    · have h := h.1 c_1
      refine lv_aload_n hx hb dX0_drawKite_133 rfl (lv_at hl 0 rfl) ?_
      refine s_gR g C hP 19 0 20 (by decide) rfl rfl cfX0 (by decide) kFL_X0_9 dX0_drawKite_134 ?_
      refine lv_iload hx hb dX0_drawKite_137 (lv_at hl 4 rfl) ?_
      refine lv_iload hx hb dX0_drawKite_139 (lv_at hl 5 rfl) ?_
      have hv_2 := h.1
      have h := h.2
      refine s_stI g C hP hS 20 (by decide) rfl hv_2 dX0_drawKite_141 (fun H locs hP hS => ?_)
      obtain ⟨S_3, eS_3⟩ : ∃ z_ : St, z_ = sI S 20 x4.toNatClampNeg x5 := ⟨_, rfl⟩
      rw [← eS_3] at hP
      have h := h S_3 eS_3
      exact s_rv C hP hS h dX0_drawKite_142
    · have h := h.2 c_1
      refine lv_aload_n hx hb dX0_drawKite_20 rfl (lv_at hl 1 rfl) ?_
      refine lv_iload_n hx hb dX0_drawKite_21 rfl (lv_at hl 2 rfl) ?_
      refine lv_iload_n hx hb dX0_drawKite_22 rfl (lv_at hl 3 rfl) ?_
      refine lv_iload hx hb dX0_drawKite_23 (lv_at hl 6 rfl) ?_
      refine go_ip (run_V g C hP hS (c0 := 4) (As := [.int a2, .int a3, .int x6]) (rest := []) (c_X4_isInSea hi S a2 a3 x6 _ h) cal_X4_isInSea kML_X0_25 (by decide) rfl cfX4 ⟨rfl, rfl, Nat.le_of_ble_eq_true rfl, Nat.le_of_ble_eq_true rfl⟩ rfl rfl hl.1 (Nat.le_of_ble_eq_true rfl) dX0_drawKite_25) hS (fun r_4 H locs h hP hS => ?_)
      obtain ⟨hbr_4, h⟩ := h
      refine lv_if_eq (tgt := 46) hx hb dX0_drawKite_28 (by decide) (fun c_5 => ?_) (fun c_5 => ?_)
      · have h := h.1 c_5
        exact b_X0_drawKite_46 hi C ih _ _ _ _ _ _ _ hP hS (lv_sub hl [0, 1, 2, 3, 4, 5, 6] rfl) h
      · have h := h.2 c_5
        refine lv_aload_n hx hb dX0_drawKite_31 rfl (lv_at hl 1 rfl) ?_
        refine lv_iload_n hx hb dX0_drawKite_32 rfl (lv_at hl 2 rfl) ?_
        refine lv_iload_n hx hb dX0_drawKite_33 rfl (lv_at hl 3 rfl) ?_
        refine lv_iload hx hb dX0_drawKite_34 (lv_at hl 6 rfl) ?_
        refine go_ip (run_V g C hP hS (c0 := 4) (As := [.int a2, .int a3, .int x6]) (rest := []) (c_X4_hasLift hi S a2 a3 x6 _ h) cal_X4_hasLift kML_X0_31 (by decide) rfl cfX4 ⟨rfl, rfl, Nat.le_of_ble_eq_true rfl, Nat.le_of_ble_eq_true rfl⟩ rfl rfl hl.1 (Nat.le_of_ble_eq_true rfl) dX0_drawKite_36) hS (fun r_6 H locs h hP hS => ?_)
        obtain ⟨hbr_6, h⟩ := h
        refine lv_if_eq (tgt := 46) hx hb dX0_drawKite_39 (by decide) (fun c_7 => ?_) (fun c_7 => ?_)
        · have h := h.1 c_7
          exact b_X0_drawKite_46 hi C ih _ _ _ _ _ _ _ hP hS (lv_sub hl [0, 1, 2, 3, 4, 5, 6] rfl) h
        · have h := h.2 c_7
          refine lv_iconst (v := (nI 1)) hx hb dX0_drawKite_42 (by decide) ?_
          refine lv_goto (tgt := 47) hx hb dX0_drawKite_43 (by decide) ?_
          exact b_X0_drawKite_47 hi C ih _ _ _ _ _ _ _ _ hP hS (lv_sub hl [0, 1, 2, 3, 4, 5, 6] rfl) h
def q_X0_drawKite (S : St) (a2 : Int32) (a3 : Int32) (k : St → Prop) : Prop := ∀ x4_1 : Int32, x4_1 = ((a2 * (nI 4)) + a3) → (∃ f_13, q_X0_drawKite_13 a2 a3 k f_13 S x4_1 (nI 0) (nI 0))
set_option maxRecDepth 100000 in
set_option maxHeartbeats 4000000 in
theorem c_X0_drawKite {l : Launch} {Z : ZT} (hi : injZ 68 Z) (S : St) (a2 : Int32) (a3 : Int32) (k : St → Prop) (h : q_X0_drawKite S a2 a3 k) : Mv l shX 68 Z (gX Z) yX0_drawKite cX0_drawKite 8 none (rmk 4 97) [.ref (Z.2.2.1 19), .ref (Z.2.2.1 4), .int a2, .int a3] S k := by
  have g := gokX hi
  refine e_v (by decide) (Nat.le_of_ble_eq_true rfl) (lv := [(0, .ref (Z.2.2.1 19)), (1, .ref (Z.2.2.1 4)), (2, .int a2), (3, .int a3)]) rfl (fun p e s m args below meth c C hP hS ls hl => ?_)
  have hx := C.1.1
  have hb := C.1.2.1
  unfold q_X0_drawKite at h
  refine lv_iload_n hx hb dX0_drawKite_0 rfl (lv_at hl 2 rfl) ?_
  refine lv_iconst (v := (nI 4)) hx hb dX0_drawKite_1 (by decide) ?_
  refine lv_imul hx hb dX0_drawKite_2 ?_
  refine lv_iload_n hx hb dX0_drawKite_3 rfl (lv_at hl 3 rfl) ?_
  refine lv_iadd hx hb dX0_drawKite_4 ?_
  refine lv_topi (fun x4_1 ex4_1 => ?_)
  have h := h x4_1 ex4_1
  refine lv_istore (lv' := [(4, .int x4_1), (0, .ref (Z.2.2.1 19)), (1, .ref (Z.2.2.1 4)), (2, .int a2), (3, .int a3)]) hx hb dX0_drawKite_5 hl (by decide) rfl (fun ls hl => ?_)
  refine lv_iconst (v := (nI 0)) hx hb dX0_drawKite_7 (by decide) ?_
  refine lv_istore (lv' := [(5, .int (nI 0)), (4, .int x4_1), (0, .ref (Z.2.2.1 19)), (1, .ref (Z.2.2.1 4)), (2, .int a2), (3, .int a3)]) hx hb dX0_drawKite_8 hl (by decide) rfl (fun ls hl => ?_)
  refine lv_iconst (v := (nI 0)) hx hb dX0_drawKite_10 (by decide) ?_
  refine lv_istore (lv' := [(6, .int (nI 0)), (5, .int (nI 0)), (4, .int x4_1), (0, .ref (Z.2.2.1 19)), (1, .ref (Z.2.2.1 4)), (2, .int a2), (3, .int a3)]) hx hb dX0_drawKite_11 hl (by decide) rfl (fun ls hl => ?_)
  obtain ⟨f_13, h⟩ := h
  exact b_X0_drawKite_13 hi C  f_13 _ _ _ _ _ _ _ hP hS (lv_sub hl [3, 4, 5, 6, 2, 1, 0] rfl) h
def q_X0_draw_10 (k : St → Prop) (e_2 : St → Int32 → Prop) : Nat → St → Int32 → Int32 → Prop := fun n_ => Nat.rec (motive := fun _ => St → Int32 → Int32 → Prop) (fun _ _ _ => False) (fun _ ih => fun S x2 x3 => ((nI 4) ≤ x3 → (∀ x2_2 : Int32, x2_2 = x2 + (nI 1) → (e_2 S x2_2))) ∧ (¬ (nI 4) ≤ x3 → (q_X0_drawKite S x2 x3 (fun S_3 => (∀ x3_4 : Int32, x3_4 = x3 + (nI 1) → (ih S_3 x2 x3_4)))))) n_
theorem q_X0_draw_10_s (k : St → Prop) (e_2 : St → Int32 → Prop) (n_ : Nat) (S : St) (x2 : Int32) (x3 : Int32) : q_X0_draw_10 k e_2 (n_ + 1) S x2 x3 = (((nI 4) ≤ x3 → (∀ x2_2 : Int32, x2_2 = x2 + (nI 1) → (e_2 S x2_2))) ∧ (¬ (nI 4) ≤ x3 → (q_X0_drawKite S x2 x3 (fun S_3 => (∀ x3_4 : Int32, x3_4 = x3 + (nI 1) → ((q_X0_draw_10 k e_2 n_) S_3 x2 x3_4)))))) := rfl
set_option maxRecDepth 100000 in
set_option maxHeartbeats 4000000 in
theorem b_X0_draw_10 {p : Program} {l : Launch} {e : Env} {s : State} {m : MethodId} {args : Array Value} {below : List Frame} {meth : Method} {c : Code} {Z : ZT} (hi : injZ 68 Z) (C : Cxt (gX Z) p s m meth c args yX0_draw cX0_draw 4 none) {k : St → Prop} {e_2 : St → Int32 → Prop}  (he_2 : ∀ (S : St) (x2 : Int32) (H : Heap) (locs : List Loc) (ls : Array Slot), va_P Z.1 vwCl (wl shX 68 Z S) H → va_S (aa 68 Z) s.heap H locs → lv_has ls 4 [(0, .ref (Z.2.2.1 19)), (1, .ref (Z.2.2.1 4)), (2, .int x2)] → e_2 S x2 → W p l e (rmk 5 124) s m args below meth c H locs 0 0 (Qv below shX 68 Z args s k) (F0 m 2 ls [])) : ∀ (n_ : Nat) (S : St) (x2 : Int32) (x3 : Int32) (H : Heap) (locs : List Loc) (ls : Array Slot), va_P Z.1 vwCl (wl shX 68 Z S) H → va_S (aa 68 Z) s.heap H locs → lv_has ls 4 [(0, .ref (Z.2.2.1 19)), (1, .ref (Z.2.2.1 4)), (2, .int x2), (3, .int x3)] → q_X0_draw_10 k e_2 n_ S x2 x3 → W p l e (rmk 5 124) s m args below meth c H locs 0 0 (Qv below shX 68 Z args s k) (F0 m 10 ls []) := by
  have g := gokX hi
  have hx := C.1.1
  have hb := C.1.2.1
  intro n_
  induction n_ with
  | zero => intro S x2 x3 H locs ls hP hS hl h; exact h.elim
  | succ n_ ih =>
    intro S x2 x3 H locs ls hP hS hl h
    rw [q_X0_draw_10_s] at h
    refine lv_iload_n hx hb dX0_draw_10 rfl (lv_at hl 3 rfl) ?_
    refine lv_iconst (v := (nI 4)) hx hb dX0_draw_11 (by decide) ?_
    refine lv_icmp_ge (tgt := 28) hx hb dX0_draw_12 (by decide) (fun c_1 => ?_) (fun c_1 => ?_)
    · have h := h.1 c_1
      obtain ⟨x2_2, ex2_2⟩ : ∃ y_ : Int32, y_ = x2 + (nI 1) := ⟨_, rfl⟩
      have h := h x2_2 ex2_2
      refine lv_iinc (v := x2_2) (lv' := [(2, .int x2_2), (0, .ref (Z.2.2.1 19)), (1, .ref (Z.2.2.1 4)), (3, .int x3)]) hx hb dX0_draw_28 hl (k := 2) rfl (by rw [ex2_2]; rfl) (by decide) rfl (fun ls hl => ?_)
      refine lv_goto (tgt := 2) hx hb dX0_draw_31 (by decide) ?_
      exact he_2 _ _ _ _ _ hP hS (lv_sub hl [1, 2, 0] rfl) h
    · have h := h.2 c_1
      refine lv_aload_n hx hb dX0_draw_15 rfl (lv_at hl 0 rfl) ?_
      refine lv_aload_n hx hb dX0_draw_16 rfl (lv_at hl 1 rfl) ?_
      refine lv_iload_n hx hb dX0_draw_17 rfl (lv_at hl 2 rfl) ?_
      refine lv_iload_n hx hb dX0_draw_18 rfl (lv_at hl 3 rfl) ?_
      refine go_v (run_V g C hP hS (c0 := 19) (As := [.ref (Z.2.2.1 4), .int x2, .int x3]) (rest := []) (c_X0_drawKite hi S x2 x3 _ h) cal_X0_drawKite kML_X0_21 (by decide) rfl cfX0 ⟨rfl, rfl, Nat.le_of_ble_eq_true rfl, Nat.le_of_ble_eq_true rfl⟩ rfl rfl hl.1 (Nat.le_of_ble_eq_true rfl) dX0_draw_19) hS (fun S_3 H locs h hP hS => ?_)
      obtain ⟨x3_4, ex3_4⟩ : ∃ y_ : Int32, y_ = x3 + (nI 1) := ⟨_, rfl⟩
      have h := h x3_4 ex3_4
      refine lv_iinc (v := x3_4) (lv' := [(3, .int x3_4), (0, .ref (Z.2.2.1 19)), (1, .ref (Z.2.2.1 4)), (2, .int x2)]) hx hb dX0_draw_22 hl (k := 3) rfl (by rw [ex3_4]; rfl) (by decide) rfl (fun ls hl => ?_)
      refine lv_goto (tgt := 10) hx hb dX0_draw_25 (by decide) ?_
      exact ih _ _ _ _ _ _ hP hS (lv_sub hl [1, 2, 3, 0] rfl) h
def q_X0_draw_2 (k : St → Prop) : Nat → St → Int32 → Prop := fun n_ => Nat.rec (motive := fun _ => St → Int32 → Prop) (fun _ _ => False) (fun _ ih => fun S x2 => ((nI 6) ≤ x2 → (k S)) ∧ (¬ (nI 6) ≤ x2 → (∃ f_10, q_X0_draw_10 k ih f_10 S x2 (nI 1)))) n_
theorem q_X0_draw_2_s (k : St → Prop) (n_ : Nat) (S : St) (x2 : Int32) : q_X0_draw_2 k (n_ + 1) S x2 = (((nI 6) ≤ x2 → (k S)) ∧ (¬ (nI 6) ≤ x2 → (∃ f_10, q_X0_draw_10 k (q_X0_draw_2 k n_) f_10 S x2 (nI 1)))) := rfl
set_option maxRecDepth 100000 in
set_option maxHeartbeats 4000000 in
theorem b_X0_draw_2 {p : Program} {l : Launch} {e : Env} {s : State} {m : MethodId} {args : Array Value} {below : List Frame} {meth : Method} {c : Code} {Z : ZT} (hi : injZ 68 Z) (C : Cxt (gX Z) p s m meth c args yX0_draw cX0_draw 4 none) {k : St → Prop}   : ∀ (n_ : Nat) (S : St) (x2 : Int32) (H : Heap) (locs : List Loc) (ls : Array Slot), va_P Z.1 vwCl (wl shX 68 Z S) H → va_S (aa 68 Z) s.heap H locs → lv_has ls 4 [(0, .ref (Z.2.2.1 19)), (1, .ref (Z.2.2.1 4)), (2, .int x2)] → q_X0_draw_2 k n_ S x2 → W p l e (rmk 5 124) s m args below meth c H locs 0 0 (Qv below shX 68 Z args s k) (F0 m 2 ls []) := by
  have g := gokX hi
  have hx := C.1.1
  have hb := C.1.2.1
  intro n_
  induction n_ with
  | zero => intro S x2 H locs ls hP hS hl h; exact h.elim
  | succ n_ ih =>
    intro S x2 H locs ls hP hS hl h
    rw [q_X0_draw_2_s] at h
    refine lv_iload_n hx hb dX0_draw_2 rfl (lv_at hl 2 rfl) ?_
    refine lv_bipush (v := (nI 6)) hx hb dX0_draw_3 (by decide) ?_
    refine lv_icmp_ge (tgt := 34) hx hb dX0_draw_5 (by decide) (fun c_1 => ?_) (fun c_1 => ?_)
    · have h := h.1 c_1
      exact s_rv C hP hS h dX0_draw_34
    · have h := h.2 c_1
      refine lv_iconst (v := (nI 1)) hx hb dX0_draw_8 (by decide) ?_
      refine lv_istore_n (lv' := [(3, .int (nI 1)), (0, .ref (Z.2.2.1 19)), (1, .ref (Z.2.2.1 4)), (2, .int x2)]) hx hb dX0_draw_9 rfl hl (by decide) rfl (fun ls hl => ?_)
      obtain ⟨f_10, h⟩ := h
      exact b_X0_draw_10 hi C ih f_10 _ _ _ _ _ _ hP hS (lv_sub hl [1, 2, 3, 0] rfl) h
def q_X0_draw (S : St) (k : St → Prop) : Prop := ∃ f_2, q_X0_draw_2 k f_2 S (nI 0)
set_option maxRecDepth 100000 in
set_option maxHeartbeats 4000000 in
theorem c_X0_draw {l : Launch} {Z : ZT} (hi : injZ 68 Z) (S : St) (k : St → Prop) (h : q_X0_draw S k) : Mv l shX 68 Z (gX Z) yX0_draw cX0_draw 4 none (rmk 5 124) [.ref (Z.2.2.1 19), .ref (Z.2.2.1 4)] S k := by
  have g := gokX hi
  refine e_v (by decide) (Nat.le_of_ble_eq_true rfl) (lv := [(0, .ref (Z.2.2.1 19)), (1, .ref (Z.2.2.1 4))]) rfl (fun p e s m args below meth c C hP hS ls hl => ?_)
  have hx := C.1.1
  have hb := C.1.2.1
  unfold q_X0_draw at h
  refine lv_iconst (v := (nI 0)) hx hb dX0_draw_0 (by decide) ?_
  refine lv_istore_n (lv' := [(2, .int (nI 0)), (0, .ref (Z.2.2.1 19)), (1, .ref (Z.2.2.1 4))]) hx hb dX0_draw_1 rfl hl (by decide) rfl (fun ls hl => ?_)
  obtain ⟨f_2, h⟩ := h
  exact b_X0_draw_2 hi C  f_2 _ _ _ _ _ hP hS (lv_sub hl [1, 2, 0] rfl) h
def q_X0_isFree (S : St) (a1 : Int32) (a2 : Int32) (a3 : Int32) (k : Int32 → Prop) : Prop := ∀ x4_1 : Int32, x4_1 = ((a1 * (nI 4)) + a2) → ((x4_1 < (nI 0) → (k (nI 0))) ∧ (¬ x4_1 < (nI 0) → (((nI 24) ≤ x4_1 → (k (nI 0))) ∧ (¬ (nI 24) ≤ x4_1 → (vp_in x4_1 24 ∧ (q_X8_isIn S (S.1 20 x4_1.toNatClampNeg) a3 (fun r_5 => ((r_5 = (nI 0) → (k (nI 0))) ∧ (¬ r_5 = (nI 0) → (k (nI 1)))))))))))
set_option maxRecDepth 100000 in
set_option maxHeartbeats 4000000 in
theorem c_X0_isFree {l : Launch} {Z : ZT} (hi : injZ 68 Z) (S : St) (a1 : Int32) (a2 : Int32) (a3 : Int32) (k : Int32 → Prop) (h : q_X0_isFree S a1 a2 a3 k) : Mi l shX 68 Z (gX Z) yX0_isFree cX0_isFree 5 (Option.some .boolean) (rmk 1 21) [.ref (Z.2.2.1 19), .int a1, .int a2, .int a3] S (fun r S' => S' = S ∧ (r = 0 ∨ r = 1) ∧ k r) := by
  have g := gokX hi
  refine e_i (by decide) (Nat.le_of_ble_eq_true rfl) (lv := [(0, .ref (Z.2.2.1 19)), (1, .int a1), (2, .int a2), (3, .int a3)]) rfl (fun p e s m args below meth c C hP hS ls hl => ?_)
  have hx := C.1.1
  have hb := C.1.2.1
  unfold q_X0_isFree at h
  refine lv_iload_n hx hb dX0_isFree_0 rfl (lv_at hl 1 rfl) ?_
  refine lv_iconst (v := (nI 4)) hx hb dX0_isFree_1 (by decide) ?_
  refine lv_imul hx hb dX0_isFree_2 ?_
  refine lv_iload_n hx hb dX0_isFree_3 rfl (lv_at hl 2 rfl) ?_
  refine lv_iadd hx hb dX0_isFree_4 ?_
  refine lv_topi (fun x4_1 ex4_1 => ?_)
  have h := h x4_1 ex4_1
  refine lv_istore (lv' := [(4, .int x4_1), (0, .ref (Z.2.2.1 19)), (1, .int a1), (2, .int a2), (3, .int a3)]) hx hb dX0_isFree_5 hl (by decide) rfl (fun ls hl => ?_)
  refine lv_iload hx hb dX0_isFree_7 (lv_at hl 0 rfl) ?_
  refine lv_if_lt (tgt := 37) hx hb dX0_isFree_9 (by decide) (fun c_2 => ?_) (fun c_2 => ?_)
  · have h := h.1 c_2
    refine lv_iconst (v := (nI 0)) hx hb dX0_isFree_37 (by decide) ?_
    exact s_rz C hP hS (nar_b (Or.inl rfl)) ⟨rfl, ⟨(Or.inl rfl), h⟩⟩ dX0_isFree_38
  · have h := h.2 c_2
    refine lv_iload hx hb dX0_isFree_12 (lv_at hl 0 rfl) ?_
    refine lv_bipush (v := (nI 24)) hx hb dX0_isFree_14 (by decide) ?_
    refine lv_icmp_ge (tgt := 37) hx hb dX0_isFree_16 (by decide) (fun c_3 => ?_) (fun c_3 => ?_)
    · have h := h.1 c_3
      refine lv_iconst (v := (nI 0)) hx hb dX0_isFree_37 (by decide) ?_
      exact s_rz C hP hS (nar_b (Or.inl rfl)) ⟨rfl, ⟨(Or.inl rfl), h⟩⟩ dX0_isFree_38
    · have h := h.2 c_3
      refine lv_aload_n hx hb dX0_isFree_19 rfl (lv_at hl 1 rfl) ?_
      refine s_gR g C hP 19 0 20 (by decide) rfl rfl cfX0 (by decide) kFL_X0_9 dX0_isFree_20 ?_
      refine lv_iload hx hb dX0_isFree_23 (lv_at hl 0 rfl) ?_
      have hv_4 := h.1
      have h := h.2
      refine s_aI g C hP 20 (by decide) rfl hv_4 dX0_isFree_25 ?_
      refine lv_iload_n hx hb dX0_isFree_26 rfl (lv_at hl 4 rfl) ?_
      refine go_ip (run_SN g C hP hS (As := [.int (S.1 20 x4_1.toNatClampNeg), .int a3]) (rest := []) (c_X8_isIn hi S (S.1 20 x4_1.toNatClampNeg) a3 _ h) cal_X8_isIn (nstX C.2.2.2 12 rfl) ⟨rfl, rfl, Nat.le_of_ble_eq_true rfl, Nat.le_of_ble_eq_true rfl⟩ rfl rfl hl.1 (Nat.le_of_ble_eq_true rfl) dX0_isFree_27) hS (fun r_5 H locs h hP hS => ?_)
      obtain ⟨hbr_5, h⟩ := h
      refine lv_if_eq (tgt := 37) hx hb dX0_isFree_30 (by decide) (fun c_6 => ?_) (fun c_6 => ?_)
      · have h := h.1 c_6
        refine lv_iconst (v := (nI 0)) hx hb dX0_isFree_37 (by decide) ?_
        exact s_rz C hP hS (nar_b (Or.inl rfl)) ⟨rfl, ⟨(Or.inl rfl), h⟩⟩ dX0_isFree_38
      · have h := h.2 c_6
        refine lv_iconst (v := (nI 1)) hx hb dX0_isFree_33 (by decide) ?_
        refine lv_goto (tgt := 38) hx hb dX0_isFree_34 (by decide) ?_
        exact s_rz C hP hS (nar_b (Or.inr rfl)) ⟨rfl, ⟨(Or.inr rfl), h⟩⟩ dX0_isFree_38
def q_X0_met (S : St) (a1 : Int32) (a2 : Int32) (a3 : Int32) (k : Int32 → Prop) : Prop := ∀ x4_1 : Int32, x4_1 = ((((a1 * (nI 4)) + a2) * (nI 12)) + a3) → ((x4_1 < (nI 0) → (k (nI 0))) ∧ (¬ x4_1 < (nI 0) → (((nI 288) ≤ x4_1 → (k (nI 0))) ∧ (¬ (nI 288) ≤ x4_1 → (vp_in x4_1 288 ∧ (k (S.1 21 x4_1.toNatClampNeg)))))))
set_option maxRecDepth 100000 in
set_option maxHeartbeats 4000000 in
theorem c_X0_met {l : Launch} {Z : ZT} (hi : injZ 68 Z) (S : St) (a1 : Int32) (a2 : Int32) (a3 : Int32) (k : Int32 → Prop) (h : q_X0_met S a1 a2 a3 k) : Mi l shX 68 Z (gX Z) yX0_met cX0_met 5 (Option.some .int) (rmk 0 0) [.ref (Z.2.2.1 19), .int a1, .int a2, .int a3] S (fun r S' => S' = S ∧ k r) := by
  have g := gokX hi
  refine e_i (by decide) (Nat.le_of_ble_eq_true rfl) (lv := [(0, .ref (Z.2.2.1 19)), (1, .int a1), (2, .int a2), (3, .int a3)]) rfl (fun p e s m args below meth c C hP hS ls hl => ?_)
  have hx := C.1.1
  have hb := C.1.2.1
  unfold q_X0_met at h
  refine lv_iload_n hx hb dX0_met_0 rfl (lv_at hl 1 rfl) ?_
  refine lv_iconst (v := (nI 4)) hx hb dX0_met_1 (by decide) ?_
  refine lv_imul hx hb dX0_met_2 ?_
  refine lv_iload_n hx hb dX0_met_3 rfl (lv_at hl 2 rfl) ?_
  refine lv_iadd hx hb dX0_met_4 ?_
  refine lv_bipush (v := (nI 12)) hx hb dX0_met_5 (by decide) ?_
  refine lv_imul hx hb dX0_met_7 ?_
  refine lv_iload_n hx hb dX0_met_8 rfl (lv_at hl 3 rfl) ?_
  refine lv_iadd hx hb dX0_met_9 ?_
  refine lv_topi (fun x4_1 ex4_1 => ?_)
  have h := h x4_1 ex4_1
  refine lv_istore (lv' := [(4, .int x4_1), (0, .ref (Z.2.2.1 19)), (1, .int a1), (2, .int a2), (3, .int a3)]) hx hb dX0_met_10 hl (by decide) rfl (fun ls hl => ?_)
  refine lv_iload hx hb dX0_met_12 (lv_at hl 0 rfl) ?_
  refine lv_if_lt (tgt := 35) hx hb dX0_met_14 (by decide) (fun c_2 => ?_) (fun c_2 => ?_)
  · have h := h.1 c_2
    refine lv_iconst (v := (nI 0)) hx hb dX0_met_35 (by decide) ?_
    exact s_ri C hP hS ⟨rfl, h⟩ dX0_met_36
  · have h := h.2 c_2
    refine lv_iload hx hb dX0_met_17 (lv_at hl 0 rfl) ?_
    refine lv_sipush (v := (nI 288)) hx hb dX0_met_19 (by decide) ?_
    refine lv_icmp_ge (tgt := 35) hx hb dX0_met_22 (by decide) (fun c_3 => ?_) (fun c_3 => ?_)
    · have h := h.1 c_3
      refine lv_iconst (v := (nI 0)) hx hb dX0_met_35 (by decide) ?_
      exact s_ri C hP hS ⟨rfl, h⟩ dX0_met_36
    · have h := h.2 c_3
      refine lv_aload_n hx hb dX0_met_25 rfl (lv_at hl 1 rfl) ?_
      refine s_gR g C hP 19 1 21 (by decide) rfl rfl cfX0 (by decide) kFL_X0_15 dX0_met_26 ?_
      refine lv_iload hx hb dX0_met_29 (lv_at hl 0 rfl) ?_
      have hv_4 := h.1
      have h := h.2
      refine s_aI g C hP 21 (by decide) rfl hv_4 dX0_met_31 ?_
      refine lv_goto (tgt := 36) hx hb dX0_met_32 (by decide) ?_
      exact s_ri C hP hS ⟨rfl, h⟩ dX0_met_36
def q_X0_crossed (S : St) (a1 : Int32) (a2 : Int32) (a3 : Int32) (k : Int32 → Prop) : Prop := ∀ x4_1 : Int32, x4_1 = ((((a1 * (nI 4)) + a2) * (nI 12)) + a3) → ((x4_1 < (nI 0) → (k (nI 0))) ∧ (¬ x4_1 < (nI 0) → (((nI 288) ≤ x4_1 → (k (nI 0))) ∧ (¬ (nI 288) ≤ x4_1 → (vp_in x4_1 288 ∧ (k (S.1 22 x4_1.toNatClampNeg)))))))
set_option maxRecDepth 100000 in
set_option maxHeartbeats 4000000 in
theorem c_X0_crossed {l : Launch} {Z : ZT} (hi : injZ 68 Z) (S : St) (a1 : Int32) (a2 : Int32) (a3 : Int32) (k : Int32 → Prop) (h : q_X0_crossed S a1 a2 a3 k) : Mi l shX 68 Z (gX Z) yX0_crossed cX0_crossed 5 (Option.some .int) (rmk 0 0) [.ref (Z.2.2.1 19), .int a1, .int a2, .int a3] S (fun r S' => S' = S ∧ k r) := by
  have g := gokX hi
  refine e_i (by decide) (Nat.le_of_ble_eq_true rfl) (lv := [(0, .ref (Z.2.2.1 19)), (1, .int a1), (2, .int a2), (3, .int a3)]) rfl (fun p e s m args below meth c C hP hS ls hl => ?_)
  have hx := C.1.1
  have hb := C.1.2.1
  unfold q_X0_crossed at h
  refine lv_iload_n hx hb dX0_crossed_0 rfl (lv_at hl 1 rfl) ?_
  refine lv_iconst (v := (nI 4)) hx hb dX0_crossed_1 (by decide) ?_
  refine lv_imul hx hb dX0_crossed_2 ?_
  refine lv_iload_n hx hb dX0_crossed_3 rfl (lv_at hl 2 rfl) ?_
  refine lv_iadd hx hb dX0_crossed_4 ?_
  refine lv_bipush (v := (nI 12)) hx hb dX0_crossed_5 (by decide) ?_
  refine lv_imul hx hb dX0_crossed_7 ?_
  refine lv_iload_n hx hb dX0_crossed_8 rfl (lv_at hl 3 rfl) ?_
  refine lv_iadd hx hb dX0_crossed_9 ?_
  refine lv_topi (fun x4_1 ex4_1 => ?_)
  have h := h x4_1 ex4_1
  refine lv_istore (lv' := [(4, .int x4_1), (0, .ref (Z.2.2.1 19)), (1, .int a1), (2, .int a2), (3, .int a3)]) hx hb dX0_crossed_10 hl (by decide) rfl (fun ls hl => ?_)
  refine lv_iload hx hb dX0_crossed_12 (lv_at hl 0 rfl) ?_
  refine lv_if_lt (tgt := 35) hx hb dX0_crossed_14 (by decide) (fun c_2 => ?_) (fun c_2 => ?_)
  · have h := h.1 c_2
    refine lv_iconst (v := (nI 0)) hx hb dX0_crossed_35 (by decide) ?_
    exact s_ri C hP hS ⟨rfl, h⟩ dX0_crossed_36
  · have h := h.2 c_2
    refine lv_iload hx hb dX0_crossed_17 (lv_at hl 0 rfl) ?_
    refine lv_sipush (v := (nI 288)) hx hb dX0_crossed_19 (by decide) ?_
    refine lv_icmp_ge (tgt := 35) hx hb dX0_crossed_22 (by decide) (fun c_3 => ?_) (fun c_3 => ?_)
    · have h := h.1 c_3
      refine lv_iconst (v := (nI 0)) hx hb dX0_crossed_35 (by decide) ?_
      exact s_ri C hP hS ⟨rfl, h⟩ dX0_crossed_36
    · have h := h.2 c_3
      refine lv_aload_n hx hb dX0_crossed_25 rfl (lv_at hl 1 rfl) ?_
      refine s_gR g C hP 19 2 22 (by decide) rfl rfl cfX0 (by decide) kFL_X0_18 dX0_crossed_26 ?_
      refine lv_iload hx hb dX0_crossed_29 (lv_at hl 0 rfl) ?_
      have hv_4 := h.1
      have h := h.2
      refine s_aI g C hP 22 (by decide) rfl hv_4 dX0_crossed_31 ?_
      refine lv_goto (tgt := 36) hx hb dX0_crossed_32 (by decide) ?_
      exact s_ri C hP hS ⟨rfl, h⟩ dX0_crossed_36
def q_X1_stockShoals_33 (d : Nat) (k : St → Prop) (e_2 : St → Int32 → Prop) (S : St) (x2 : Int32) (t0 : Int32) (t1 : Int32) : Prop := vp_in t1 4 ∧ (∀ S_2 : St, S_2 = sI S (33 + 7 * d + 5) t1.toNatClampNeg t0 → (∀ x2_3 : Int32, x2_3 = x2 + (nI 1) → (e_2 S_2 x2_3)))
set_option maxRecDepth 100000 in
set_option maxHeartbeats 4000000 in
theorem b_X1_stockShoals_33 {p : Program} {l : Launch} {e : Env} {s : State} {m : MethodId} {args : Array Value} {below : List Frame} {meth : Method} {c : Code} {Z : ZT} (hi : injZ 68 Z) (C : Cxt (gX Z) p s m meth c args yX1_stockShoals cX1_stockShoals 3 none) {d : Nat} {k : St → Prop} {e_2 : St → Int32 → Prop} (hd : d < 5) (he_2 : ∀ (S : St) (x2 : Int32) (H : Heap) (locs : List Loc) (ls : Array Slot), va_P Z.1 vwCl (wl shX 68 Z S) H → va_S (aa 68 Z) s.heap H locs → lv_has ls 3 [(0, .ref (Z.2.2.1 (33 + 7 * d))), (1, .ref (Z.2.2.1 4)), (2, .int x2)] → e_2 S x2 → W p l e (rmk 1 21) s m args below meth c H locs 0 0 (Qv below shX 68 Z args s k) (F0 m 2 ls [])) (S : St) (x2 : Int32) (t0 : Int32) (t1 : Int32) (H : Heap) (locs : List Loc) (ls : Array Slot) (hP : va_P Z.1 vwCl (wl shX 68 Z S) H) (hS : va_S (aa 68 Z) s.heap H locs) (hl : lv_has ls 3 [(0, .ref (Z.2.2.1 (33 + 7 * d))), (1, .ref (Z.2.2.1 4)), (2, .int x2)]) (h : q_X1_stockShoals_33 d k e_2 S x2 t0 t1) : W p l e (rmk 1 21) s m args below meth c H locs 0 0 (Qv below shX 68 Z args s k) (F0 m 33 ls [.int t0, .int t1, .ref (Z.2.2.1 (33 + 7 * d + 5))]) := by
  have g := gokX hi
  have hx := C.1.1
  have hb := C.1.2.1
  unfold q_X1_stockShoals_33 at h
  have hv_1 := h.1
  have h := h.2
  refine s_stI g C hP hS (33 + 7 * d + 5) (ltX_day5 (d := d) hd) (shX_day5 (d := d) hd) hv_1 dX1_stockShoals_33 (fun H locs hP hS => ?_)
  obtain ⟨S_2, eS_2⟩ : ∃ z_ : St, z_ = sI S (33 + 7 * d + 5) t1.toNatClampNeg t0 := ⟨_, rfl⟩
  rw [← eS_2] at hP
  have h := h S_2 eS_2
  obtain ⟨x2_3, ex2_3⟩ : ∃ y_ : Int32, y_ = x2 + (nI 1) := ⟨_, rfl⟩
  have h := h x2_3 ex2_3
  refine lv_iinc (v := x2_3) (lv' := [(2, .int x2_3), (0, .ref (Z.2.2.1 (33 + 7 * d))), (1, .ref (Z.2.2.1 4))]) hx hb dX1_stockShoals_34 hl (k := 2) rfl (by rw [ex2_3]; rfl) (by decide) rfl (fun ls hl => ?_)
  refine lv_goto (tgt := 2) hx hb dX1_stockShoals_37 (by decide) ?_
  exact he_2 _ _ _ _ _ hP hS (lv_sub hl [1, 2, 0] rfl) h
def q_X1_stockShoals_2 (d : Nat) (k : St → Prop) : Nat → St → Int32 → Prop := fun n_ => Nat.rec (motive := fun _ => St → Int32 → Prop) (fun _ _ => False) (fun _ ih => fun S x2 => ((nI 4) ≤ x2 → (k S)) ∧ (¬ (nI 4) ≤ x2 → (q_X4_isToldShoal S x2 (fun r_2 => ((r_2 = (nI 0) → (q_X1_stockShoals_33 d k ih S x2 (nI 0) x2)) ∧ (¬ r_2 = (nI 0) → (vp_in x2 4 ∧ (q_X1_stockShoals_33 d k ih S x2 (S.1 (15 + x2.toNatClampNeg) 5) x2)))))))) n_
theorem q_X1_stockShoals_2_s (d : Nat) (k : St → Prop) (n_ : Nat) (S : St) (x2 : Int32) : q_X1_stockShoals_2 d k (n_ + 1) S x2 = (((nI 4) ≤ x2 → (k S)) ∧ (¬ (nI 4) ≤ x2 → (q_X4_isToldShoal S x2 (fun r_2 => ((r_2 = (nI 0) → (q_X1_stockShoals_33 d k (q_X1_stockShoals_2 d k n_) S x2 (nI 0) x2)) ∧ (¬ r_2 = (nI 0) → (vp_in x2 4 ∧ (q_X1_stockShoals_33 d k (q_X1_stockShoals_2 d k n_) S x2 (S.1 (15 + x2.toNatClampNeg) 5) x2)))))))) := rfl
set_option maxRecDepth 100000 in
set_option maxHeartbeats 4000000 in
theorem b_X1_stockShoals_2 {p : Program} {l : Launch} {e : Env} {s : State} {m : MethodId} {args : Array Value} {below : List Frame} {meth : Method} {c : Code} {Z : ZT} (hi : injZ 68 Z) (C : Cxt (gX Z) p s m meth c args yX1_stockShoals cX1_stockShoals 3 none) {d : Nat} {k : St → Prop} (hd : d < 5)  : ∀ (n_ : Nat) (S : St) (x2 : Int32) (H : Heap) (locs : List Loc) (ls : Array Slot), va_P Z.1 vwCl (wl shX 68 Z S) H → va_S (aa 68 Z) s.heap H locs → lv_has ls 3 [(0, .ref (Z.2.2.1 (33 + 7 * d))), (1, .ref (Z.2.2.1 4)), (2, .int x2)] → q_X1_stockShoals_2 d k n_ S x2 → W p l e (rmk 1 21) s m args below meth c H locs 0 0 (Qv below shX 68 Z args s k) (F0 m 2 ls []) := by
  have g := gokX hi
  have hx := C.1.1
  have hb := C.1.2.1
  intro n_
  induction n_ with
  | zero => intro S x2 H locs ls hP hS hl h; exact h.elim
  | succ n_ ih =>
    intro S x2 H locs ls hP hS hl h
    rw [q_X1_stockShoals_2_s] at h
    refine lv_iload_n hx hb dX1_stockShoals_2 rfl (lv_at hl 2 rfl) ?_
    refine lv_iconst (v := (nI 4)) hx hb dX1_stockShoals_3 (by decide) ?_
    refine lv_icmp_ge (tgt := 40) hx hb dX1_stockShoals_4 (by decide) (fun c_1 => ?_) (fun c_1 => ?_)
    · have h := h.1 c_1
      exact s_rv C hP hS h dX1_stockShoals_40
    · have h := h.2 c_1
      refine lv_aload_n hx hb dX1_stockShoals_7 rfl (lv_at hl 0 rfl) ?_
      refine s_gR g C hP (33 + 7 * d) 9 (33 + 7 * d + 5) (ltX_day (d := d) hd) (shX_day (d := d) hd) rfl cfX1 (by decide) kFL_X1_24 dX1_stockShoals_8 ?_
      refine lv_iload_n hx hb dX1_stockShoals_11 rfl (lv_at hl 2 rfl) ?_
      refine lv_aload_n hx hb dX1_stockShoals_12 rfl (lv_at hl 1 rfl) ?_
      refine lv_iload_n hx hb dX1_stockShoals_13 rfl (lv_at hl 2 rfl) ?_
      refine go_ip (run_V g C hP hS (c0 := 4) (As := [.int x2]) (rest := [.int x2, .ref (Z.2.2.1 (33 + 7 * d + 5))]) (c_X4_isToldShoal hi S x2 _ h) cal_X4_isToldShoal kML_X1_30 (by decide) rfl cfX4 ⟨rfl, rfl, Nat.le_of_ble_eq_true rfl, Nat.le_of_ble_eq_true rfl⟩ rfl rfl hl.1 (Nat.le_of_ble_eq_true rfl) dX1_stockShoals_14) hS (fun r_2 H locs h hP hS => ?_)
      obtain ⟨hbr_2, h⟩ := h
      refine lv_if_eq (tgt := 32) hx hb dX1_stockShoals_17 (by decide) (fun c_3 => ?_) (fun c_3 => ?_)
      · have h := h.1 c_3
        refine lv_iconst (v := (nI 0)) hx hb dX1_stockShoals_32 (by decide) ?_
        exact b_X1_stockShoals_33 hi C hd ih _ _ _ _ _ _ _ hP hS (lv_sub hl [0, 1, 2] rfl) h
      · have h := h.2 c_3
        refine lv_aload_n hx hb dX1_stockShoals_20 rfl (lv_at hl 1 rfl) ?_
        refine s_gR g C hP 4 1 6 (by decide) rfl rfl cfX4 (by decide) kFL_X1_36 dX1_stockShoals_21 ?_
        refine lv_iload_n hx hb dX1_stockShoals_24 rfl (lv_at hl 2 rfl) ?_
        have hv_4 := h.1
        have h := h.2
        refine s_aR g C hP 6 (t := 1) (by decide) rfl rfl hv_4 dX1_stockShoals_25 ?_
        refine s_gI g C hP (15 + x2.toNatClampNeg) 5 (ltX_shoal (vin_lt hv_4)) (shX_shoal (vin_lt hv_4)) rfl cfX6 (by decide) kFL_X1_40 dX1_stockShoals_26 ?_
        refine lv_goto (tgt := 33) hx hb dX1_stockShoals_29 (by decide) ?_
        exact b_X1_stockShoals_33 hi C hd ih _ _ _ _ _ _ _ hP hS (lv_sub hl [0, 1, 2] rfl) h
def q_X1_stockShoals (d : Nat) (S : St) (k : St → Prop) : Prop := ∃ f_2, q_X1_stockShoals_2 d k f_2 S (nI 0)
set_option maxRecDepth 100000 in
set_option maxHeartbeats 4000000 in
theorem c_X1_stockShoals {l : Launch} {Z : ZT} (hi : injZ 68 Z) (d : Nat) (hd : d < 5) (S : St) (k : St → Prop) (h : q_X1_stockShoals d S k) : Mv l shX 68 Z (gX Z) yX1_stockShoals cX1_stockShoals 3 none (rmk 1 21) [.ref (Z.2.2.1 (33 + 7 * d)), .ref (Z.2.2.1 4)] S k := by
  have g := gokX hi
  refine e_v (by decide) (Nat.le_of_ble_eq_true rfl) (lv := [(0, .ref (Z.2.2.1 (33 + 7 * d))), (1, .ref (Z.2.2.1 4))]) rfl (fun p e s m args below meth c C hP hS ls hl => ?_)
  have hx := C.1.1
  have hb := C.1.2.1
  unfold q_X1_stockShoals at h
  refine lv_iconst (v := (nI 0)) hx hb dX1_stockShoals_0 (by decide) ?_
  refine lv_istore_n (lv' := [(2, .int (nI 0)), (0, .ref (Z.2.2.1 (33 + 7 * d))), (1, .ref (Z.2.2.1 4))]) hx hb dX1_stockShoals_1 rfl hl (by decide) rfl (fun ls hl => ?_)
  obtain ⟨f_2, h⟩ := h
  exact b_X1_stockShoals_2 hi C hd f_2 _ _ _ _ _ hP hS (lv_sub hl [1, 2, 0] rfl) h
def q_X1_resume (d : Nat) (d1 : Nat) (S : St) (k : St → Prop) : Prop := ∀ S_1 : St, S_1 = sI S (33 + 7 * d) 0 (S.1 (33 + 7 * d1) 0) → (∀ S_2 : St, S_2 = sI S_1 (33 + 7 * d) 1 (S_1.1 (33 + 7 * d1) 1) → (∀ S_3 : St, S_3 = sI S_2 (33 + 7 * d) 2 (nI 0) → (∀ S_4 : St, S_4 = sI S_3 (33 + 7 * d) 3 (nI 0) → (∀ S_5 : St, S_5 = sI S_4 (33 + 7 * d) 4 (nI 0) → (∀ S_6 : St, S_6 = sF S_5 (33 + 7 * d + 5) (va_cpy (S_5.1 (33 + 7 * d1 + 5)) (S_5.1 (33 + 7 * d + 5)) 0 0 (nI 4).toNatClampNeg) → (k S_6))))))
set_option maxRecDepth 100000 in
set_option maxHeartbeats 4000000 in
theorem c_X1_resume {l : Launch} {Z : ZT} (hi : injZ 68 Z) (d : Nat) (d1 : Nat) (hd : d < 5) (hd1 : d1 < 5) (S : St) (k : St → Prop) (h : q_X1_resume d d1 S k) : Mv l shX 68 Z (gX Z) yX1_resume cX1_resume 2 none (rmk 1 40) [.ref (Z.2.2.1 (33 + 7 * d)), .ref (Z.2.2.1 (33 + 7 * d1))] S k := by
  have g := gokX hi
  refine e_v (by decide) (Nat.le_of_ble_eq_true rfl) (lv := [(0, .ref (Z.2.2.1 (33 + 7 * d))), (1, .ref (Z.2.2.1 (33 + 7 * d1)))]) rfl (fun p e s m args below meth c C hP hS ls hl => ?_)
  have hx := C.1.1
  have hb := C.1.2.1
  unfold q_X1_resume at h
  refine lv_aload_n hx hb dX1_resume_0 rfl (lv_at hl 0 rfl) ?_
  refine lv_aload_n hx hb dX1_resume_1 rfl (lv_at hl 1 rfl) ?_
  refine s_gI g C hP (33 + 7 * d1) 0 (ltX_day (d := d1) hd1) (shX_day (d := d1) hd1) rfl cfX1 (by decide) kFL_X1_65 dX1_resume_2 ?_
  refine s_pI g C hP hS (33 + 7 * d) 0 (ltX_day (d := d) hd) (shX_day (d := d) hd) rfl cfX1 (by decide) rfl rfl rfl kFL_X1_65 dX1_resume_5 (fun H locs hP hS => ?_)
  obtain ⟨S_1, eS_1⟩ : ∃ z_ : St, z_ = sI S (33 + 7 * d) 0 (S.1 (33 + 7 * d1) 0) := ⟨_, rfl⟩
  rw [← eS_1] at hP
  have h := h S_1 eS_1
  refine lv_aload_n hx hb dX1_resume_8 rfl (lv_at hl 0 rfl) ?_
  refine lv_aload_n hx hb dX1_resume_9 rfl (lv_at hl 1 rfl) ?_
  refine s_gI g C hP (33 + 7 * d1) 1 (ltX_day (d := d1) hd1) (shX_day (d := d1) hd1) rfl cfX1 (by decide) kFL_X1_68 dX1_resume_10 ?_
  refine s_pI g C hP hS (33 + 7 * d) 1 (ltX_day (d := d) hd) (shX_day (d := d) hd) rfl cfX1 (by decide) rfl rfl rfl kFL_X1_68 dX1_resume_13 (fun H locs hP hS => ?_)
  obtain ⟨S_2, eS_2⟩ : ∃ z_ : St, z_ = sI S_1 (33 + 7 * d) 1 (S_1.1 (33 + 7 * d1) 1) := ⟨_, rfl⟩
  rw [← eS_2] at hP
  have h := h S_2 eS_2
  refine lv_aload_n hx hb dX1_resume_16 rfl (lv_at hl 0 rfl) ?_
  refine lv_iconst (v := (nI 0)) hx hb dX1_resume_17 (by decide) ?_
  refine s_pI g C hP hS (33 + 7 * d) 2 (ltX_day (d := d) hd) (shX_day (d := d) hd) rfl cfX1 (by decide) rfl rfl rfl kFL_X1_50 dX1_resume_18 (fun H locs hP hS => ?_)
  obtain ⟨S_3, eS_3⟩ : ∃ z_ : St, z_ = sI S_2 (33 + 7 * d) 2 (nI 0) := ⟨_, rfl⟩
  rw [← eS_3] at hP
  have h := h S_3 eS_3
  refine lv_aload_n hx hb dX1_resume_21 rfl (lv_at hl 0 rfl) ?_
  refine lv_iconst (v := (nI 0)) hx hb dX1_resume_22 (by decide) ?_
  refine s_pI g C hP hS (33 + 7 * d) 3 (ltX_day (d := d) hd) (shX_day (d := d) hd) rfl cfX1 (by decide) rfl rfl rfl kFL_X1_53 dX1_resume_23 (fun H locs hP hS => ?_)
  obtain ⟨S_4, eS_4⟩ : ∃ z_ : St, z_ = sI S_3 (33 + 7 * d) 3 (nI 0) := ⟨_, rfl⟩
  rw [← eS_4] at hP
  have h := h S_4 eS_4
  refine lv_aload_n hx hb dX1_resume_26 rfl (lv_at hl 0 rfl) ?_
  refine lv_iconst (v := (nI 0)) hx hb dX1_resume_27 (by decide) ?_
  refine s_pI g C hP hS (33 + 7 * d) 4 (ltX_day (d := d) hd) (shX_day (d := d) hd) rfl cfX1 (by decide) rfl rfl rfl kFL_X1_56 dX1_resume_28 (fun H locs hP hS => ?_)
  obtain ⟨S_5, eS_5⟩ : ∃ z_ : St, z_ = sI S_4 (33 + 7 * d) 4 (nI 0) := ⟨_, rfl⟩
  rw [← eS_5] at hP
  have h := h S_5 eS_5
  refine lv_aload_n hx hb dX1_resume_31 rfl (lv_at hl 1 rfl) ?_
  refine s_gR g C hP (33 + 7 * d1) 9 (33 + 7 * d1 + 5) (ltX_day (d := d1) hd1) (shX_day (d := d1) hd1) rfl cfX1 (by decide) kFL_X1_24 dX1_resume_32 ?_
  refine lv_iconst (v := (nI 0)) hx hb dX1_resume_35 (by decide) ?_
  refine lv_aload_n hx hb dX1_resume_36 rfl (lv_at hl 0 rfl) ?_
  refine s_gR g C hP (33 + 7 * d) 9 (33 + 7 * d + 5) (ltX_day (d := d) hd) (shX_day (d := d) hd) rfl cfX1 (by decide) kFL_X1_24 dX1_resume_37 ?_
  refine lv_iconst (v := (nI 0)) hx hb dX1_resume_40 (by decide) ?_
  refine lv_iconst (v := (nI 4)) hx hb dX1_resume_41 (by decide) ?_
  refine s_cpI g C hP hS hl.1 kML_X1_59 (33 + 7 * d1 + 5) (33 + 7 * d + 5) (ltX_day5 (d := d1) hd1) (ltX_day5 (d := d) hd) (shX_day5 (d := d1) hd1) (shX_day5 (d := d) hd) (by decide) (by decide) (by decide) ⟨Nat.le_of_ble_eq_true rfl, Nat.le_of_ble_eq_true rfl⟩ dX1_resume_42 (fun H locs hP hS => ?_)
  obtain ⟨S_6, eS_6⟩ : ∃ z_ : St, z_ = sF S_5 (33 + 7 * d + 5) (va_cpy (S_5.1 (33 + 7 * d1 + 5)) (S_5.1 (33 + 7 * d + 5)) 0 0 (nI 4).toNatClampNeg) := ⟨_, rfl⟩
  rw [← eS_6] at hP
  have h := h S_6 eS_6
  exact s_rv C hP hS h dX1_resume_45
def q_X1_become (d : Nat) (d1 : Nat) (S : St) (k : St → Prop) : Prop := q_X1_resume d d1 S (fun S_1 => (∀ S_2 : St, S_2 = sI S_1 (33 + 7 * d) 2 (S_1.1 (33 + 7 * d1) 2) → (∀ S_3 : St, S_3 = sI S_2 (33 + 7 * d) 3 (S_2.1 (33 + 7 * d1) 3) → (∀ S_4 : St, S_4 = sI S_3 (33 + 7 * d) 4 (S_3.1 (33 + 7 * d1) 4) → (∀ S_5 : St, S_5 = sF S_4 (33 + 7 * d + 1) (va_cpy (S_4.1 (33 + 7 * d1 + 1)) (S_4.1 (33 + 7 * d + 1)) 0 0 (nI 6).toNatClampNeg) → (∀ S_6 : St, S_6 = sF S_5 (33 + 7 * d + 2) (va_cpy (S_5.1 (33 + 7 * d1 + 2)) (S_5.1 (33 + 7 * d + 2)) 0 0 (nI 6).toNatClampNeg) → (∀ S_7 : St, S_7 = sF S_6 (33 + 7 * d + 3) (va_cpy (S_6.1 (33 + 7 * d1 + 3)) (S_6.1 (33 + 7 * d + 3)) 0 0 (nI 6).toNatClampNeg) → (∀ S_8 : St, S_8 = sF S_7 (33 + 7 * d + 4) (va_cpy (S_7.1 (33 + 7 * d1 + 4)) (S_7.1 (33 + 7 * d + 4)) 0 0 (nI 6).toNatClampNeg) → (∀ S_9 : St, S_9 = sF S_8 (33 + 7 * d + 6) (va_cpy (S_8.1 (33 + 7 * d1 + 6)) (S_8.1 (33 + 7 * d + 6)) 0 0 (nI 288).toNatClampNeg) → (k S_9))))))))))
set_option maxRecDepth 100000 in
set_option maxHeartbeats 4000000 in
theorem c_X1_become {l : Launch} {Z : ZT} (hi : injZ 68 Z) (d : Nat) (d1 : Nat) (hd : d < 5) (hd1 : d1 < 5) (S : St) (k : St → Prop) (h : q_X1_become d d1 S k) : Mv l shX 68 Z (gX Z) yX1_become cX1_become 2 none (rmk 2 61) [.ref (Z.2.2.1 (33 + 7 * d)), .ref (Z.2.2.1 (33 + 7 * d1))] S k := by
  have g := gokX hi
  refine e_v (by decide) (Nat.le_of_ble_eq_true rfl) (lv := [(0, .ref (Z.2.2.1 (33 + 7 * d))), (1, .ref (Z.2.2.1 (33 + 7 * d1)))]) rfl (fun p e s m args below meth c C hP hS ls hl => ?_)
  have hx := C.1.1
  have hb := C.1.2.1
  unfold q_X1_become at h
  refine lv_aload_n hx hb dX1_become_0 rfl (lv_at hl 0 rfl) ?_
  refine lv_aload_n hx hb dX1_become_1 rfl (lv_at hl 1 rfl) ?_
  refine go_v (run_V g C hP hS (c0 := (33 + 7 * d)) (As := [.ref (Z.2.2.1 (33 + 7 * d1))]) (rest := []) (c_X1_resume hi d d1 hd hd1 S _ h) cal_X1_resume kML_X1_46 (ltX_day (d := d) hd) (shX_day (d := d) hd) cfX1 ⟨rfl, rfl, Nat.le_of_ble_eq_true rfl, Nat.le_of_ble_eq_true rfl⟩ rfl rfl hl.1 (Nat.le_of_ble_eq_true rfl) dX1_become_2) hS (fun S_1 H locs h hP hS => ?_)
  refine lv_aload_n hx hb dX1_become_5 rfl (lv_at hl 0 rfl) ?_
  refine lv_aload_n hx hb dX1_become_6 rfl (lv_at hl 1 rfl) ?_
  refine s_gI g C hP (33 + 7 * d1) 2 (ltX_day (d := d1) hd1) (shX_day (d := d1) hd1) rfl cfX1 (by decide) kFL_X1_50 dX1_become_7 ?_
  refine s_pI g C hP hS (33 + 7 * d) 2 (ltX_day (d := d) hd) (shX_day (d := d) hd) rfl cfX1 (by decide) rfl rfl rfl kFL_X1_50 dX1_become_10 (fun H locs hP hS => ?_)
  obtain ⟨S_2, eS_2⟩ : ∃ z_ : St, z_ = sI S_1 (33 + 7 * d) 2 (S_1.1 (33 + 7 * d1) 2) := ⟨_, rfl⟩
  rw [← eS_2] at hP
  have h := h S_2 eS_2
  refine lv_aload_n hx hb dX1_become_13 rfl (lv_at hl 0 rfl) ?_
  refine lv_aload_n hx hb dX1_become_14 rfl (lv_at hl 1 rfl) ?_
  refine s_gI g C hP (33 + 7 * d1) 3 (ltX_day (d := d1) hd1) (shX_day (d := d1) hd1) rfl cfX1 (by decide) kFL_X1_53 dX1_become_15 ?_
  refine s_pI g C hP hS (33 + 7 * d) 3 (ltX_day (d := d) hd) (shX_day (d := d) hd) rfl cfX1 (by decide) rfl rfl rfl kFL_X1_53 dX1_become_18 (fun H locs hP hS => ?_)
  obtain ⟨S_3, eS_3⟩ : ∃ z_ : St, z_ = sI S_2 (33 + 7 * d) 3 (S_2.1 (33 + 7 * d1) 3) := ⟨_, rfl⟩
  rw [← eS_3] at hP
  have h := h S_3 eS_3
  refine lv_aload_n hx hb dX1_become_21 rfl (lv_at hl 0 rfl) ?_
  refine lv_aload_n hx hb dX1_become_22 rfl (lv_at hl 1 rfl) ?_
  refine s_gI g C hP (33 + 7 * d1) 4 (ltX_day (d := d1) hd1) (shX_day (d := d1) hd1) rfl cfX1 (by decide) kFL_X1_56 dX1_become_23 ?_
  refine s_pI g C hP hS (33 + 7 * d) 4 (ltX_day (d := d) hd) (shX_day (d := d) hd) rfl cfX1 (by decide) rfl rfl rfl kFL_X1_56 dX1_become_26 (fun H locs hP hS => ?_)
  obtain ⟨S_4, eS_4⟩ : ∃ z_ : St, z_ = sI S_3 (33 + 7 * d) 4 (S_3.1 (33 + 7 * d1) 4) := ⟨_, rfl⟩
  rw [← eS_4] at hP
  have h := h S_4 eS_4
  refine lv_aload_n hx hb dX1_become_29 rfl (lv_at hl 1 rfl) ?_
  refine s_gR g C hP (33 + 7 * d1) 5 (33 + 7 * d1 + 1) (ltX_day (d := d1) hd1) (shX_day (d := d1) hd1) rfl cfX1 (by decide) kFL_X1_9 dX1_become_30 ?_
  refine lv_iconst (v := (nI 0)) hx hb dX1_become_33 (by decide) ?_
  refine lv_aload_n hx hb dX1_become_34 rfl (lv_at hl 0 rfl) ?_
  refine s_gR g C hP (33 + 7 * d) 5 (33 + 7 * d + 1) (ltX_day (d := d) hd) (shX_day (d := d) hd) rfl cfX1 (by decide) kFL_X1_9 dX1_become_35 ?_
  refine lv_iconst (v := (nI 0)) hx hb dX1_become_38 (by decide) ?_
  refine lv_bipush (v := (nI 6)) hx hb dX1_become_39 (by decide) ?_
  refine s_cpI g C hP hS hl.1 kML_X1_59 (33 + 7 * d1 + 1) (33 + 7 * d + 1) (ltX_day1 (d := d1) hd1) (ltX_day1 (d := d) hd) (shX_day1 (d := d1) hd1) (shX_day1 (d := d) hd) (by decide) (by decide) (by decide) ⟨Nat.le_of_ble_eq_true rfl, Nat.le_of_ble_eq_true rfl⟩ dX1_become_41 (fun H locs hP hS => ?_)
  obtain ⟨S_5, eS_5⟩ : ∃ z_ : St, z_ = sF S_4 (33 + 7 * d + 1) (va_cpy (S_4.1 (33 + 7 * d1 + 1)) (S_4.1 (33 + 7 * d + 1)) 0 0 (nI 6).toNatClampNeg) := ⟨_, rfl⟩
  rw [← eS_5] at hP
  have h := h S_5 eS_5
  refine lv_aload_n hx hb dX1_become_44 rfl (lv_at hl 1 rfl) ?_
  refine s_gR g C hP (33 + 7 * d1) 6 (33 + 7 * d1 + 2) (ltX_day (d := d1) hd1) (shX_day (d := d1) hd1) rfl cfX1 (by decide) kFL_X1_15 dX1_become_45 ?_
  refine lv_iconst (v := (nI 0)) hx hb dX1_become_48 (by decide) ?_
  refine lv_aload_n hx hb dX1_become_49 rfl (lv_at hl 0 rfl) ?_
  refine s_gR g C hP (33 + 7 * d) 6 (33 + 7 * d + 2) (ltX_day (d := d) hd) (shX_day (d := d) hd) rfl cfX1 (by decide) kFL_X1_15 dX1_become_50 ?_
  refine lv_iconst (v := (nI 0)) hx hb dX1_become_53 (by decide) ?_
  refine lv_bipush (v := (nI 6)) hx hb dX1_become_54 (by decide) ?_
  refine s_cpI g C hP hS hl.1 kML_X1_59 (33 + 7 * d1 + 2) (33 + 7 * d + 2) (ltX_day2 (d := d1) hd1) (ltX_day2 (d := d) hd) (shX_day2 (d := d1) hd1) (shX_day2 (d := d) hd) (by decide) (by decide) (by decide) ⟨Nat.le_of_ble_eq_true rfl, Nat.le_of_ble_eq_true rfl⟩ dX1_become_56 (fun H locs hP hS => ?_)
  obtain ⟨S_6, eS_6⟩ : ∃ z_ : St, z_ = sF S_5 (33 + 7 * d + 2) (va_cpy (S_5.1 (33 + 7 * d1 + 2)) (S_5.1 (33 + 7 * d + 2)) 0 0 (nI 6).toNatClampNeg) := ⟨_, rfl⟩
  rw [← eS_6] at hP
  have h := h S_6 eS_6
  refine lv_aload_n hx hb dX1_become_59 rfl (lv_at hl 1 rfl) ?_
  refine s_gR g C hP (33 + 7 * d1) 7 (33 + 7 * d1 + 3) (ltX_day (d := d1) hd1) (shX_day (d := d1) hd1) rfl cfX1 (by decide) kFL_X1_18 dX1_become_60 ?_
  refine lv_iconst (v := (nI 0)) hx hb dX1_become_63 (by decide) ?_
  refine lv_aload_n hx hb dX1_become_64 rfl (lv_at hl 0 rfl) ?_
  refine s_gR g C hP (33 + 7 * d) 7 (33 + 7 * d + 3) (ltX_day (d := d) hd) (shX_day (d := d) hd) rfl cfX1 (by decide) kFL_X1_18 dX1_become_65 ?_
  refine lv_iconst (v := (nI 0)) hx hb dX1_become_68 (by decide) ?_
  refine lv_bipush (v := (nI 6)) hx hb dX1_become_69 (by decide) ?_
  refine s_cpI g C hP hS hl.1 kML_X1_59 (33 + 7 * d1 + 3) (33 + 7 * d + 3) (ltX_day3 (d := d1) hd1) (ltX_day3 (d := d) hd) (shX_day3 (d := d1) hd1) (shX_day3 (d := d) hd) (by decide) (by decide) (by decide) ⟨Nat.le_of_ble_eq_true rfl, Nat.le_of_ble_eq_true rfl⟩ dX1_become_71 (fun H locs hP hS => ?_)
  obtain ⟨S_7, eS_7⟩ : ∃ z_ : St, z_ = sF S_6 (33 + 7 * d + 3) (va_cpy (S_6.1 (33 + 7 * d1 + 3)) (S_6.1 (33 + 7 * d + 3)) 0 0 (nI 6).toNatClampNeg) := ⟨_, rfl⟩
  rw [← eS_7] at hP
  have h := h S_7 eS_7
  refine lv_aload_n hx hb dX1_become_74 rfl (lv_at hl 1 rfl) ?_
  refine s_gR g C hP (33 + 7 * d1) 8 (33 + 7 * d1 + 4) (ltX_day (d := d1) hd1) (shX_day (d := d1) hd1) rfl cfX1 (by decide) kFL_X1_21 dX1_become_75 ?_
  refine lv_iconst (v := (nI 0)) hx hb dX1_become_78 (by decide) ?_
  refine lv_aload_n hx hb dX1_become_79 rfl (lv_at hl 0 rfl) ?_
  refine s_gR g C hP (33 + 7 * d) 8 (33 + 7 * d + 4) (ltX_day (d := d) hd) (shX_day (d := d) hd) rfl cfX1 (by decide) kFL_X1_21 dX1_become_80 ?_
  refine lv_iconst (v := (nI 0)) hx hb dX1_become_83 (by decide) ?_
  refine lv_bipush (v := (nI 6)) hx hb dX1_become_84 (by decide) ?_
  refine s_cpI g C hP hS hl.1 kML_X1_59 (33 + 7 * d1 + 4) (33 + 7 * d + 4) (ltX_day4 (d := d1) hd1) (ltX_day4 (d := d) hd) (shX_day4 (d := d1) hd1) (shX_day4 (d := d) hd) (by decide) (by decide) (by decide) ⟨Nat.le_of_ble_eq_true rfl, Nat.le_of_ble_eq_true rfl⟩ dX1_become_86 (fun H locs hP hS => ?_)
  obtain ⟨S_8, eS_8⟩ : ∃ z_ : St, z_ = sF S_7 (33 + 7 * d + 4) (va_cpy (S_7.1 (33 + 7 * d1 + 4)) (S_7.1 (33 + 7 * d + 4)) 0 0 (nI 6).toNatClampNeg) := ⟨_, rfl⟩
  rw [← eS_8] at hP
  have h := h S_8 eS_8
  refine lv_aload_n hx hb dX1_become_89 rfl (lv_at hl 1 rfl) ?_
  refine s_gR g C hP (33 + 7 * d1) 10 (33 + 7 * d1 + 6) (ltX_day (d := d1) hd1) (shX_day (d := d1) hd1) rfl cfX1 (by decide) kFL_X1_27 dX1_become_90 ?_
  refine lv_iconst (v := (nI 0)) hx hb dX1_become_93 (by decide) ?_
  refine lv_aload_n hx hb dX1_become_94 rfl (lv_at hl 0 rfl) ?_
  refine s_gR g C hP (33 + 7 * d) 10 (33 + 7 * d + 6) (ltX_day (d := d) hd) (shX_day (d := d) hd) rfl cfX1 (by decide) kFL_X1_27 dX1_become_95 ?_
  refine lv_iconst (v := (nI 0)) hx hb dX1_become_98 (by decide) ?_
  refine lv_sipush (v := (nI 288)) hx hb dX1_become_99 (by decide) ?_
  refine s_cpI g C hP hS hl.1 kML_X1_59 (33 + 7 * d1 + 6) (33 + 7 * d + 6) (ltX_day6 (d := d1) hd1) (ltX_day6 (d := d) hd) (shX_day6 (d := d1) hd1) (shX_day6 (d := d) hd) (by decide) (by decide) (by decide) ⟨Nat.le_of_ble_eq_true rfl, Nat.le_of_ble_eq_true rfl⟩ dX1_become_102 (fun H locs hP hS => ?_)
  obtain ⟨S_9, eS_9⟩ : ∃ z_ : St, z_ = sF S_8 (33 + 7 * d + 6) (va_cpy (S_8.1 (33 + 7 * d1 + 6)) (S_8.1 (33 + 7 * d + 6)) 0 0 (nI 288).toNatClampNeg) := ⟨_, rfl⟩
  rw [← eS_9] at hP
  have h := h S_9 eS_9
  exact s_rv C hP hS h dX1_become_105
def q_X1_risen_101 (d : Nat) (S : St) (k : Int32 → Prop) (e_18 : Int32 → Int32 → Int32 → Int32 → Prop) (x3 : Int32) (x4 : Int32) (x5 : Int32) (x6 : Int32) : Prop := ∀ x6_1 : Int32, x6_1 = x6 + (nI 1) → (e_18 x3 x4 x5 x6_1)
set_option maxRecDepth 100000 in
set_option maxHeartbeats 4000000 in
theorem b_X1_risen_101 {p : Program} {l : Launch} {e : Env} {s : State} {m : MethodId} {args : Array Value} {below : List Frame} {meth : Method} {c : Code} {Z : ZT} (hi : injZ 68 Z) (C : Cxt (gX Z) p s m meth c args yX1_risen cX1_risen 8 (Option.some .int)) {d : Nat} {S : St} {k : Int32 → Prop} {e_18 : Int32 → Int32 → Int32 → Int32 → Prop} (hd : d < 5) (he_18 : ∀ (x3 : Int32) (x4 : Int32) (x5 : Int32) (x6 : Int32) (H : Heap) (locs : List Loc) (ls : Array Slot), va_P Z.1 vwCl (wl shX 68 Z S) H → va_S (aa 68 Z) s.heap H locs → lv_has ls 8 [(0, .ref (Z.2.2.1 (33 + 7 * d))), (1, .ref (Z.2.2.1 4)), (2, .ref (Z.2.2.1 19)), (3, .int x3), (4, .int x4), (5, .int x5), (6, .int x6)] → e_18 x3 x4 x5 x6 → W p l e (rmk 2 45) s m args below meth c H locs 0 0 (Qi below shX 68 Z args s (fun r S' => S' = S ∧ k r)) (F0 m 18 ls [])) (x3 : Int32) (x4 : Int32) (x5 : Int32) (x6 : Int32) (H : Heap) (locs : List Loc) (ls : Array Slot) (hP : va_P Z.1 vwCl (wl shX 68 Z S) H) (hS : va_S (aa 68 Z) s.heap H locs) (hl : lv_has ls 8 [(0, .ref (Z.2.2.1 (33 + 7 * d))), (1, .ref (Z.2.2.1 4)), (2, .ref (Z.2.2.1 19)), (3, .int x3), (4, .int x4), (5, .int x5), (6, .int x6)]) (h : q_X1_risen_101 d S k e_18 x3 x4 x5 x6) : W p l e (rmk 2 45) s m args below meth c H locs 0 0 (Qi below shX 68 Z args s (fun r S' => S' = S ∧ k r)) (F0 m 101 ls []) := by
  have g := gokX hi
  have hx := C.1.1
  have hb := C.1.2.1
  unfold q_X1_risen_101 at h
  obtain ⟨x6_1, ex6_1⟩ : ∃ y_ : Int32, y_ = x6 + (nI 1) := ⟨_, rfl⟩
  have h := h x6_1 ex6_1
  refine lv_iinc (v := x6_1) (lv' := [(6, .int x6_1), (0, .ref (Z.2.2.1 (33 + 7 * d))), (1, .ref (Z.2.2.1 4)), (2, .ref (Z.2.2.1 19)), (3, .int x3), (4, .int x4), (5, .int x5)]) hx hb dX1_risen_101 hl (k := 6) rfl (by rw [ex6_1]; rfl) (by decide) rfl (fun ls hl => ?_)
  refine lv_goto (tgt := 18) hx hb dX1_risen_104 (by decide) ?_
  exact he_18 _ _ _ _ _ _ _ hP hS (lv_sub hl [1, 2, 3, 4, 5, 6, 0] rfl) h
def q_X1_risen_64 (d : Nat) (S : St) (k : Int32 → Prop) (e_18 : Int32 → Int32 → Int32 → Int32 → Prop) (x3 : Int32) (x4 : Int32) (x5 : Int32) (x6 : Int32) : Prop := vp_in x6 6 ∧ (∀ x7_2 : Int32, x7_2 = (x5 + (S.1 (9 + x6.toNatClampNeg) 3)) → (((S.1 4 5) < x7_2 → (q_X1_risen_101 d S k e_18 x3 x4 x5 x6)) ∧ (¬ (S.1 4 5) < x7_2 → (∀ x4_4 : Int32, x4_4 = (x4 ||| ((nI 1) <<< (x6 &&& 31))) → (q_X1_risen_101 d S k e_18 x3 x4_4 x7_2 x6)))))
set_option maxRecDepth 100000 in
set_option maxHeartbeats 4000000 in
theorem b_X1_risen_64 {p : Program} {l : Launch} {e : Env} {s : State} {m : MethodId} {args : Array Value} {below : List Frame} {meth : Method} {c : Code} {Z : ZT} (hi : injZ 68 Z) (C : Cxt (gX Z) p s m meth c args yX1_risen cX1_risen 8 (Option.some .int)) {d : Nat} {S : St} {k : Int32 → Prop} {e_18 : Int32 → Int32 → Int32 → Int32 → Prop} (hd : d < 5) (he_18 : ∀ (x3 : Int32) (x4 : Int32) (x5 : Int32) (x6 : Int32) (H : Heap) (locs : List Loc) (ls : Array Slot), va_P Z.1 vwCl (wl shX 68 Z S) H → va_S (aa 68 Z) s.heap H locs → lv_has ls 8 [(0, .ref (Z.2.2.1 (33 + 7 * d))), (1, .ref (Z.2.2.1 4)), (2, .ref (Z.2.2.1 19)), (3, .int x3), (4, .int x4), (5, .int x5), (6, .int x6)] → e_18 x3 x4 x5 x6 → W p l e (rmk 2 45) s m args below meth c H locs 0 0 (Qi below shX 68 Z args s (fun r S' => S' = S ∧ k r)) (F0 m 18 ls [])) (x3 : Int32) (x4 : Int32) (x5 : Int32) (x6 : Int32) (H : Heap) (locs : List Loc) (ls : Array Slot) (hP : va_P Z.1 vwCl (wl shX 68 Z S) H) (hS : va_S (aa 68 Z) s.heap H locs) (hl : lv_has ls 8 [(0, .ref (Z.2.2.1 (33 + 7 * d))), (1, .ref (Z.2.2.1 4)), (2, .ref (Z.2.2.1 19)), (3, .int x3), (4, .int x4), (5, .int x5), (6, .int x6)]) (h : q_X1_risen_64 d S k e_18 x3 x4 x5 x6) : W p l e (rmk 2 45) s m args below meth c H locs 0 0 (Qi below shX 68 Z args s (fun r S' => S' = S ∧ k r)) (F0 m 64 ls []) := by
  have g := gokX hi
  have hx := C.1.1
  have hb := C.1.2.1
  unfold q_X1_risen_64 at h
  refine lv_iload hx hb dX1_risen_64 (lv_at hl 5 rfl) ?_
  refine lv_aload_n hx hb dX1_risen_66 rfl (lv_at hl 1 rfl) ?_
  refine s_gR g C hP 4 0 5 (by decide) rfl rfl cfX4 (by decide) kFL_X1_96 dX1_risen_67 ?_
  refine lv_iload hx hb dX1_risen_70 (lv_at hl 6 rfl) ?_
  have hv_1 := h.1
  have h := h.2
  refine s_aR g C hP 5 (t := 0) (by decide) rfl rfl hv_1 dX1_risen_72 ?_
  refine s_gI g C hP (9 + x6.toNatClampNeg) 3 (ltX_kite (vin_lt hv_1)) (shX_kite (vin_lt hv_1)) rfl cfX2 (by decide) kFL_X1_100 dX1_risen_73 ?_
  refine lv_iadd hx hb dX1_risen_76 ?_
  refine lv_topi (fun x7_2 ex7_2 => ?_)
  have h := h x7_2 ex7_2
  refine lv_istore (lv' := [(7, .int x7_2), (0, .ref (Z.2.2.1 (33 + 7 * d))), (1, .ref (Z.2.2.1 4)), (2, .ref (Z.2.2.1 19)), (3, .int x3), (4, .int x4), (5, .int x5), (6, .int x6)]) hx hb dX1_risen_77 hl (by decide) rfl (fun ls hl => ?_)
  refine lv_iload hx hb dX1_risen_79 (lv_at hl 0 rfl) ?_
  refine lv_aload_n hx hb dX1_risen_81 rfl (lv_at hl 2 rfl) ?_
  refine s_gI g C hP 4 5 (by decide) rfl rfl cfX4 (by decide) kFL_X1_105 dX1_risen_82 ?_
  refine lv_icmp_gt (tgt := 101) hx hb dX1_risen_85 (by decide) (fun c_3 => ?_) (fun c_3 => ?_)
  · have h := h.1 c_3
    exact b_X1_risen_101 hi C hd he_18 _ _ _ _ _ _ _ hP hS (lv_sub hl [1, 2, 3, 4, 5, 6, 7] rfl) h
  · have h := h.2 c_3
    refine lv_iload hx hb dX1_risen_88 (lv_at hl 0 rfl) ?_
    refine lv_istore (lv' := [(5, .int x7_2), (7, .int x7_2), (0, .ref (Z.2.2.1 (33 + 7 * d))), (1, .ref (Z.2.2.1 4)), (2, .ref (Z.2.2.1 19)), (3, .int x3), (4, .int x4), (6, .int x6)]) hx hb dX1_risen_90 hl (by decide) rfl (fun ls hl => ?_)
    refine lv_iload hx hb dX1_risen_92 (lv_at hl 6 rfl) ?_
    refine lv_iconst (v := (nI 1)) hx hb dX1_risen_94 (by decide) ?_
    refine lv_iload hx hb dX1_risen_95 (lv_at hl 7 rfl) ?_
    refine lv_ishl hx hb dX1_risen_97 ?_
    refine lv_ior hx hb dX1_risen_98 ?_
    refine lv_topi (fun x4_4 ex4_4 => ?_)
    have h := h x4_4 ex4_4
    refine lv_istore (lv' := [(4, .int x4_4), (5, .int x7_2), (7, .int x7_2), (0, .ref (Z.2.2.1 (33 + 7 * d))), (1, .ref (Z.2.2.1 4)), (2, .ref (Z.2.2.1 19)), (3, .int x3), (6, .int x6)]) hx hb dX1_risen_99 hl (by decide) rfl (fun ls hl => ?_)
    exact b_X1_risen_101 hi C hd he_18 _ _ _ _ _ _ _ hP hS (lv_sub hl [3, 4, 5, 6, 0, 1, 7] rfl) h
def q_X1_risen_18 (d : Nat) (S : St) (k : Int32 → Prop) : Nat → Int32 → Int32 → Int32 → Int32 → Prop := fun n_ => Nat.rec (motive := fun _ => Int32 → Int32 → Int32 → Int32 → Prop) (fun _ _ _ _ => False) (fun _ ih => fun x3 x4 x5 x6 => ((nI 6) ≤ x6 → (k x4)) ∧ (¬ (nI 6) ≤ x6 → (vp_in x6 6 ∧ (q_X0_isFree S x6 (S.1 (33 + 7 * d + 1) x6.toNatClampNeg) (S.1 (33 + 7 * d) 0) (fun r_3 => ((r_3 = (nI 0) → (q_X1_risen_101 d S k ih x3 x4 x5 x6)) ∧ (¬ r_3 = (nI 0) → ((x3 = (nI 0) → (q_X1_risen_64 d S k ih x3 x4 x5 x6)) ∧ (¬ x3 = (nI 0) → (q_X8_isIn S (S.1 (33 + 7 * d) 1) x6 (fun r_6 => ((r_6 = (nI 0) → (q_X1_risen_101 d S k ih x3 x4 x5 x6)) ∧ (¬ r_6 = (nI 0) → (q_X1_risen_64 d S k ih x3 x4 x5 x6)))))))))))))) n_
theorem q_X1_risen_18_s (d : Nat) (S : St) (k : Int32 → Prop) (n_ : Nat) (x3 : Int32) (x4 : Int32) (x5 : Int32) (x6 : Int32) : q_X1_risen_18 d S k (n_ + 1) x3 x4 x5 x6 = (((nI 6) ≤ x6 → (k x4)) ∧ (¬ (nI 6) ≤ x6 → (vp_in x6 6 ∧ (q_X0_isFree S x6 (S.1 (33 + 7 * d + 1) x6.toNatClampNeg) (S.1 (33 + 7 * d) 0) (fun r_3 => ((r_3 = (nI 0) → (q_X1_risen_101 d S k (q_X1_risen_18 d S k n_) x3 x4 x5 x6)) ∧ (¬ r_3 = (nI 0) → ((x3 = (nI 0) → (q_X1_risen_64 d S k (q_X1_risen_18 d S k n_) x3 x4 x5 x6)) ∧ (¬ x3 = (nI 0) → (q_X8_isIn S (S.1 (33 + 7 * d) 1) x6 (fun r_6 => ((r_6 = (nI 0) → (q_X1_risen_101 d S k (q_X1_risen_18 d S k n_) x3 x4 x5 x6)) ∧ (¬ r_6 = (nI 0) → (q_X1_risen_64 d S k (q_X1_risen_18 d S k n_) x3 x4 x5 x6)))))))))))))) := rfl
set_option maxRecDepth 100000 in
set_option maxHeartbeats 4000000 in
theorem b_X1_risen_18 {p : Program} {l : Launch} {e : Env} {s : State} {m : MethodId} {args : Array Value} {below : List Frame} {meth : Method} {c : Code} {Z : ZT} (hi : injZ 68 Z) (C : Cxt (gX Z) p s m meth c args yX1_risen cX1_risen 8 (Option.some .int)) {d : Nat} {S : St} {k : Int32 → Prop} (hd : d < 5)  : ∀ (n_ : Nat) (x3 : Int32) (x4 : Int32) (x5 : Int32) (x6 : Int32) (H : Heap) (locs : List Loc) (ls : Array Slot), va_P Z.1 vwCl (wl shX 68 Z S) H → va_S (aa 68 Z) s.heap H locs → lv_has ls 8 [(0, .ref (Z.2.2.1 (33 + 7 * d))), (1, .ref (Z.2.2.1 4)), (2, .ref (Z.2.2.1 19)), (3, .int x3), (4, .int x4), (5, .int x5), (6, .int x6)] → q_X1_risen_18 d S k n_ x3 x4 x5 x6 → W p l e (rmk 2 45) s m args below meth c H locs 0 0 (Qi below shX 68 Z args s (fun r S' => S' = S ∧ k r)) (F0 m 18 ls []) := by
  have g := gokX hi
  have hx := C.1.1
  have hb := C.1.2.1
  intro n_
  induction n_ with
  | zero => intro x3 x4 x5 x6 H locs ls hP hS hl h; exact h.elim
  | succ n_ ih =>
    intro x3 x4 x5 x6 H locs ls hP hS hl h
    rw [q_X1_risen_18_s] at h
    refine lv_iload hx hb dX1_risen_18 (lv_at hl 6 rfl) ?_
    refine lv_bipush (v := (nI 6)) hx hb dX1_risen_20 (by decide) ?_
    refine lv_icmp_ge (tgt := 107) hx hb dX1_risen_22 (by decide) (fun c_1 => ?_) (fun c_1 => ?_)
    · have h := h.1 c_1
      refine lv_iload hx hb dX1_risen_107 (lv_at hl 4 rfl) ?_
      exact s_ri C hP hS ⟨rfl, h⟩ dX1_risen_109
    · have h := h.2 c_1
      refine lv_aload_n hx hb dX1_risen_25 rfl (lv_at hl 2 rfl) ?_
      refine lv_iload hx hb dX1_risen_26 (lv_at hl 6 rfl) ?_
      refine lv_aload_n hx hb dX1_risen_28 rfl (lv_at hl 0 rfl) ?_
      refine s_gR g C hP (33 + 7 * d) 5 (33 + 7 * d + 1) (ltX_day (d := d) hd) (shX_day (d := d) hd) rfl cfX1 (by decide) kFL_X1_9 dX1_risen_29 ?_
      refine lv_iload hx hb dX1_risen_32 (lv_at hl 6 rfl) ?_
      have hv_2 := h.1
      have h := h.2
      refine s_aI g C hP (33 + 7 * d + 1) (ltX_day1 (d := d) hd) (shX_day1 (d := d) hd) hv_2 dX1_risen_34 ?_
      refine lv_aload_n hx hb dX1_risen_35 rfl (lv_at hl 0 rfl) ?_
      refine s_gI g C hP (33 + 7 * d) 0 (ltX_day (d := d) hd) (shX_day (d := d) hd) rfl cfX1 (by decide) kFL_X1_65 dX1_risen_36 ?_
      refine go_ip (run_V g C hP hS (c0 := 19) (As := [.int x6, .int (S.1 (33 + 7 * d + 1) x6.toNatClampNeg), .int (S.1 (33 + 7 * d) 0)]) (rest := []) (c_X0_isFree hi S x6 (S.1 (33 + 7 * d + 1) x6.toNatClampNeg) (S.1 (33 + 7 * d) 0) _ h) cal_X0_isFree kML_X1_90 (by decide) rfl cfX0 ⟨rfl, rfl, Nat.le_of_ble_eq_true rfl, Nat.le_of_ble_eq_true rfl⟩ rfl rfl hl.1 (Nat.le_of_ble_eq_true rfl) dX1_risen_39) hS (fun r_3 H locs h hP hS => ?_)
      obtain ⟨hbr_3, h⟩ := h
      refine lv_if_eq (tgt := 101) hx hb dX1_risen_42 (by decide) (fun c_4 => ?_) (fun c_4 => ?_)
      · have h := h.1 c_4
        exact b_X1_risen_101 hi C hd ih _ _ _ _ _ _ _ hP hS (lv_sub hl [0, 1, 2, 3, 4, 5, 6] rfl) h
      · have h := h.2 c_4
        refine lv_iload_n hx hb dX1_risen_45 rfl (lv_at hl 3 rfl) ?_
        refine lv_if_eq (tgt := 64) hx hb dX1_risen_46 (by decide) (fun c_5 => ?_) (fun c_5 => ?_)
        · have h := h.1 c_5
          exact b_X1_risen_64 hi C hd ih _ _ _ _ _ _ _ hP hS (lv_sub hl [0, 1, 2, 3, 4, 5, 6] rfl) h
        · have h := h.2 c_5
          refine lv_aload_n hx hb dX1_risen_49 rfl (lv_at hl 0 rfl) ?_
          refine s_gI g C hP (33 + 7 * d) 1 (ltX_day (d := d) hd) (shX_day (d := d) hd) rfl cfX1 (by decide) kFL_X1_68 dX1_risen_50 ?_
          refine lv_iload hx hb dX1_risen_53 (lv_at hl 6 rfl) ?_
          refine go_ip (run_SN g C hP hS (As := [.int (S.1 (33 + 7 * d) 1), .int x6]) (rest := []) (c_X8_isIn hi S (S.1 (33 + 7 * d) 1) x6 _ h) cal_X8_isIn (nstX C.2.2.2 13 rfl) ⟨rfl, rfl, Nat.le_of_ble_eq_true rfl, Nat.le_of_ble_eq_true rfl⟩ rfl rfl hl.1 (Nat.le_of_ble_eq_true rfl) dX1_risen_55) hS (fun r_6 H locs h hP hS => ?_)
          obtain ⟨hbr_6, h⟩ := h
          refine lv_if_ne (tgt := 64) hx hb dX1_risen_58 (by decide) (fun c_7 => ?_) (fun c_7 => ?_)
          · have h := h.2 c_7
            exact b_X1_risen_64 hi C hd ih _ _ _ _ _ _ _ hP hS (lv_sub hl [0, 1, 2, 3, 4, 5, 6] rfl) h
          · have h := h.1 c_7
            refine lv_goto (tgt := 101) hx hb dX1_risen_61 (by decide) ?_
            exact b_X1_risen_101 hi C hd ih _ _ _ _ _ _ _ hP hS (lv_sub hl [0, 1, 2, 3, 4, 5, 6] rfl) h
def q_X1_risen (d : Nat) (S : St) (k : Int32 → Prop) : Prop := q_X4_isFoggy S (S.1 (33 + 7 * d) 0) (fun r_1 => (∃ f_18, q_X1_risen_18 d S k f_18 r_1 (nI 0) (nI 0) (nI 0)))
set_option maxRecDepth 100000 in
set_option maxHeartbeats 4000000 in
theorem c_X1_risen {l : Launch} {Z : ZT} (hi : injZ 68 Z) (d : Nat) (hd : d < 5) (S : St) (k : Int32 → Prop) (h : q_X1_risen d S k) : Mi l shX 68 Z (gX Z) yX1_risen cX1_risen 8 (Option.some .int) (rmk 2 45) [.ref (Z.2.2.1 (33 + 7 * d)), .ref (Z.2.2.1 4), .ref (Z.2.2.1 19)] S (fun r S' => S' = S ∧ k r) := by
  have g := gokX hi
  refine e_i (by decide) (Nat.le_of_ble_eq_true rfl) (lv := [(0, .ref (Z.2.2.1 (33 + 7 * d))), (1, .ref (Z.2.2.1 4)), (2, .ref (Z.2.2.1 19))]) rfl (fun p e s m args below meth c C hP hS ls hl => ?_)
  have hx := C.1.1
  have hb := C.1.2.1
  unfold q_X1_risen at h
  refine lv_aload_n hx hb dX1_risen_0 rfl (lv_at hl 1 rfl) ?_
  refine lv_aload_n hx hb dX1_risen_1 rfl (lv_at hl 0 rfl) ?_
  refine s_gI g C hP (33 + 7 * d) 0 (ltX_day (d := d) hd) (shX_day (d := d) hd) rfl cfX1 (by decide) kFL_X1_65 dX1_risen_2 ?_
  refine go_ip (run_V g C hP hS (c0 := 4) (As := [.int (S.1 (33 + 7 * d) 0)]) (rest := []) (c_X4_isFoggy hi S (S.1 (33 + 7 * d) 0) _ h) cal_X4_isFoggy kML_X1_87 (by decide) rfl cfX4 ⟨rfl, rfl, Nat.le_of_ble_eq_true rfl, Nat.le_of_ble_eq_true rfl⟩ rfl rfl hl.1 (Nat.le_of_ble_eq_true rfl) dX1_risen_5) hS (fun r_1 H locs h hP hS => ?_)
  obtain ⟨hbr_1, h⟩ := h
  refine lv_istore_n (lv' := [(3, .int r_1), (0, .ref (Z.2.2.1 (33 + 7 * d))), (1, .ref (Z.2.2.1 4)), (2, .ref (Z.2.2.1 19))]) hx hb dX1_risen_8 rfl hl (by decide) rfl (fun ls hl => ?_)
  refine lv_iconst (v := (nI 0)) hx hb dX1_risen_9 (by decide) ?_
  refine lv_istore (lv' := [(4, .int (nI 0)), (3, .int r_1), (0, .ref (Z.2.2.1 (33 + 7 * d))), (1, .ref (Z.2.2.1 4)), (2, .ref (Z.2.2.1 19))]) hx hb dX1_risen_10 hl (by decide) rfl (fun ls hl => ?_)
  refine lv_iconst (v := (nI 0)) hx hb dX1_risen_12 (by decide) ?_
  refine lv_istore (lv' := [(5, .int (nI 0)), (4, .int (nI 0)), (3, .int r_1), (0, .ref (Z.2.2.1 (33 + 7 * d))), (1, .ref (Z.2.2.1 4)), (2, .ref (Z.2.2.1 19))]) hx hb dX1_risen_13 hl (by decide) rfl (fun ls hl => ?_)
  refine lv_iconst (v := (nI 0)) hx hb dX1_risen_15 (by decide) ?_
  refine lv_istore (lv' := [(6, .int (nI 0)), (5, .int (nI 0)), (4, .int (nI 0)), (3, .int r_1), (0, .ref (Z.2.2.1 (33 + 7 * d))), (1, .ref (Z.2.2.1 4)), (2, .ref (Z.2.2.1 19))]) hx hb dX1_risen_16 hl (by decide) rfl (fun ls hl => ?_)
  obtain ⟨f_18, h⟩ := h
  exact b_X1_risen_18 hi C hd f_18 _ _ _ _ _ _ _ hP hS (lv_sub hl [4, 5, 6, 3, 2, 1, 0] rfl) h
def q_X1_untangled_166 (d : Nat) (a1 : Int32) (a4 : Int32) (k : Int32 → St → Prop) (e_6 : St → Int32 → Int32 → Prop) (S : St) (x5 : Int32) (x6 : Int32) : Prop := ∀ x6_1 : Int32, x6_1 = x6 + (nI 1) → (e_6 S x5 x6_1)
set_option maxRecDepth 100000 in
set_option maxHeartbeats 4000000 in
theorem b_X1_untangled_166 {p : Program} {l : Launch} {e : Env} {s : State} {m : MethodId} {args : Array Value} {below : List Frame} {meth : Method} {c : Code} {Z : ZT} (hi : injZ 68 Z) (C : Cxt (gX Z) p s m meth c args yX1_untangled cX1_untangled 11 (Option.some .int)) {d : Nat} {a1 : Int32} {a4 : Int32} {k : Int32 → St → Prop} {e_6 : St → Int32 → Int32 → Prop} (hd : d < 5) (he_6 : ∀ (S : St) (x5 : Int32) (x6 : Int32) (H : Heap) (locs : List Loc) (ls : Array Slot), va_P Z.1 vwCl (wl shX 68 Z S) H → va_S (aa 68 Z) s.heap H locs → lv_has ls 11 [(0, .ref (Z.2.2.1 (33 + 7 * d))), (2, .ref (Z.2.2.1 4)), (3, .ref (Z.2.2.1 19)), (4, .int a4), (5, .int x5), (6, .int x6)] → e_6 S x5 x6 → W p l e (rmk 2 47) s m args below meth c H locs 0 0 (Qi below shX 68 Z args s k) (F0 m 6 ls [])) (S : St) (x5 : Int32) (x6 : Int32) (H : Heap) (locs : List Loc) (ls : Array Slot) (hP : va_P Z.1 vwCl (wl shX 68 Z S) H) (hS : va_S (aa 68 Z) s.heap H locs) (hl : lv_has ls 11 [(0, .ref (Z.2.2.1 (33 + 7 * d))), (2, .ref (Z.2.2.1 4)), (3, .ref (Z.2.2.1 19)), (4, .int a4), (5, .int x5), (6, .int x6)]) (h : q_X1_untangled_166 d a1 a4 k e_6 S x5 x6) : W p l e (rmk 2 47) s m args below meth c H locs 0 0 (Qi below shX 68 Z args s k) (F0 m 166 ls []) := by
  have g := gokX hi
  have hx := C.1.1
  have hb := C.1.2.1
  unfold q_X1_untangled_166 at h
  obtain ⟨x6_1, ex6_1⟩ : ∃ y_ : Int32, y_ = x6 + (nI 1) := ⟨_, rfl⟩
  have h := h x6_1 ex6_1
  refine lv_iinc (v := x6_1) (lv' := [(6, .int x6_1), (0, .ref (Z.2.2.1 (33 + 7 * d))), (2, .ref (Z.2.2.1 4)), (3, .ref (Z.2.2.1 19)), (4, .int a4), (5, .int x5)]) hx hb dX1_untangled_166 hl (k := 5) rfl (by rw [ex6_1]; rfl) (by decide) rfl (fun ls hl => ?_)
  refine lv_goto (tgt := 6) hx hb dX1_untangled_169 (by decide) ?_
  exact he_6 _ _ _ _ _ _ hP hS (lv_sub hl [1, 2, 3, 4, 5, 0] rfl) h
def q_X1_untangled_160 (d : Nat) (a1 : Int32) (a4 : Int32) (k : Int32 → St → Prop) (e_6 : St → Int32 → Int32 → Prop) (e_52 : St → Int32 → Int32 → Int32 → Int32 → Prop) (S : St) (x5 : Int32) (x6 : Int32) (x7 : Int32) (x8 : Int32) : Prop := ∀ x8_1 : Int32, x8_1 = x8 + (nI 1) → (e_52 S x5 x6 x7 x8_1)
set_option maxRecDepth 100000 in
set_option maxHeartbeats 4000000 in
theorem b_X1_untangled_160 {p : Program} {l : Launch} {e : Env} {s : State} {m : MethodId} {args : Array Value} {below : List Frame} {meth : Method} {c : Code} {Z : ZT} (hi : injZ 68 Z) (C : Cxt (gX Z) p s m meth c args yX1_untangled cX1_untangled 11 (Option.some .int)) {d : Nat} {a1 : Int32} {a4 : Int32} {k : Int32 → St → Prop} {e_6 : St → Int32 → Int32 → Prop} {e_52 : St → Int32 → Int32 → Int32 → Int32 → Prop} (hd : d < 5) (he_6 : ∀ (S : St) (x5 : Int32) (x6 : Int32) (H : Heap) (locs : List Loc) (ls : Array Slot), va_P Z.1 vwCl (wl shX 68 Z S) H → va_S (aa 68 Z) s.heap H locs → lv_has ls 11 [(0, .ref (Z.2.2.1 (33 + 7 * d))), (2, .ref (Z.2.2.1 4)), (3, .ref (Z.2.2.1 19)), (4, .int a4), (5, .int x5), (6, .int x6)] → e_6 S x5 x6 → W p l e (rmk 2 47) s m args below meth c H locs 0 0 (Qi below shX 68 Z args s k) (F0 m 6 ls [])) (he_52 : ∀ (S : St) (x5 : Int32) (x6 : Int32) (x7 : Int32) (x8 : Int32) (H : Heap) (locs : List Loc) (ls : Array Slot), va_P Z.1 vwCl (wl shX 68 Z S) H → va_S (aa 68 Z) s.heap H locs → lv_has ls 11 [(0, .ref (Z.2.2.1 (33 + 7 * d))), (2, .ref (Z.2.2.1 4)), (3, .ref (Z.2.2.1 19)), (4, .int a4), (5, .int x5), (6, .int x6), (7, .int x7), (8, .int x8)] → e_52 S x5 x6 x7 x8 → W p l e (rmk 2 47) s m args below meth c H locs 0 0 (Qi below shX 68 Z args s k) (F0 m 52 ls [])) (S : St) (x5 : Int32) (x6 : Int32) (x7 : Int32) (x8 : Int32) (H : Heap) (locs : List Loc) (ls : Array Slot) (hP : va_P Z.1 vwCl (wl shX 68 Z S) H) (hS : va_S (aa 68 Z) s.heap H locs) (hl : lv_has ls 11 [(0, .ref (Z.2.2.1 (33 + 7 * d))), (2, .ref (Z.2.2.1 4)), (3, .ref (Z.2.2.1 19)), (4, .int a4), (5, .int x5), (6, .int x6), (7, .int x7), (8, .int x8)]) (h : q_X1_untangled_160 d a1 a4 k e_6 e_52 S x5 x6 x7 x8) : W p l e (rmk 2 47) s m args below meth c H locs 0 0 (Qi below shX 68 Z args s k) (F0 m 160 ls []) := by
  have g := gokX hi
  have hx := C.1.1
  have hb := C.1.2.1
  unfold q_X1_untangled_160 at h
  obtain ⟨x8_1, ex8_1⟩ : ∃ y_ : Int32, y_ = x8 + (nI 1) := ⟨_, rfl⟩
  have h := h x8_1 ex8_1
  refine lv_iinc (v := x8_1) (lv' := [(8, .int x8_1), (0, .ref (Z.2.2.1 (33 + 7 * d))), (2, .ref (Z.2.2.1 4)), (3, .ref (Z.2.2.1 19)), (4, .int a4), (5, .int x5), (6, .int x6), (7, .int x7)]) hx hb dX1_untangled_160 hl (k := 7) rfl (by rw [ex8_1]; rfl) (by decide) rfl (fun ls hl => ?_)
  refine lv_goto (tgt := 52) hx hb dX1_untangled_163 (by decide) ?_
  exact he_52 _ _ _ _ _ _ _ _ hP hS (lv_sub hl [1, 2, 3, 4, 5, 6, 7, 0] rfl) h
def q_X1_untangled_92 (d : Nat) (a1 : Int32) (a4 : Int32) (k : Int32 → St → Prop) (e_6 : St → Int32 → Int32 → Prop) (e_52 : St → Int32 → Int32 → Int32 → Int32 → Prop) (S : St) (x5 : Int32) (x6 : Int32) (x7 : Int32) (x8 : Int32) (t0 : Int32) : Prop := (t0 = (nI 0) → (q_X1_untangled_160 d a1 a4 k e_6 e_52 S x5 x6 x7 x8)) ∧ (¬ t0 = (nI 0) → (q_X8_isIn S x7 x8 (fun r_2 => ((r_2 = (nI 0) → (q_X1_untangled_160 d a1 a4 k e_6 e_52 S x5 x6 x7 x8)) ∧ (¬ r_2 = (nI 0) → (vp_in x6 6 ∧ (vp_in x8 6 ∧ (((S.1 (33 + 7 * d + 1) x6.toNatClampNeg) = (S.1 (33 + 7 * d + 1) x8.toNatClampNeg) → (q_X4_givingWay S x6 x8 a4 (fun r_7 => (∀ x5_8 : Int32, x5_8 = (x5 &&& (((nI 1) <<< (r_7 &&& 31)) ^^^ (-1 : Int32))) → (vp_in r_7 6 ∧ (vp_in r_7 6 ∧ (∀ S_11 : St, S_11 = sI S (33 + 7 * d + 4) r_7.toNatClampNeg ((S.1 (33 + 7 * d + 4) r_7.toNatClampNeg) + (nI 1)) → (q_X1_untangled_160 d a1 a4 k e_6 e_52 S_11 x5_8 x6 x7 x8)))))))) ∧ (¬ (S.1 (33 + 7 * d + 1) x6.toNatClampNeg) = (S.1 (33 + 7 * d + 1) x8.toNatClampNeg) → (q_X1_untangled_160 d a1 a4 k e_6 e_52 S x5 x6 x7 x8))))))))))
set_option maxRecDepth 100000 in
set_option maxHeartbeats 4000000 in
theorem b_X1_untangled_92 {p : Program} {l : Launch} {e : Env} {s : State} {m : MethodId} {args : Array Value} {below : List Frame} {meth : Method} {c : Code} {Z : ZT} (hi : injZ 68 Z) (C : Cxt (gX Z) p s m meth c args yX1_untangled cX1_untangled 11 (Option.some .int)) {d : Nat} {a1 : Int32} {a4 : Int32} {k : Int32 → St → Prop} {e_6 : St → Int32 → Int32 → Prop} {e_52 : St → Int32 → Int32 → Int32 → Int32 → Prop} (hd : d < 5) (he_6 : ∀ (S : St) (x5 : Int32) (x6 : Int32) (H : Heap) (locs : List Loc) (ls : Array Slot), va_P Z.1 vwCl (wl shX 68 Z S) H → va_S (aa 68 Z) s.heap H locs → lv_has ls 11 [(0, .ref (Z.2.2.1 (33 + 7 * d))), (2, .ref (Z.2.2.1 4)), (3, .ref (Z.2.2.1 19)), (4, .int a4), (5, .int x5), (6, .int x6)] → e_6 S x5 x6 → W p l e (rmk 2 47) s m args below meth c H locs 0 0 (Qi below shX 68 Z args s k) (F0 m 6 ls [])) (he_52 : ∀ (S : St) (x5 : Int32) (x6 : Int32) (x7 : Int32) (x8 : Int32) (H : Heap) (locs : List Loc) (ls : Array Slot), va_P Z.1 vwCl (wl shX 68 Z S) H → va_S (aa 68 Z) s.heap H locs → lv_has ls 11 [(0, .ref (Z.2.2.1 (33 + 7 * d))), (2, .ref (Z.2.2.1 4)), (3, .ref (Z.2.2.1 19)), (4, .int a4), (5, .int x5), (6, .int x6), (7, .int x7), (8, .int x8)] → e_52 S x5 x6 x7 x8 → W p l e (rmk 2 47) s m args below meth c H locs 0 0 (Qi below shX 68 Z args s k) (F0 m 52 ls [])) (S : St) (x5 : Int32) (x6 : Int32) (x7 : Int32) (x8 : Int32) (t0 : Int32) (H : Heap) (locs : List Loc) (ls : Array Slot) (hP : va_P Z.1 vwCl (wl shX 68 Z S) H) (hS : va_S (aa 68 Z) s.heap H locs) (hl : lv_has ls 11 [(0, .ref (Z.2.2.1 (33 + 7 * d))), (2, .ref (Z.2.2.1 4)), (3, .ref (Z.2.2.1 19)), (4, .int a4), (5, .int x5), (6, .int x6), (7, .int x7), (8, .int x8)]) (h : q_X1_untangled_92 d a1 a4 k e_6 e_52 S x5 x6 x7 x8 t0) : W p l e (rmk 2 47) s m args below meth c H locs 0 0 (Qi below shX 68 Z args s k) (F0 m 92 ls [.int t0]) := by
  have g := gokX hi
  have hx := C.1.1
  have hb := C.1.2.1
  unfold q_X1_untangled_92 at h
  refine lv_istore (lv' := [(9, .int t0), (0, .ref (Z.2.2.1 (33 + 7 * d))), (2, .ref (Z.2.2.1 4)), (3, .ref (Z.2.2.1 19)), (4, .int a4), (5, .int x5), (6, .int x6), (7, .int x7), (8, .int x8)]) hx hb dX1_untangled_92 hl (by decide) rfl (fun ls hl => ?_)
  refine lv_iload hx hb dX1_untangled_94 (lv_at hl 0 rfl) ?_
  refine lv_if_eq (tgt := 160) hx hb dX1_untangled_96 (by decide) (fun c_1 => ?_) (fun c_1 => ?_)
  · have h := h.1 c_1
    exact b_X1_untangled_160 hi C hd he_6 he_52 _ _ _ _ _ _ _ _ hP hS (lv_sub hl [1, 2, 3, 4, 5, 6, 7, 8] rfl) h
  · have h := h.2 c_1
    refine lv_iload hx hb dX1_untangled_99 (lv_at hl 7 rfl) ?_
    refine lv_iload hx hb dX1_untangled_101 (lv_at hl 8 rfl) ?_
    refine go_ip (run_SN g C hP hS (As := [.int x7, .int x8]) (rest := []) (c_X8_isIn hi S x7 x8 _ h) cal_X8_isIn (nstX C.2.2.2 13 rfl) ⟨rfl, rfl, Nat.le_of_ble_eq_true rfl, Nat.le_of_ble_eq_true rfl⟩ rfl rfl hl.1 (Nat.le_of_ble_eq_true rfl) dX1_untangled_103) hS (fun r_2 H locs h hP hS => ?_)
    obtain ⟨hbr_2, h⟩ := h
    refine lv_if_eq (tgt := 160) hx hb dX1_untangled_106 (by decide) (fun c_3 => ?_) (fun c_3 => ?_)
    · have h := h.1 c_3
      exact b_X1_untangled_160 hi C hd he_6 he_52 _ _ _ _ _ _ _ _ hP hS (lv_sub hl [1, 2, 3, 4, 5, 6, 7, 8] rfl) h
    · have h := h.2 c_3
      refine lv_aload_n hx hb dX1_untangled_109 rfl (lv_at hl 1 rfl) ?_
      refine s_gR g C hP (33 + 7 * d) 5 (33 + 7 * d + 1) (ltX_day (d := d) hd) (shX_day (d := d) hd) rfl cfX1 (by decide) kFL_X1_9 dX1_untangled_110 ?_
      refine lv_iload hx hb dX1_untangled_113 (lv_at hl 6 rfl) ?_
      have hv_4 := h.1
      have h := h.2
      refine s_aI g C hP (33 + 7 * d + 1) (ltX_day1 (d := d) hd) (shX_day1 (d := d) hd) hv_4 dX1_untangled_115 ?_
      refine lv_aload_n hx hb dX1_untangled_116 rfl (lv_at hl 1 rfl) ?_
      refine s_gR g C hP (33 + 7 * d) 5 (33 + 7 * d + 1) (ltX_day (d := d) hd) (shX_day (d := d) hd) rfl cfX1 (by decide) kFL_X1_9 dX1_untangled_117 ?_
      refine lv_iload hx hb dX1_untangled_120 (lv_at hl 8 rfl) ?_
      have hv_5 := h.1
      have h := h.2
      refine s_aI g C hP (33 + 7 * d + 1) (ltX_day1 (d := d) hd) (shX_day1 (d := d) hd) hv_5 dX1_untangled_122 ?_
      refine lv_icmp_ne (tgt := 160) hx hb dX1_untangled_123 (by decide) (fun c_6 => ?_) (fun c_6 => ?_)
      · have h := h.2 c_6
        exact b_X1_untangled_160 hi C hd he_6 he_52 _ _ _ _ _ _ _ _ hP hS (lv_sub hl [1, 2, 3, 4, 5, 6, 7, 8] rfl) h
      · have h := h.1 c_6
        refine lv_aload_n hx hb dX1_untangled_126 rfl (lv_at hl 2 rfl) ?_
        refine lv_iload hx hb dX1_untangled_127 (lv_at hl 6 rfl) ?_
        refine lv_iload hx hb dX1_untangled_129 (lv_at hl 8 rfl) ?_
        refine lv_iload hx hb dX1_untangled_131 (lv_at hl 4 rfl) ?_
        refine go_ip (run_V g C hP hS (c0 := 4) (As := [.int x6, .int x8, .int a4]) (rest := []) (c_X4_givingWay hi S x6 x8 a4 _ h) cal_X4_givingWay kML_X1_112 (by decide) rfl cfX4 ⟨rfl, rfl, Nat.le_of_ble_eq_true rfl, Nat.le_of_ble_eq_true rfl⟩ rfl rfl hl.1 (Nat.le_of_ble_eq_true rfl) dX1_untangled_133) hS (fun r_7 H locs h hP hS => ?_)
        refine lv_istore (lv' := [(10, .int r_7), (9, .int t0), (0, .ref (Z.2.2.1 (33 + 7 * d))), (2, .ref (Z.2.2.1 4)), (3, .ref (Z.2.2.1 19)), (4, .int a4), (5, .int x5), (6, .int x6), (7, .int x7), (8, .int x8)]) hx hb dX1_untangled_136 hl (by decide) rfl (fun ls hl => ?_)
        refine lv_iload hx hb dX1_untangled_138 (lv_at hl 6 rfl) ?_
        refine lv_iconst (v := (nI 1)) hx hb dX1_untangled_140 (by decide) ?_
        refine lv_iload hx hb dX1_untangled_141 (lv_at hl 0 rfl) ?_
        refine lv_ishl hx hb dX1_untangled_143 ?_
        refine lv_iconst (v := (-1 : Int32)) hx hb dX1_untangled_144 (by decide) ?_
        refine lv_ixor hx hb dX1_untangled_145 ?_
        refine lv_iand hx hb dX1_untangled_146 ?_
        refine lv_topi (fun x5_8 ex5_8 => ?_)
        have h := h x5_8 ex5_8
        refine lv_istore (lv' := [(5, .int x5_8), (10, .int r_7), (9, .int t0), (0, .ref (Z.2.2.1 (33 + 7 * d))), (2, .ref (Z.2.2.1 4)), (3, .ref (Z.2.2.1 19)), (4, .int a4), (6, .int x6), (7, .int x7), (8, .int x8)]) hx hb dX1_untangled_147 hl (by decide) rfl (fun ls hl => ?_)
        refine lv_aload_n hx hb dX1_untangled_149 rfl (lv_at hl 3 rfl) ?_
        refine s_gR g C hP (33 + 7 * d) 8 (33 + 7 * d + 4) (ltX_day (d := d) hd) (shX_day (d := d) hd) rfl cfX1 (by decide) kFL_X1_21 dX1_untangled_150 ?_
        refine lv_iload hx hb dX1_untangled_153 (lv_at hl 1 rfl) ?_
        refine lv_dup2_11 hx hb dX1_untangled_155 rfl rfl ?_
        have hv_9 := h.1
        have h := h.2
        refine s_aI g C hP (33 + 7 * d + 4) (ltX_day4 (d := d) hd) (shX_day4 (d := d) hd) hv_9 dX1_untangled_156 ?_
        refine lv_iconst (v := (nI 1)) hx hb dX1_untangled_157 (by decide) ?_
        refine lv_iadd hx hb dX1_untangled_158 ?_
        have hv_10 := h.1
        have h := h.2
        refine s_stI g C hP hS (33 + 7 * d + 4) (ltX_day4 (d := d) hd) (shX_day4 (d := d) hd) hv_10 dX1_untangled_159 (fun H locs hP hS => ?_)
        obtain ⟨S_11, eS_11⟩ : ∃ z_ : St, z_ = sI S (33 + 7 * d + 4) r_7.toNatClampNeg ((S.1 (33 + 7 * d + 4) r_7.toNatClampNeg) + (nI 1)) := ⟨_, rfl⟩
        rw [← eS_11] at hP
        have h := h S_11 eS_11
        exact b_X1_untangled_160 hi C hd he_6 he_52 _ _ _ _ _ _ _ _ hP hS (lv_sub hl [3, 4, 5, 6, 0, 7, 8, 9] rfl) h
def q_X1_untangled_91 (d : Nat) (a1 : Int32) (a4 : Int32) (k : Int32 → St → Prop) (e_6 : St → Int32 → Int32 → Prop) (e_52 : St → Int32 → Int32 → Int32 → Int32 → Prop) (S : St) (x5 : Int32) (x6 : Int32) (x7 : Int32) (x8 : Int32) : Prop := q_X1_untangled_92 d a1 a4 k e_6 e_52 S x5 x6 x7 x8 (nI 0)
set_option maxRecDepth 100000 in
set_option maxHeartbeats 4000000 in
theorem b_X1_untangled_91 {p : Program} {l : Launch} {e : Env} {s : State} {m : MethodId} {args : Array Value} {below : List Frame} {meth : Method} {c : Code} {Z : ZT} (hi : injZ 68 Z) (C : Cxt (gX Z) p s m meth c args yX1_untangled cX1_untangled 11 (Option.some .int)) {d : Nat} {a1 : Int32} {a4 : Int32} {k : Int32 → St → Prop} {e_6 : St → Int32 → Int32 → Prop} {e_52 : St → Int32 → Int32 → Int32 → Int32 → Prop} (hd : d < 5) (he_6 : ∀ (S : St) (x5 : Int32) (x6 : Int32) (H : Heap) (locs : List Loc) (ls : Array Slot), va_P Z.1 vwCl (wl shX 68 Z S) H → va_S (aa 68 Z) s.heap H locs → lv_has ls 11 [(0, .ref (Z.2.2.1 (33 + 7 * d))), (2, .ref (Z.2.2.1 4)), (3, .ref (Z.2.2.1 19)), (4, .int a4), (5, .int x5), (6, .int x6)] → e_6 S x5 x6 → W p l e (rmk 2 47) s m args below meth c H locs 0 0 (Qi below shX 68 Z args s k) (F0 m 6 ls [])) (he_52 : ∀ (S : St) (x5 : Int32) (x6 : Int32) (x7 : Int32) (x8 : Int32) (H : Heap) (locs : List Loc) (ls : Array Slot), va_P Z.1 vwCl (wl shX 68 Z S) H → va_S (aa 68 Z) s.heap H locs → lv_has ls 11 [(0, .ref (Z.2.2.1 (33 + 7 * d))), (2, .ref (Z.2.2.1 4)), (3, .ref (Z.2.2.1 19)), (4, .int a4), (5, .int x5), (6, .int x6), (7, .int x7), (8, .int x8)] → e_52 S x5 x6 x7 x8 → W p l e (rmk 2 47) s m args below meth c H locs 0 0 (Qi below shX 68 Z args s k) (F0 m 52 ls [])) (S : St) (x5 : Int32) (x6 : Int32) (x7 : Int32) (x8 : Int32) (H : Heap) (locs : List Loc) (ls : Array Slot) (hP : va_P Z.1 vwCl (wl shX 68 Z S) H) (hS : va_S (aa 68 Z) s.heap H locs) (hl : lv_has ls 11 [(0, .ref (Z.2.2.1 (33 + 7 * d))), (2, .ref (Z.2.2.1 4)), (3, .ref (Z.2.2.1 19)), (4, .int a4), (5, .int x5), (6, .int x6), (7, .int x7), (8, .int x8)]) (h : q_X1_untangled_91 d a1 a4 k e_6 e_52 S x5 x6 x7 x8) : W p l e (rmk 2 47) s m args below meth c H locs 0 0 (Qi below shX 68 Z args s k) (F0 m 91 ls []) := by
  have g := gokX hi
  have hx := C.1.1
  have hb := C.1.2.1
  unfold q_X1_untangled_91 at h
  refine lv_iconst (v := (nI 0)) hx hb dX1_untangled_91 (by decide) ?_
  exact b_X1_untangled_92 hi C hd he_6 he_52 _ _ _ _ _ _ _ _ _ hP hS (lv_sub hl [0, 1, 2, 3, 4, 5, 6, 7] rfl) h
def q_X1_untangled_52 (d : Nat) (a1 : Int32) (a4 : Int32) (k : Int32 → St → Prop) (e_6 : St → Int32 → Int32 → Prop) : Nat → St → Int32 → Int32 → Int32 → Int32 → Prop := fun n_ => Nat.rec (motive := fun _ => St → Int32 → Int32 → Int32 → Int32 → Prop) (fun _ _ _ _ _ => False) (fun _ ih => fun S x5 x6 x7 x8 => ((nI 6) ≤ x8 → (q_X1_untangled_166 d a1 a4 k e_6 S x5 x6)) ∧ (¬ (nI 6) ≤ x8 → (((x7 >>> (x8 &&& 31)) = (nI 0) → (q_X1_untangled_166 d a1 a4 k e_6 S x5 x6)) ∧ (¬ (x7 >>> (x8 &&& 31)) = (nI 0) → (q_X8_isIn S x5 x6 (fun r_3 => ((r_3 = (nI 0) → (q_X1_untangled_91 d a1 a4 k e_6 ih S x5 x6 x7 x8)) ∧ (¬ r_3 = (nI 0) → (q_X8_isIn S x5 x8 (fun r_5 => ((r_5 = (nI 0) → (q_X1_untangled_91 d a1 a4 k e_6 ih S x5 x6 x7 x8)) ∧ (¬ r_5 = (nI 0) → (q_X1_untangled_92 d a1 a4 k e_6 ih S x5 x6 x7 x8 (nI 1)))))))))))))) n_
theorem q_X1_untangled_52_s (d : Nat) (a1 : Int32) (a4 : Int32) (k : Int32 → St → Prop) (e_6 : St → Int32 → Int32 → Prop) (n_ : Nat) (S : St) (x5 : Int32) (x6 : Int32) (x7 : Int32) (x8 : Int32) : q_X1_untangled_52 d a1 a4 k e_6 (n_ + 1) S x5 x6 x7 x8 = (((nI 6) ≤ x8 → (q_X1_untangled_166 d a1 a4 k e_6 S x5 x6)) ∧ (¬ (nI 6) ≤ x8 → (((x7 >>> (x8 &&& 31)) = (nI 0) → (q_X1_untangled_166 d a1 a4 k e_6 S x5 x6)) ∧ (¬ (x7 >>> (x8 &&& 31)) = (nI 0) → (q_X8_isIn S x5 x6 (fun r_3 => ((r_3 = (nI 0) → (q_X1_untangled_91 d a1 a4 k e_6 (q_X1_untangled_52 d a1 a4 k e_6 n_) S x5 x6 x7 x8)) ∧ (¬ r_3 = (nI 0) → (q_X8_isIn S x5 x8 (fun r_5 => ((r_5 = (nI 0) → (q_X1_untangled_91 d a1 a4 k e_6 (q_X1_untangled_52 d a1 a4 k e_6 n_) S x5 x6 x7 x8)) ∧ (¬ r_5 = (nI 0) → (q_X1_untangled_92 d a1 a4 k e_6 (q_X1_untangled_52 d a1 a4 k e_6 n_) S x5 x6 x7 x8 (nI 1)))))))))))))) := rfl
set_option maxRecDepth 100000 in
set_option maxHeartbeats 4000000 in
theorem b_X1_untangled_52 {p : Program} {l : Launch} {e : Env} {s : State} {m : MethodId} {args : Array Value} {below : List Frame} {meth : Method} {c : Code} {Z : ZT} (hi : injZ 68 Z) (C : Cxt (gX Z) p s m meth c args yX1_untangled cX1_untangled 11 (Option.some .int)) {d : Nat} {a1 : Int32} {a4 : Int32} {k : Int32 → St → Prop} {e_6 : St → Int32 → Int32 → Prop} (hd : d < 5) (he_6 : ∀ (S : St) (x5 : Int32) (x6 : Int32) (H : Heap) (locs : List Loc) (ls : Array Slot), va_P Z.1 vwCl (wl shX 68 Z S) H → va_S (aa 68 Z) s.heap H locs → lv_has ls 11 [(0, .ref (Z.2.2.1 (33 + 7 * d))), (2, .ref (Z.2.2.1 4)), (3, .ref (Z.2.2.1 19)), (4, .int a4), (5, .int x5), (6, .int x6)] → e_6 S x5 x6 → W p l e (rmk 2 47) s m args below meth c H locs 0 0 (Qi below shX 68 Z args s k) (F0 m 6 ls [])) : ∀ (n_ : Nat) (S : St) (x5 : Int32) (x6 : Int32) (x7 : Int32) (x8 : Int32) (H : Heap) (locs : List Loc) (ls : Array Slot), va_P Z.1 vwCl (wl shX 68 Z S) H → va_S (aa 68 Z) s.heap H locs → lv_has ls 11 [(0, .ref (Z.2.2.1 (33 + 7 * d))), (2, .ref (Z.2.2.1 4)), (3, .ref (Z.2.2.1 19)), (4, .int a4), (5, .int x5), (6, .int x6), (7, .int x7), (8, .int x8)] → q_X1_untangled_52 d a1 a4 k e_6 n_ S x5 x6 x7 x8 → W p l e (rmk 2 47) s m args below meth c H locs 0 0 (Qi below shX 68 Z args s k) (F0 m 52 ls []) := by
  have g := gokX hi
  have hx := C.1.1
  have hb := C.1.2.1
  intro n_
  induction n_ with
  | zero => intro S x5 x6 x7 x8 H locs ls hP hS hl h; exact h.elim
  | succ n_ ih =>
    intro S x5 x6 x7 x8 H locs ls hP hS hl h
    rw [q_X1_untangled_52_s] at h
    refine lv_iload hx hb dX1_untangled_52 (lv_at hl 7 rfl) ?_
    refine lv_bipush (v := (nI 6)) hx hb dX1_untangled_54 (by decide) ?_
    refine lv_icmp_ge (tgt := 166) hx hb dX1_untangled_56 (by decide) (fun c_1 => ?_) (fun c_1 => ?_)
    · have h := h.1 c_1
      exact b_X1_untangled_166 hi C hd he_6 _ _ _ _ _ _ hP hS (lv_sub hl [0, 1, 2, 3, 4, 5] rfl) h
    · have h := h.2 c_1
      refine lv_iload hx hb dX1_untangled_59 (lv_at hl 6 rfl) ?_
      refine lv_iload hx hb dX1_untangled_61 (lv_at hl 7 rfl) ?_
      refine lv_ishr hx hb dX1_untangled_63 ?_
      refine lv_if_eq (tgt := 166) hx hb dX1_untangled_64 (by decide) (fun c_2 => ?_) (fun c_2 => ?_)
      · have h := h.1 c_2
        exact b_X1_untangled_166 hi C hd he_6 _ _ _ _ _ _ hP hS (lv_sub hl [0, 1, 2, 3, 4, 5] rfl) h
      · have h := h.2 c_2
        refine lv_iload hx hb dX1_untangled_67 (lv_at hl 4 rfl) ?_
        refine lv_iload hx hb dX1_untangled_69 (lv_at hl 5 rfl) ?_
        refine go_ip (run_SN g C hP hS (As := [.int x5, .int x6]) (rest := []) (c_X8_isIn hi S x5 x6 _ h) cal_X8_isIn (nstX C.2.2.2 13 rfl) ⟨rfl, rfl, Nat.le_of_ble_eq_true rfl, Nat.le_of_ble_eq_true rfl⟩ rfl rfl hl.1 (Nat.le_of_ble_eq_true rfl) dX1_untangled_71) hS (fun r_3 H locs h hP hS => ?_)
        obtain ⟨hbr_3, h⟩ := h
        refine lv_if_eq (tgt := 91) hx hb dX1_untangled_74 (by decide) (fun c_4 => ?_) (fun c_4 => ?_)
        · have h := h.1 c_4
          exact b_X1_untangled_91 hi C hd he_6 ih _ _ _ _ _ _ _ _ hP hS (lv_sub hl [0, 1, 2, 3, 4, 5, 6, 7] rfl) h
        · have h := h.2 c_4
          refine lv_iload hx hb dX1_untangled_77 (lv_at hl 4 rfl) ?_
          refine lv_iload hx hb dX1_untangled_79 (lv_at hl 7 rfl) ?_
          refine go_ip (run_SN g C hP hS (As := [.int x5, .int x8]) (rest := []) (c_X8_isIn hi S x5 x8 _ h) cal_X8_isIn (nstX C.2.2.2 13 rfl) ⟨rfl, rfl, Nat.le_of_ble_eq_true rfl, Nat.le_of_ble_eq_true rfl⟩ rfl rfl hl.1 (Nat.le_of_ble_eq_true rfl) dX1_untangled_81) hS (fun r_5 H locs h hP hS => ?_)
          obtain ⟨hbr_5, h⟩ := h
          refine lv_if_eq (tgt := 91) hx hb dX1_untangled_84 (by decide) (fun c_6 => ?_) (fun c_6 => ?_)
          · have h := h.1 c_6
            exact b_X1_untangled_91 hi C hd he_6 ih _ _ _ _ _ _ _ _ hP hS (lv_sub hl [0, 1, 2, 3, 4, 5, 6, 7] rfl) h
          · have h := h.2 c_6
            refine lv_iconst (v := (nI 1)) hx hb dX1_untangled_87 (by decide) ?_
            refine lv_goto (tgt := 92) hx hb dX1_untangled_88 (by decide) ?_
            exact b_X1_untangled_92 hi C hd he_6 ih _ _ _ _ _ _ _ _ _ hP hS (lv_sub hl [0, 1, 2, 3, 4, 5, 6, 7] rfl) h
def q_X1_untangled_44 (d : Nat) (a1 : Int32) (a4 : Int32) (k : Int32 → St → Prop) (e_6 : St → Int32 → Int32 → Prop) (S : St) (x5 : Int32) (x6 : Int32) (t0 : Int32) : Prop := ∀ x8_1 : Int32, x8_1 = (x6 + (nI 1)) → (∃ f_52, q_X1_untangled_52 d a1 a4 k e_6 f_52 S x5 x6 t0 x8_1)
set_option maxRecDepth 100000 in
set_option maxHeartbeats 4000000 in
theorem b_X1_untangled_44 {p : Program} {l : Launch} {e : Env} {s : State} {m : MethodId} {args : Array Value} {below : List Frame} {meth : Method} {c : Code} {Z : ZT} (hi : injZ 68 Z) (C : Cxt (gX Z) p s m meth c args yX1_untangled cX1_untangled 11 (Option.some .int)) {d : Nat} {a1 : Int32} {a4 : Int32} {k : Int32 → St → Prop} {e_6 : St → Int32 → Int32 → Prop} (hd : d < 5) (he_6 : ∀ (S : St) (x5 : Int32) (x6 : Int32) (H : Heap) (locs : List Loc) (ls : Array Slot), va_P Z.1 vwCl (wl shX 68 Z S) H → va_S (aa 68 Z) s.heap H locs → lv_has ls 11 [(0, .ref (Z.2.2.1 (33 + 7 * d))), (2, .ref (Z.2.2.1 4)), (3, .ref (Z.2.2.1 19)), (4, .int a4), (5, .int x5), (6, .int x6)] → e_6 S x5 x6 → W p l e (rmk 2 47) s m args below meth c H locs 0 0 (Qi below shX 68 Z args s k) (F0 m 6 ls [])) (S : St) (x5 : Int32) (x6 : Int32) (t0 : Int32) (H : Heap) (locs : List Loc) (ls : Array Slot) (hP : va_P Z.1 vwCl (wl shX 68 Z S) H) (hS : va_S (aa 68 Z) s.heap H locs) (hl : lv_has ls 11 [(0, .ref (Z.2.2.1 (33 + 7 * d))), (2, .ref (Z.2.2.1 4)), (3, .ref (Z.2.2.1 19)), (4, .int a4), (5, .int x5), (6, .int x6)]) (h : q_X1_untangled_44 d a1 a4 k e_6 S x5 x6 t0) : W p l e (rmk 2 47) s m args below meth c H locs 0 0 (Qi below shX 68 Z args s k) (F0 m 44 ls [.int t0]) := by
  have g := gokX hi
  have hx := C.1.1
  have hb := C.1.2.1
  unfold q_X1_untangled_44 at h
  refine lv_istore (lv' := [(7, .int t0), (0, .ref (Z.2.2.1 (33 + 7 * d))), (2, .ref (Z.2.2.1 4)), (3, .ref (Z.2.2.1 19)), (4, .int a4), (5, .int x5), (6, .int x6)]) hx hb dX1_untangled_44 hl (by decide) rfl (fun ls hl => ?_)
  refine lv_iload hx hb dX1_untangled_46 (lv_at hl 6 rfl) ?_
  refine lv_iconst (v := (nI 1)) hx hb dX1_untangled_48 (by decide) ?_
  refine lv_iadd hx hb dX1_untangled_49 ?_
  refine lv_topi (fun x8_1 ex8_1 => ?_)
  have h := h x8_1 ex8_1
  refine lv_istore (lv' := [(8, .int x8_1), (7, .int t0), (0, .ref (Z.2.2.1 (33 + 7 * d))), (2, .ref (Z.2.2.1 4)), (3, .ref (Z.2.2.1 19)), (4, .int a4), (5, .int x5), (6, .int x6)]) hx hb dX1_untangled_50 hl (by decide) rfl (fun ls hl => ?_)
  obtain ⟨f_52, h⟩ := h
  exact b_X1_untangled_52 hi C hd he_6 f_52 _ _ _ _ _ _ _ _ hP hS (lv_sub hl [2, 3, 4, 5, 6, 7, 1, 0] rfl) h
def q_X1_untangled_6 (d : Nat) (a1 : Int32) (a4 : Int32) (k : Int32 → St → Prop) : Nat → St → Int32 → Int32 → Prop := fun n_ => Nat.rec (motive := fun _ => St → Int32 → Int32 → Prop) (fun _ _ _ => False) (fun _ ih => fun S x5 x6 => ((nI 6) ≤ x6 → (k x5 S)) ∧ (¬ (nI 6) ≤ x6 → (q_X8_isIn S x5 x6 (fun r_2 => ((r_2 = (nI 0) → (q_X1_untangled_44 d a1 a4 k ih S x5 x6 (nI 0))) ∧ (¬ r_2 = (nI 0) → (vp_in x6 6 ∧ (q_X0_crossed S x6 (S.1 (33 + 7 * d + 1) x6.toNatClampNeg) (S.1 (33 + 7 * d) 0) (fun r_5 => (q_X1_untangled_44 d a1 a4 k ih S x5 x6 r_5)))))))))) n_
theorem q_X1_untangled_6_s (d : Nat) (a1 : Int32) (a4 : Int32) (k : Int32 → St → Prop) (n_ : Nat) (S : St) (x5 : Int32) (x6 : Int32) : q_X1_untangled_6 d a1 a4 k (n_ + 1) S x5 x6 = (((nI 6) ≤ x6 → (k x5 S)) ∧ (¬ (nI 6) ≤ x6 → (q_X8_isIn S x5 x6 (fun r_2 => ((r_2 = (nI 0) → (q_X1_untangled_44 d a1 a4 k (q_X1_untangled_6 d a1 a4 k n_) S x5 x6 (nI 0))) ∧ (¬ r_2 = (nI 0) → (vp_in x6 6 ∧ (q_X0_crossed S x6 (S.1 (33 + 7 * d + 1) x6.toNatClampNeg) (S.1 (33 + 7 * d) 0) (fun r_5 => (q_X1_untangled_44 d a1 a4 k (q_X1_untangled_6 d a1 a4 k n_) S x5 x6 r_5)))))))))) := rfl
set_option maxRecDepth 100000 in
set_option maxHeartbeats 4000000 in
theorem b_X1_untangled_6 {p : Program} {l : Launch} {e : Env} {s : State} {m : MethodId} {args : Array Value} {below : List Frame} {meth : Method} {c : Code} {Z : ZT} (hi : injZ 68 Z) (C : Cxt (gX Z) p s m meth c args yX1_untangled cX1_untangled 11 (Option.some .int)) {d : Nat} {a1 : Int32} {a4 : Int32} {k : Int32 → St → Prop} (hd : d < 5)  : ∀ (n_ : Nat) (S : St) (x5 : Int32) (x6 : Int32) (H : Heap) (locs : List Loc) (ls : Array Slot), va_P Z.1 vwCl (wl shX 68 Z S) H → va_S (aa 68 Z) s.heap H locs → lv_has ls 11 [(0, .ref (Z.2.2.1 (33 + 7 * d))), (2, .ref (Z.2.2.1 4)), (3, .ref (Z.2.2.1 19)), (4, .int a4), (5, .int x5), (6, .int x6)] → q_X1_untangled_6 d a1 a4 k n_ S x5 x6 → W p l e (rmk 2 47) s m args below meth c H locs 0 0 (Qi below shX 68 Z args s k) (F0 m 6 ls []) := by
  have g := gokX hi
  have hx := C.1.1
  have hb := C.1.2.1
  intro n_
  induction n_ with
  | zero => intro S x5 x6 H locs ls hP hS hl h; exact h.elim
  | succ n_ ih =>
    intro S x5 x6 H locs ls hP hS hl h
    rw [q_X1_untangled_6_s] at h
    refine lv_iload hx hb dX1_untangled_6 (lv_at hl 5 rfl) ?_
    refine lv_bipush (v := (nI 6)) hx hb dX1_untangled_8 (by decide) ?_
    refine lv_icmp_ge (tgt := 172) hx hb dX1_untangled_10 (by decide) (fun c_1 => ?_) (fun c_1 => ?_)
    · have h := h.1 c_1
      refine lv_iload hx hb dX1_untangled_172 (lv_at hl 4 rfl) ?_
      exact s_ri C hP hS h dX1_untangled_174
    · have h := h.2 c_1
      refine lv_iload hx hb dX1_untangled_13 (lv_at hl 4 rfl) ?_
      refine lv_iload hx hb dX1_untangled_15 (lv_at hl 5 rfl) ?_
      refine go_ip (run_SN g C hP hS (As := [.int x5, .int x6]) (rest := []) (c_X8_isIn hi S x5 x6 _ h) cal_X8_isIn (nstX C.2.2.2 13 rfl) ⟨rfl, rfl, Nat.le_of_ble_eq_true rfl, Nat.le_of_ble_eq_true rfl⟩ rfl rfl hl.1 (Nat.le_of_ble_eq_true rfl) dX1_untangled_17) hS (fun r_2 H locs h hP hS => ?_)
      obtain ⟨hbr_2, h⟩ := h
      refine lv_if_eq (tgt := 43) hx hb dX1_untangled_20 (by decide) (fun c_3 => ?_) (fun c_3 => ?_)
      · have h := h.1 c_3
        refine lv_iconst (v := (nI 0)) hx hb dX1_untangled_43 (by decide) ?_
        exact b_X1_untangled_44 hi C hd ih _ _ _ _ _ _ _ hP hS (lv_sub hl [0, 1, 2, 3, 4, 5] rfl) h
      · have h := h.2 c_3
        refine lv_aload_n hx hb dX1_untangled_23 rfl (lv_at hl 2 rfl) ?_
        refine lv_iload hx hb dX1_untangled_24 (lv_at hl 5 rfl) ?_
        refine lv_aload_n hx hb dX1_untangled_26 rfl (lv_at hl 0 rfl) ?_
        refine s_gR g C hP (33 + 7 * d) 5 (33 + 7 * d + 1) (ltX_day (d := d) hd) (shX_day (d := d) hd) rfl cfX1 (by decide) kFL_X1_9 dX1_untangled_27 ?_
        refine lv_iload hx hb dX1_untangled_30 (lv_at hl 5 rfl) ?_
        have hv_4 := h.1
        have h := h.2
        refine s_aI g C hP (33 + 7 * d + 1) (ltX_day1 (d := d) hd) (shX_day1 (d := d) hd) hv_4 dX1_untangled_32 ?_
        refine lv_aload_n hx hb dX1_untangled_33 rfl (lv_at hl 0 rfl) ?_
        refine s_gI g C hP (33 + 7 * d) 0 (ltX_day (d := d) hd) (shX_day (d := d) hd) rfl cfX1 (by decide) kFL_X1_65 dX1_untangled_34 ?_
        refine go_ip (run_V g C hP hS (c0 := 19) (As := [.int x6, .int (S.1 (33 + 7 * d + 1) x6.toNatClampNeg), .int (S.1 (33 + 7 * d) 0)]) (rest := []) (c_X0_crossed hi S x6 (S.1 (33 + 7 * d + 1) x6.toNatClampNeg) (S.1 (33 + 7 * d) 0) _ h) cal_X0_crossed kML_X1_108 (by decide) rfl cfX0 ⟨rfl, rfl, Nat.le_of_ble_eq_true rfl, Nat.le_of_ble_eq_true rfl⟩ rfl rfl hl.1 (Nat.le_of_ble_eq_true rfl) dX1_untangled_37) hS (fun r_5 H locs h hP hS => ?_)
        refine lv_goto (tgt := 44) hx hb dX1_untangled_40 (by decide) ?_
        exact b_X1_untangled_44 hi C hd ih _ _ _ _ _ _ _ hP hS (lv_sub hl [0, 1, 2, 3, 4, 5] rfl) h
def q_X1_untangled (d : Nat) (S : St) (a1 : Int32) (a4 : Int32) (k : Int32 → St → Prop) : Prop := ∃ f_6, q_X1_untangled_6 d a1 a4 k f_6 S a1 (nI 0)
set_option maxRecDepth 100000 in
set_option maxHeartbeats 4000000 in
theorem c_X1_untangled {l : Launch} {Z : ZT} (hi : injZ 68 Z) (d : Nat) (hd : d < 5) (S : St) (a1 : Int32) (a4 : Int32) (k : Int32 → St → Prop) (h : q_X1_untangled d S a1 a4 k) : Mi l shX 68 Z (gX Z) yX1_untangled cX1_untangled 11 (Option.some .int) (rmk 2 47) [.ref (Z.2.2.1 (33 + 7 * d)), .int a1, .ref (Z.2.2.1 4), .ref (Z.2.2.1 19), .int a4] S k := by
  have g := gokX hi
  refine e_i (by decide) (Nat.le_of_ble_eq_true rfl) (lv := [(0, .ref (Z.2.2.1 (33 + 7 * d))), (1, .int a1), (2, .ref (Z.2.2.1 4)), (3, .ref (Z.2.2.1 19)), (4, .int a4)]) rfl (fun p e s m args below meth c C hP hS ls hl => ?_)
  have hx := C.1.1
  have hb := C.1.2.1
  unfold q_X1_untangled at h
  refine lv_iload_n hx hb dX1_untangled_0 rfl (lv_at hl 1 rfl) ?_
  refine lv_istore (lv' := [(5, .int a1), (0, .ref (Z.2.2.1 (33 + 7 * d))), (1, .int a1), (2, .ref (Z.2.2.1 4)), (3, .ref (Z.2.2.1 19)), (4, .int a4)]) hx hb dX1_untangled_1 hl (by decide) rfl (fun ls hl => ?_)
  refine lv_iconst (v := (nI 0)) hx hb dX1_untangled_3 (by decide) ?_
  refine lv_istore (lv' := [(6, .int (nI 0)), (5, .int a1), (0, .ref (Z.2.2.1 (33 + 7 * d))), (1, .int a1), (2, .ref (Z.2.2.1 4)), (3, .ref (Z.2.2.1 19)), (4, .int a4)]) hx hb dX1_untangled_4 hl (by decide) rfl (fun ls hl => ?_)
  obtain ⟨f_6, h⟩ := h
  exact b_X1_untangled_6 hi C hd f_6 _ _ _ _ _ _ hP hS (lv_sub hl [2, 4, 5, 6, 1, 0] rfl) h
def q_X1_note (d : Nat) (S : St) (a1 : Int32) (a2 : Int32) (a3 : Int32) (k : St → Prop) : Prop := ((nI 288) ≤ (S.1 (33 + 7 * d) 4) → (k S)) ∧ (¬ (nI 288) ≤ (S.1 (33 + 7 * d) 4) → (vp_in (S.1 (33 + 7 * d) 4) 288 ∧ (∀ S_3 : St, S_3 = sI S (33 + 7 * d + 6) (S.1 (33 + 7 * d) 4).toNatClampNeg ((((((a3 <<< ((nI 4) &&& 31)) ||| (S.1 (33 + 7 * d) 0)) <<< ((nI 4) &&& 31)) ||| a2) <<< ((nI 4) &&& 31)) ||| a1) → (∀ S_4 : St, S_4 = sI S_3 (33 + 7 * d) 4 ((S_3.1 (33 + 7 * d) 4) + (nI 1)) → (k S_4)))))
set_option maxRecDepth 100000 in
set_option maxHeartbeats 4000000 in
theorem c_X1_note {l : Launch} {Z : ZT} (hi : injZ 68 Z) (d : Nat) (hd : d < 5) (S : St) (a1 : Int32) (a2 : Int32) (a3 : Int32) (k : St → Prop) (h : q_X1_note d S a1 a2 a3 k) : Mv l shX 68 Z (gX Z) yX1_note cX1_note 4 none (rmk 0 0) [.ref (Z.2.2.1 (33 + 7 * d)), .int a1, .int a2, .int a3] S k := by
  have g := gokX hi
  refine e_v (by decide) (Nat.le_of_ble_eq_true rfl) (lv := [(0, .ref (Z.2.2.1 (33 + 7 * d))), (1, .int a1), (2, .int a2), (3, .int a3)]) rfl (fun p e s m args below meth c C hP hS ls hl => ?_)
  have hx := C.1.1
  have hb := C.1.2.1
  unfold q_X1_note at h
  refine lv_aload_n hx hb dX1_note_0 rfl (lv_at hl 0 rfl) ?_
  refine s_gI g C hP (33 + 7 * d) 4 (ltX_day (d := d) hd) (shX_day (d := d) hd) rfl cfX1 (by decide) kFL_X1_56 dX1_note_1 ?_
  refine lv_sipush (v := (nI 288)) hx hb dX1_note_4 (by decide) ?_
  refine lv_icmp_ge (tgt := 45) hx hb dX1_note_7 (by decide) (fun c_1 => ?_) (fun c_1 => ?_)
  · have h := h.1 c_1
    exact s_rv C hP hS h dX1_note_45
  · have h := h.2 c_1
    refine lv_aload_n hx hb dX1_note_10 rfl (lv_at hl 0 rfl) ?_
    refine s_gR g C hP (33 + 7 * d) 10 (33 + 7 * d + 6) (ltX_day (d := d) hd) (shX_day (d := d) hd) rfl cfX1 (by decide) kFL_X1_27 dX1_note_11 ?_
    refine lv_aload_n hx hb dX1_note_14 rfl (lv_at hl 0 rfl) ?_
    refine s_gI g C hP (33 + 7 * d) 4 (ltX_day (d := d) hd) (shX_day (d := d) hd) rfl cfX1 (by decide) kFL_X1_56 dX1_note_15 ?_
    refine lv_iload_n hx hb dX1_note_18 rfl (lv_at hl 3 rfl) ?_
    refine lv_iconst (v := (nI 4)) hx hb dX1_note_19 (by decide) ?_
    refine lv_ishl hx hb dX1_note_20 ?_
    refine lv_aload_n hx hb dX1_note_21 rfl (lv_at hl 0 rfl) ?_
    refine s_gI g C hP (33 + 7 * d) 0 (ltX_day (d := d) hd) (shX_day (d := d) hd) rfl cfX1 (by decide) kFL_X1_65 dX1_note_22 ?_
    refine lv_ior hx hb dX1_note_25 ?_
    refine lv_iconst (v := (nI 4)) hx hb dX1_note_26 (by decide) ?_
    refine lv_ishl hx hb dX1_note_27 ?_
    refine lv_iload_n hx hb dX1_note_28 rfl (lv_at hl 2 rfl) ?_
    refine lv_ior hx hb dX1_note_29 ?_
    refine lv_iconst (v := (nI 4)) hx hb dX1_note_30 (by decide) ?_
    refine lv_ishl hx hb dX1_note_31 ?_
    refine lv_iload_n hx hb dX1_note_32 rfl (lv_at hl 1 rfl) ?_
    refine lv_ior hx hb dX1_note_33 ?_
    have hv_2 := h.1
    have h := h.2
    refine s_stI g C hP hS (33 + 7 * d + 6) (ltX_day6 (d := d) hd) (shX_day6 (d := d) hd) hv_2 dX1_note_34 (fun H locs hP hS => ?_)
    obtain ⟨S_3, eS_3⟩ : ∃ z_ : St, z_ = sI S (33 + 7 * d + 6) (S.1 (33 + 7 * d) 4).toNatClampNeg ((((((a3 <<< ((nI 4) &&& 31)) ||| (S.1 (33 + 7 * d) 0)) <<< ((nI 4) &&& 31)) ||| a2) <<< ((nI 4) &&& 31)) ||| a1) := ⟨_, rfl⟩
    rw [← eS_3] at hP
    have h := h S_3 eS_3
    refine lv_aload_n hx hb dX1_note_35 rfl (lv_at hl 0 rfl) ?_
    refine lv_dup hx hb dX1_note_36 rfl ?_
    refine s_gI g C hP (33 + 7 * d) 4 (ltX_day (d := d) hd) (shX_day (d := d) hd) rfl cfX1 (by decide) kFL_X1_56 dX1_note_37 ?_
    refine lv_iconst (v := (nI 1)) hx hb dX1_note_40 (by decide) ?_
    refine lv_iadd hx hb dX1_note_41 ?_
    refine s_pI g C hP hS (33 + 7 * d) 4 (ltX_day (d := d) hd) (shX_day (d := d) hd) rfl cfX1 (by decide) rfl rfl rfl kFL_X1_56 dX1_note_42 (fun H locs hP hS => ?_)
    obtain ⟨S_4, eS_4⟩ : ∃ z_ : St, z_ = sI S_3 (33 + 7 * d) 4 ((S_3.1 (33 + 7 * d) 4) + (nI 1)) := ⟨_, rfl⟩
    rw [← eS_4] at hP
    have h := h S_4 eS_4
    exact s_rv C hP hS h dX1_note_45
def q_X1_fish_112 (d : Nat) (a1 : Int32) (k : St → Prop) (e_42 : St → Int32 → Int32 → Int32 → Int32 → Prop) (S : St) (x4 : Int32) (x5 : Int32) (x6 : Int32) (x7 : Int32) : Prop := ∀ x7_1 : Int32, x7_1 = x7 + (nI 1) → (e_42 S x4 x5 x6 x7_1)
set_option maxRecDepth 100000 in
set_option maxHeartbeats 4000000 in
theorem b_X1_fish_112 {p : Program} {l : Launch} {e : Env} {s : State} {m : MethodId} {args : Array Value} {below : List Frame} {meth : Method} {c : Code} {Z : ZT} (hi : injZ 68 Z) (C : Cxt (gX Z) p s m meth c args yX1_fish cX1_fish 9 none) {d : Nat} {a1 : Int32} {k : St → Prop} {e_42 : St → Int32 → Int32 → Int32 → Int32 → Prop} (hd : d < 5) (he_42 : ∀ (S : St) (x4 : Int32) (x5 : Int32) (x6 : Int32) (x7 : Int32) (H : Heap) (locs : List Loc) (ls : Array Slot), va_P Z.1 vwCl (wl shX 68 Z S) H → va_S (aa 68 Z) s.heap H locs → lv_has ls 9 [(0, .ref (Z.2.2.1 (33 + 7 * d))), (1, .int a1), (2, .ref (Z.2.2.1 4)), (4, .int x4), (5, .int x5), (6, .int x6), (7, .int x7)] → e_42 S x4 x5 x6 x7 → W p l e (rmk 1 24) s m args below meth c H locs 0 0 (Qv below shX 68 Z args s k) (F0 m 42 ls [])) (S : St) (x4 : Int32) (x5 : Int32) (x6 : Int32) (x7 : Int32) (H : Heap) (locs : List Loc) (ls : Array Slot) (hP : va_P Z.1 vwCl (wl shX 68 Z S) H) (hS : va_S (aa 68 Z) s.heap H locs) (hl : lv_has ls 9 [(0, .ref (Z.2.2.1 (33 + 7 * d))), (1, .int a1), (2, .ref (Z.2.2.1 4)), (4, .int x4), (5, .int x5), (6, .int x6), (7, .int x7)]) (h : q_X1_fish_112 d a1 k e_42 S x4 x5 x6 x7) : W p l e (rmk 1 24) s m args below meth c H locs 0 0 (Qv below shX 68 Z args s k) (F0 m 112 ls []) := by
  have g := gokX hi
  have hx := C.1.1
  have hb := C.1.2.1
  unfold q_X1_fish_112 at h
  obtain ⟨x7_1, ex7_1⟩ : ∃ y_ : Int32, y_ = x7 + (nI 1) := ⟨_, rfl⟩
  have h := h x7_1 ex7_1
  refine lv_iinc (v := x7_1) (lv' := [(7, .int x7_1), (0, .ref (Z.2.2.1 (33 + 7 * d))), (1, .int a1), (2, .ref (Z.2.2.1 4)), (4, .int x4), (5, .int x5), (6, .int x6)]) hx hb dX1_fish_112 hl (k := 6) rfl (by rw [ex7_1]; rfl) (by decide) rfl (fun ls hl => ?_)
  refine lv_goto (tgt := 42) hx hb dX1_fish_115 (by decide) ?_
  exact he_42 _ _ _ _ _ _ _ _ hP hS (lv_sub hl [1, 2, 3, 4, 5, 6, 0] rfl) h
def q_X1_fish_77 (d : Nat) (a1 : Int32) (k : St → Prop) (e_42 : St → Int32 → Int32 → Int32 → Int32 → Prop) (S : St) (x4 : Int32) (x5 : Int32) (x6 : Int32) (x7 : Int32) (t0 : Int32) : Prop := (t0 ≤ (nI 0) → (q_X1_fish_112 d a1 k e_42 S x4 x5 x6 x7)) ∧ (¬ t0 ≤ (nI 0) → (vp_in x7 4 ∧ (vp_in x7 4 ∧ (∀ S_4 : St, S_4 = sI S (33 + 7 * d + 5) x7.toNatClampNeg ((S.1 (33 + 7 * d + 5) x7.toNatClampNeg) - t0) → (∀ x6_5 : Int32, x6_5 = (x6 + t0) → (q_X1_note d S_4 a1 x7 t0 (fun S_6 => (q_X1_fish_112 d a1 k e_42 S_6 x4 x5 x6_5 x7))))))))
set_option maxRecDepth 100000 in
set_option maxHeartbeats 4000000 in
theorem b_X1_fish_77 {p : Program} {l : Launch} {e : Env} {s : State} {m : MethodId} {args : Array Value} {below : List Frame} {meth : Method} {c : Code} {Z : ZT} (hi : injZ 68 Z) (C : Cxt (gX Z) p s m meth c args yX1_fish cX1_fish 9 none) {d : Nat} {a1 : Int32} {k : St → Prop} {e_42 : St → Int32 → Int32 → Int32 → Int32 → Prop} (hd : d < 5) (he_42 : ∀ (S : St) (x4 : Int32) (x5 : Int32) (x6 : Int32) (x7 : Int32) (H : Heap) (locs : List Loc) (ls : Array Slot), va_P Z.1 vwCl (wl shX 68 Z S) H → va_S (aa 68 Z) s.heap H locs → lv_has ls 9 [(0, .ref (Z.2.2.1 (33 + 7 * d))), (1, .int a1), (2, .ref (Z.2.2.1 4)), (4, .int x4), (5, .int x5), (6, .int x6), (7, .int x7)] → e_42 S x4 x5 x6 x7 → W p l e (rmk 1 24) s m args below meth c H locs 0 0 (Qv below shX 68 Z args s k) (F0 m 42 ls [])) (S : St) (x4 : Int32) (x5 : Int32) (x6 : Int32) (x7 : Int32) (t0 : Int32) (H : Heap) (locs : List Loc) (ls : Array Slot) (hP : va_P Z.1 vwCl (wl shX 68 Z S) H) (hS : va_S (aa 68 Z) s.heap H locs) (hl : lv_has ls 9 [(0, .ref (Z.2.2.1 (33 + 7 * d))), (1, .int a1), (2, .ref (Z.2.2.1 4)), (4, .int x4), (5, .int x5), (6, .int x6), (7, .int x7)]) (h : q_X1_fish_77 d a1 k e_42 S x4 x5 x6 x7 t0) : W p l e (rmk 1 24) s m args below meth c H locs 0 0 (Qv below shX 68 Z args s k) (F0 m 77 ls [.int t0]) := by
  have g := gokX hi
  have hx := C.1.1
  have hb := C.1.2.1
  unfold q_X1_fish_77 at h
  refine lv_istore (lv' := [(8, .int t0), (0, .ref (Z.2.2.1 (33 + 7 * d))), (1, .int a1), (2, .ref (Z.2.2.1 4)), (4, .int x4), (5, .int x5), (6, .int x6), (7, .int x7)]) hx hb dX1_fish_77 hl (by decide) rfl (fun ls hl => ?_)
  refine lv_iload hx hb dX1_fish_79 (lv_at hl 0 rfl) ?_
  refine lv_if_le (tgt := 112) hx hb dX1_fish_81 (by decide) (fun c_1 => ?_) (fun c_1 => ?_)
  · have h := h.1 c_1
    exact b_X1_fish_112 hi C hd he_42 _ _ _ _ _ _ _ _ hP hS (lv_sub hl [1, 2, 3, 4, 5, 6, 7] rfl) h
  · have h := h.2 c_1
    refine lv_aload_n hx hb dX1_fish_84 rfl (lv_at hl 1 rfl) ?_
    refine s_gR g C hP (33 + 7 * d) 9 (33 + 7 * d + 5) (ltX_day (d := d) hd) (shX_day (d := d) hd) rfl cfX1 (by decide) kFL_X1_24 dX1_fish_85 ?_
    refine lv_iload hx hb dX1_fish_88 (lv_at hl 7 rfl) ?_
    refine lv_dup2_11 hx hb dX1_fish_90 rfl rfl ?_
    have hv_2 := h.1
    have h := h.2
    refine s_aI g C hP (33 + 7 * d + 5) (ltX_day5 (d := d) hd) (shX_day5 (d := d) hd) hv_2 dX1_fish_91 ?_
    refine lv_iload hx hb dX1_fish_92 (lv_at hl 0 rfl) ?_
    refine lv_isub hx hb dX1_fish_94 ?_
    have hv_3 := h.1
    have h := h.2
    refine s_stI g C hP hS (33 + 7 * d + 5) (ltX_day5 (d := d) hd) (shX_day5 (d := d) hd) hv_3 dX1_fish_95 (fun H locs hP hS => ?_)
    obtain ⟨S_4, eS_4⟩ : ∃ z_ : St, z_ = sI S (33 + 7 * d + 5) x7.toNatClampNeg ((S.1 (33 + 7 * d + 5) x7.toNatClampNeg) - t0) := ⟨_, rfl⟩
    rw [← eS_4] at hP
    have h := h S_4 eS_4
    refine lv_iload hx hb dX1_fish_96 (lv_at hl 6 rfl) ?_
    refine lv_iload hx hb dX1_fish_98 (lv_at hl 0 rfl) ?_
    refine lv_iadd hx hb dX1_fish_100 ?_
    refine lv_topi (fun x6_5 ex6_5 => ?_)
    have h := h x6_5 ex6_5
    refine lv_istore (lv' := [(6, .int x6_5), (8, .int t0), (0, .ref (Z.2.2.1 (33 + 7 * d))), (1, .int a1), (2, .ref (Z.2.2.1 4)), (4, .int x4), (5, .int x5), (7, .int x7)]) hx hb dX1_fish_101 hl (by decide) rfl (fun ls hl => ?_)
    refine lv_aload_n hx hb dX1_fish_103 rfl (lv_at hl 2 rfl) ?_
    refine lv_iload_n hx hb dX1_fish_104 rfl (lv_at hl 3 rfl) ?_
    refine lv_iload hx hb dX1_fish_105 (lv_at hl 7 rfl) ?_
    refine lv_iload hx hb dX1_fish_107 (lv_at hl 1 rfl) ?_
    refine go_v (run_V g C hP hS (c0 := (33 + 7 * d)) (As := [.int a1, .int x7, .int t0]) (rest := []) (c_X1_note hi d hd S_4 a1 x7 t0 _ h) cal_X1_note kML_X1_127 (ltX_day (d := d) hd) (shX_day (d := d) hd) cfX1 ⟨rfl, rfl, Nat.le_of_ble_eq_true rfl, Nat.le_of_ble_eq_true rfl⟩ rfl rfl hl.1 (Nat.le_of_ble_eq_true rfl) dX1_fish_109) hS (fun S_6 H locs h hP hS => ?_)
    exact b_X1_fish_112 hi C hd he_42 _ _ _ _ _ _ _ _ hP hS (lv_sub hl [2, 3, 4, 5, 6, 0, 7] rfl) h
def q_X1_fish_42 (d : Nat) (a1 : Int32) (k : St → Prop) : Nat → St → Int32 → Int32 → Int32 → Int32 → Prop := fun n_ => Nat.rec (motive := fun _ => St → Int32 → Int32 → Int32 → Int32 → Prop) (fun _ _ _ _ _ => False) (fun _ ih => fun S x4 x5 x6 x7 => ((nI 4) ≤ x7 → (q_X4_afterGulls S x6 (fun r_2 => (vp_in a1 6 ∧ (vp_in a1 6 ∧ (∀ S_5 : St, S_5 = sI S (33 + 7 * d + 2) a1.toNatClampNeg ((S.1 (33 + 7 * d + 2) a1.toNatClampNeg) + r_2) → (∀ S_6 : St, S_6 = sI S_5 (33 + 7 * d) 2 ((S_5.1 (33 + 7 * d) 2) + r_2) → (∀ S_7 : St, S_7 = sI S_6 (33 + 7 * d) 3 ((S_6.1 (33 + 7 * d) 3) + (x6 - r_2)) → (k S_7))))))))) ∧ (¬ (nI 4) ≤ x7 → (q_X8_isIn S x4 x7 (fun r_8 => ((r_8 = (nI 0) → (q_X1_fish_77 d a1 k ih S x4 x5 x6 x7 (nI 0))) ∧ (¬ r_8 = (nI 0) → (vp_in x7 4 ∧ (q_X1_fish_77 d a1 k ih S x4 x5 x6 x7 (if (x5 - x6) < (S.1 (33 + 7 * d + 5) x7.toNatClampNeg) then (x5 - x6) else (S.1 (33 + 7 * d + 5) x7.toNatClampNeg)))))))))) n_
theorem q_X1_fish_42_s (d : Nat) (a1 : Int32) (k : St → Prop) (n_ : Nat) (S : St) (x4 : Int32) (x5 : Int32) (x6 : Int32) (x7 : Int32) : q_X1_fish_42 d a1 k (n_ + 1) S x4 x5 x6 x7 = (((nI 4) ≤ x7 → (q_X4_afterGulls S x6 (fun r_2 => (vp_in a1 6 ∧ (vp_in a1 6 ∧ (∀ S_5 : St, S_5 = sI S (33 + 7 * d + 2) a1.toNatClampNeg ((S.1 (33 + 7 * d + 2) a1.toNatClampNeg) + r_2) → (∀ S_6 : St, S_6 = sI S_5 (33 + 7 * d) 2 ((S_5.1 (33 + 7 * d) 2) + r_2) → (∀ S_7 : St, S_7 = sI S_6 (33 + 7 * d) 3 ((S_6.1 (33 + 7 * d) 3) + (x6 - r_2)) → (k S_7))))))))) ∧ (¬ (nI 4) ≤ x7 → (q_X8_isIn S x4 x7 (fun r_8 => ((r_8 = (nI 0) → (q_X1_fish_77 d a1 k (q_X1_fish_42 d a1 k n_) S x4 x5 x6 x7 (nI 0))) ∧ (¬ r_8 = (nI 0) → (vp_in x7 4 ∧ (q_X1_fish_77 d a1 k (q_X1_fish_42 d a1 k n_) S x4 x5 x6 x7 (if (x5 - x6) < (S.1 (33 + 7 * d + 5) x7.toNatClampNeg) then (x5 - x6) else (S.1 (33 + 7 * d + 5) x7.toNatClampNeg)))))))))) := rfl
set_option maxRecDepth 100000 in
set_option maxHeartbeats 4000000 in
theorem b_X1_fish_42 {p : Program} {l : Launch} {e : Env} {s : State} {m : MethodId} {args : Array Value} {below : List Frame} {meth : Method} {c : Code} {Z : ZT} (hi : injZ 68 Z) (C : Cxt (gX Z) p s m meth c args yX1_fish cX1_fish 9 none) {d : Nat} {a1 : Int32} {k : St → Prop} (hd : d < 5)  : ∀ (n_ : Nat) (S : St) (x4 : Int32) (x5 : Int32) (x6 : Int32) (x7 : Int32) (H : Heap) (locs : List Loc) (ls : Array Slot), va_P Z.1 vwCl (wl shX 68 Z S) H → va_S (aa 68 Z) s.heap H locs → lv_has ls 9 [(0, .ref (Z.2.2.1 (33 + 7 * d))), (1, .int a1), (2, .ref (Z.2.2.1 4)), (4, .int x4), (5, .int x5), (6, .int x6), (7, .int x7)] → q_X1_fish_42 d a1 k n_ S x4 x5 x6 x7 → W p l e (rmk 1 24) s m args below meth c H locs 0 0 (Qv below shX 68 Z args s k) (F0 m 42 ls []) := by
  have g := gokX hi
  have hx := C.1.1
  have hb := C.1.2.1
  intro n_
  induction n_ with
  | zero => intro S x4 x5 x6 x7 H locs ls hP hS hl h; exact h.elim
  | succ n_ ih =>
    intro S x4 x5 x6 x7 H locs ls hP hS hl h
    rw [q_X1_fish_42_s] at h
    refine lv_iload hx hb dX1_fish_42 (lv_at hl 6 rfl) ?_
    refine lv_iconst (v := (nI 4)) hx hb dX1_fish_44 (by decide) ?_
    refine lv_icmp_ge (tgt := 118) hx hb dX1_fish_45 (by decide) (fun c_1 => ?_) (fun c_1 => ?_)
    · have h := h.1 c_1
      refine lv_aload_n hx hb dX1_fish_118 rfl (lv_at hl 2 rfl) ?_
      refine lv_iload hx hb dX1_fish_119 (lv_at hl 5 rfl) ?_
      refine go_ip (run_V g C hP hS (c0 := 4) (As := [.int x6]) (rest := []) (c_X4_afterGulls hi S x6 _ h) cal_X4_afterGulls kML_X1_131 (by decide) rfl cfX4 ⟨rfl, rfl, Nat.le_of_ble_eq_true rfl, Nat.le_of_ble_eq_true rfl⟩ rfl rfl hl.1 (Nat.le_of_ble_eq_true rfl) dX1_fish_121) hS (fun r_2 H locs h hP hS => ?_)
      refine lv_istore (lv' := [(7, .int r_2), (0, .ref (Z.2.2.1 (33 + 7 * d))), (1, .int a1), (2, .ref (Z.2.2.1 4)), (4, .int x4), (5, .int x5), (6, .int x6)]) hx hb dX1_fish_124 hl (by decide) rfl (fun ls hl => ?_)
      refine lv_aload_n hx hb dX1_fish_126 rfl (lv_at hl 1 rfl) ?_
      refine s_gR g C hP (33 + 7 * d) 6 (33 + 7 * d + 2) (ltX_day (d := d) hd) (shX_day (d := d) hd) rfl cfX1 (by decide) kFL_X1_15 dX1_fish_127 ?_
      refine lv_iload_n hx hb dX1_fish_130 rfl (lv_at hl 2 rfl) ?_
      refine lv_dup2_11 hx hb dX1_fish_131 rfl rfl ?_
      have hv_3 := h.1
      have h := h.2
      refine s_aI g C hP (33 + 7 * d + 2) (ltX_day2 (d := d) hd) (shX_day2 (d := d) hd) hv_3 dX1_fish_132 ?_
      refine lv_iload hx hb dX1_fish_133 (lv_at hl 0 rfl) ?_
      refine lv_iadd hx hb dX1_fish_135 ?_
      have hv_4 := h.1
      have h := h.2
      refine s_stI g C hP hS (33 + 7 * d + 2) (ltX_day2 (d := d) hd) (shX_day2 (d := d) hd) hv_4 dX1_fish_136 (fun H locs hP hS => ?_)
      obtain ⟨S_5, eS_5⟩ : ∃ z_ : St, z_ = sI S (33 + 7 * d + 2) a1.toNatClampNeg ((S.1 (33 + 7 * d + 2) a1.toNatClampNeg) + r_2) := ⟨_, rfl⟩
      rw [← eS_5] at hP
      have h := h S_5 eS_5
      refine lv_aload_n hx hb dX1_fish_137 rfl (lv_at hl 1 rfl) ?_
      refine lv_dup hx hb dX1_fish_138 rfl ?_
      refine s_gI g C hP (33 + 7 * d) 2 (ltX_day (d := d) hd) (shX_day (d := d) hd) rfl cfX1 (by decide) kFL_X1_50 dX1_fish_139 ?_
      refine lv_iload hx hb dX1_fish_142 (lv_at hl 0 rfl) ?_
      refine lv_iadd hx hb dX1_fish_144 ?_
      refine s_pI g C hP hS (33 + 7 * d) 2 (ltX_day (d := d) hd) (shX_day (d := d) hd) rfl cfX1 (by decide) rfl rfl rfl kFL_X1_50 dX1_fish_145 (fun H locs hP hS => ?_)
      obtain ⟨S_6, eS_6⟩ : ∃ z_ : St, z_ = sI S_5 (33 + 7 * d) 2 ((S_5.1 (33 + 7 * d) 2) + r_2) := ⟨_, rfl⟩
      rw [← eS_6] at hP
      have h := h S_6 eS_6
      refine lv_aload_n hx hb dX1_fish_148 rfl (lv_at hl 1 rfl) ?_
      refine lv_dup hx hb dX1_fish_149 rfl ?_
      refine s_gI g C hP (33 + 7 * d) 3 (ltX_day (d := d) hd) (shX_day (d := d) hd) rfl cfX1 (by decide) kFL_X1_53 dX1_fish_150 ?_
      refine lv_iload hx hb dX1_fish_153 (lv_at hl 6 rfl) ?_
      refine lv_iload hx hb dX1_fish_155 (lv_at hl 0 rfl) ?_
      refine lv_isub hx hb dX1_fish_157 ?_
      refine lv_iadd hx hb dX1_fish_158 ?_
      refine s_pI g C hP hS (33 + 7 * d) 3 (ltX_day (d := d) hd) (shX_day (d := d) hd) rfl cfX1 (by decide) rfl rfl rfl kFL_X1_53 dX1_fish_159 (fun H locs hP hS => ?_)
      obtain ⟨S_7, eS_7⟩ : ∃ z_ : St, z_ = sI S_6 (33 + 7 * d) 3 ((S_6.1 (33 + 7 * d) 3) + (x6 - r_2)) := ⟨_, rfl⟩
      rw [← eS_7] at hP
      have h := h S_7 eS_7
      exact s_rv C hP hS h dX1_fish_162
    · have h := h.2 c_1
      refine lv_iload hx hb dX1_fish_48 (lv_at hl 3 rfl) ?_
      refine lv_iload hx hb dX1_fish_50 (lv_at hl 6 rfl) ?_
      refine go_ip (run_SN g C hP hS (As := [.int x4, .int x7]) (rest := []) (c_X8_isIn hi S x4 x7 _ h) cal_X8_isIn (nstX C.2.2.2 13 rfl) ⟨rfl, rfl, Nat.le_of_ble_eq_true rfl, Nat.le_of_ble_eq_true rfl⟩ rfl rfl hl.1 (Nat.le_of_ble_eq_true rfl) dX1_fish_52) hS (fun r_8 H locs h hP hS => ?_)
      obtain ⟨hbr_8, h⟩ := h
      refine lv_if_eq (tgt := 76) hx hb dX1_fish_55 (by decide) (fun c_9 => ?_) (fun c_9 => ?_)
      · have h := h.1 c_9
        refine lv_iconst (v := (nI 0)) hx hb dX1_fish_76 (by decide) ?_
        exact b_X1_fish_77 hi C hd ih _ _ _ _ _ _ _ _ _ hP hS (lv_sub hl [0, 1, 2, 3, 4, 5, 6] rfl) h
      · have h := h.2 c_9
        refine lv_aload_n hx hb dX1_fish_58 rfl (lv_at hl 0 rfl) ?_
        refine s_gR g C hP (33 + 7 * d) 9 (33 + 7 * d + 5) (ltX_day (d := d) hd) (shX_day (d := d) hd) rfl cfX1 (by decide) kFL_X1_24 dX1_fish_59 ?_
        refine lv_iload hx hb dX1_fish_62 (lv_at hl 6 rfl) ?_
        have hv_10 := h.1
        have h := h.2
        refine s_aI g C hP (33 + 7 * d + 5) (ltX_day5 (d := d) hd) (shX_day5 (d := d) hd) hv_10 dX1_fish_64 ?_
        refine lv_iload hx hb dX1_fish_65 (lv_at hl 4 rfl) ?_
        refine lv_iload hx hb dX1_fish_67 (lv_at hl 5 rfl) ?_
        refine lv_isub hx hb dX1_fish_69 ?_
        refine s_min C hl.1 kML_X1_121 ⟨Nat.le_of_ble_eq_true rfl, Nat.le_of_ble_eq_true rfl⟩ dX1_fish_70 ?_
        refine lv_goto (tgt := 77) hx hb dX1_fish_73 (by decide) ?_
        exact b_X1_fish_77 hi C hd ih _ _ _ _ _ _ _ _ _ hP hS (lv_sub hl [0, 1, 2, 3, 4, 5, 6] rfl) h
def q_X1_fish (d : Nat) (S : St) (a1 : Int32) (k : St → Prop) : Prop := vp_in a1 6 ∧ (q_X0_met S a1 (S.1 (33 + 7 * d + 1) a1.toNatClampNeg) (S.1 (33 + 7 * d) 0) (fun r_2 => ((r_2 = (nI 0) → (k S)) ∧ (¬ r_2 = (nI 0) → (vp_in a1 6 ∧ (∀ x5_5 : Int32, x5_5 = ((nI 3) * (S.1 (9 + a1.toNatClampNeg) 4)) → (∃ f_42, q_X1_fish_42 d a1 k f_42 S r_2 x5_5 (nI 0) (nI 0))))))))
set_option maxRecDepth 100000 in
set_option maxHeartbeats 4000000 in
theorem c_X1_fish {l : Launch} {Z : ZT} (hi : injZ 68 Z) (d : Nat) (hd : d < 5) (S : St) (a1 : Int32) (k : St → Prop) (h : q_X1_fish d S a1 k) : Mv l shX 68 Z (gX Z) yX1_fish cX1_fish 9 none (rmk 1 24) [.ref (Z.2.2.1 (33 + 7 * d)), .int a1, .ref (Z.2.2.1 4), .ref (Z.2.2.1 19)] S k := by
  have g := gokX hi
  refine e_v (by decide) (Nat.le_of_ble_eq_true rfl) (lv := [(0, .ref (Z.2.2.1 (33 + 7 * d))), (1, .int a1), (2, .ref (Z.2.2.1 4)), (3, .ref (Z.2.2.1 19))]) rfl (fun p e s m args below meth c C hP hS ls hl => ?_)
  have hx := C.1.1
  have hb := C.1.2.1
  unfold q_X1_fish at h
  refine lv_aload_n hx hb dX1_fish_0 rfl (lv_at hl 3 rfl) ?_
  refine lv_iload_n hx hb dX1_fish_1 rfl (lv_at hl 1 rfl) ?_
  refine lv_aload_n hx hb dX1_fish_2 rfl (lv_at hl 0 rfl) ?_
  refine s_gR g C hP (33 + 7 * d) 5 (33 + 7 * d + 1) (ltX_day (d := d) hd) (shX_day (d := d) hd) rfl cfX1 (by decide) kFL_X1_9 dX1_fish_3 ?_
  refine lv_iload_n hx hb dX1_fish_6 rfl (lv_at hl 1 rfl) ?_
  have hv_1 := h.1
  have h := h.2
  refine s_aI g C hP (33 + 7 * d + 1) (ltX_day1 (d := d) hd) (shX_day1 (d := d) hd) hv_1 dX1_fish_7 ?_
  refine lv_aload_n hx hb dX1_fish_8 rfl (lv_at hl 0 rfl) ?_
  refine s_gI g C hP (33 + 7 * d) 0 (ltX_day (d := d) hd) (shX_day (d := d) hd) rfl cfX1 (by decide) kFL_X1_65 dX1_fish_9 ?_
  refine go_ip (run_V g C hP hS (c0 := 19) (As := [.int a1, .int (S.1 (33 + 7 * d + 1) a1.toNatClampNeg), .int (S.1 (33 + 7 * d) 0)]) (rest := []) (c_X0_met hi S a1 (S.1 (33 + 7 * d + 1) a1.toNatClampNeg) (S.1 (33 + 7 * d) 0) _ h) cal_X0_met kML_X1_115 (by decide) rfl cfX0 ⟨rfl, rfl, Nat.le_of_ble_eq_true rfl, Nat.le_of_ble_eq_true rfl⟩ rfl rfl hl.1 (Nat.le_of_ble_eq_true rfl) dX1_fish_12) hS (fun r_2 H locs h hP hS => ?_)
  refine lv_istore (lv' := [(4, .int r_2), (0, .ref (Z.2.2.1 (33 + 7 * d))), (1, .int a1), (2, .ref (Z.2.2.1 4)), (3, .ref (Z.2.2.1 19))]) hx hb dX1_fish_15 hl (by decide) rfl (fun ls hl => ?_)
  refine lv_iload hx hb dX1_fish_17 (lv_at hl 0 rfl) ?_
  refine lv_if_ne (tgt := 23) hx hb dX1_fish_19 (by decide) (fun c_3 => ?_) (fun c_3 => ?_)
  · have h := h.2 c_3
    refine lv_iconst (v := (nI 3)) hx hb dX1_fish_23 (by decide) ?_
    refine lv_aload_n hx hb dX1_fish_24 rfl (lv_at hl 3 rfl) ?_
    refine s_gR g C hP 4 0 5 (by decide) rfl rfl cfX4 (by decide) kFL_X1_96 dX1_fish_25 ?_
    refine lv_iload_n hx hb dX1_fish_28 rfl (lv_at hl 2 rfl) ?_
    have hv_4 := h.1
    have h := h.2
    refine s_aR g C hP 5 (t := 0) (by decide) rfl rfl hv_4 dX1_fish_29 ?_
    refine s_gI g C hP (9 + a1.toNatClampNeg) 4 (ltX_kite (vin_lt hv_4)) (shX_kite (vin_lt hv_4)) rfl cfX2 (by decide) kFL_X1_118 dX1_fish_30 ?_
    refine lv_imul hx hb dX1_fish_33 ?_
    refine lv_topi (fun x5_5 ex5_5 => ?_)
    have h := h x5_5 ex5_5
    refine lv_istore (lv' := [(5, .int x5_5), (4, .int r_2), (0, .ref (Z.2.2.1 (33 + 7 * d))), (1, .int a1), (2, .ref (Z.2.2.1 4)), (3, .ref (Z.2.2.1 19))]) hx hb dX1_fish_34 hl (by decide) rfl (fun ls hl => ?_)
    refine lv_iconst (v := (nI 0)) hx hb dX1_fish_36 (by decide) ?_
    refine lv_istore (lv' := [(6, .int (nI 0)), (5, .int x5_5), (4, .int r_2), (0, .ref (Z.2.2.1 (33 + 7 * d))), (1, .int a1), (2, .ref (Z.2.2.1 4)), (3, .ref (Z.2.2.1 19))]) hx hb dX1_fish_37 hl (by decide) rfl (fun ls hl => ?_)
    refine lv_iconst (v := (nI 0)) hx hb dX1_fish_39 (by decide) ?_
    refine lv_istore (lv' := [(7, .int (nI 0)), (6, .int (nI 0)), (5, .int x5_5), (4, .int r_2), (0, .ref (Z.2.2.1 (33 + 7 * d))), (1, .int a1), (2, .ref (Z.2.2.1 4)), (3, .ref (Z.2.2.1 19))]) hx hb dX1_fish_40 hl (by decide) rfl (fun ls hl => ?_)
    obtain ⟨f_42, h⟩ := h
    exact b_X1_fish_42 hi C hd f_42 _ _ _ _ _ _ _ _ hP hS (lv_sub hl [4, 5, 6, 3, 2, 1, 0] rfl) h
  · have h := h.1 c_3
    exact s_rv C hP hS h dX1_fish_22
def q_X1_pass_77 (d : Nat) (a1 : Int32) (a4 : Int32) (k : St → Prop) (e_3 : St → Int32 → Prop) (e_39 : St → Int32 → Int32 → Prop) (S : St) (x5 : Int32) (x6 : Int32) : Prop := ∀ x6_1 : Int32, x6_1 = x6 + (nI 1) → (e_39 S x5 x6_1)
set_option maxRecDepth 100000 in
set_option maxHeartbeats 4000000 in
theorem b_X1_pass_77 {p : Program} {l : Launch} {e : Env} {s : State} {m : MethodId} {args : Array Value} {below : List Frame} {meth : Method} {c : Code} {Z : ZT} (hi : injZ 68 Z) (C : Cxt (gX Z) p s m meth c args yX1_pass cX1_pass 7 none) {d : Nat} {a1 : Int32} {a4 : Int32} {k : St → Prop} {e_3 : St → Int32 → Prop} {e_39 : St → Int32 → Int32 → Prop} (hd : d < 5) (he_3 : ∀ (S : St) (x5 : Int32) (H : Heap) (locs : List Loc) (ls : Array Slot), va_P Z.1 vwCl (wl shX 68 Z S) H → va_S (aa 68 Z) s.heap H locs → lv_has ls 7 [(0, .ref (Z.2.2.1 (33 + 7 * d))), (1, .int a1), (2, .ref (Z.2.2.1 4)), (3, .ref (Z.2.2.1 19)), (4, .int a4), (5, .int x5)] → e_3 S x5 → W p l e (rmk 3 77) s m args below meth c H locs 0 0 (Qv below shX 68 Z args s k) (F0 m 3 ls [])) (he_39 : ∀ (S : St) (x5 : Int32) (x6 : Int32) (H : Heap) (locs : List Loc) (ls : Array Slot), va_P Z.1 vwCl (wl shX 68 Z S) H → va_S (aa 68 Z) s.heap H locs → lv_has ls 7 [(0, .ref (Z.2.2.1 (33 + 7 * d))), (1, .int a1), (2, .ref (Z.2.2.1 4)), (3, .ref (Z.2.2.1 19)), (4, .int a4), (5, .int x5), (6, .int x6)] → e_39 S x5 x6 → W p l e (rmk 3 77) s m args below meth c H locs 0 0 (Qv below shX 68 Z args s k) (F0 m 39 ls [])) (S : St) (x5 : Int32) (x6 : Int32) (H : Heap) (locs : List Loc) (ls : Array Slot) (hP : va_P Z.1 vwCl (wl shX 68 Z S) H) (hS : va_S (aa 68 Z) s.heap H locs) (hl : lv_has ls 7 [(0, .ref (Z.2.2.1 (33 + 7 * d))), (1, .int a1), (2, .ref (Z.2.2.1 4)), (3, .ref (Z.2.2.1 19)), (4, .int a4), (5, .int x5), (6, .int x6)]) (h : q_X1_pass_77 d a1 a4 k e_3 e_39 S x5 x6) : W p l e (rmk 3 77) s m args below meth c H locs 0 0 (Qv below shX 68 Z args s k) (F0 m 77 ls []) := by
  have g := gokX hi
  have hx := C.1.1
  have hb := C.1.2.1
  unfold q_X1_pass_77 at h
  obtain ⟨x6_1, ex6_1⟩ : ∃ y_ : Int32, y_ = x6 + (nI 1) := ⟨_, rfl⟩
  have h := h x6_1 ex6_1
  refine lv_iinc (v := x6_1) (lv' := [(6, .int x6_1), (0, .ref (Z.2.2.1 (33 + 7 * d))), (1, .int a1), (2, .ref (Z.2.2.1 4)), (3, .ref (Z.2.2.1 19)), (4, .int a4), (5, .int x5)]) hx hb dX1_pass_77 hl (k := 6) rfl (by rw [ex6_1]; rfl) (by decide) rfl (fun ls hl => ?_)
  refine lv_goto (tgt := 39) hx hb dX1_pass_80 (by decide) ?_
  exact he_39 _ _ _ _ _ _ hP hS (lv_sub hl [1, 2, 3, 4, 5, 6, 0] rfl) h
def q_X1_pass_39 (d : Nat) (a1 : Int32) (a4 : Int32) (k : St → Prop) (e_3 : St → Int32 → Prop) : Nat → St → Int32 → Int32 → Prop := fun n_ => Nat.rec (motive := fun _ => St → Int32 → Int32 → Prop) (fun _ _ _ => False) (fun _ ih => fun S x5 x6 => ((nI 6) ≤ x6 → (∀ S_2 : St, S_2 = sI S (33 + 7 * d) 0 ((S.1 (33 + 7 * d) 0) + (nI 1)) → (∀ x5_3 : Int32, x5_3 = x5 + (nI 1) → (e_3 S_2 x5_3)))) ∧ (¬ (nI 6) ≤ x6 → (q_X8_isIn S (S.1 (33 + 7 * d) 1) x6 (fun r_4 => ((r_4 = (nI 0) → (q_X1_pass_77 d a1 a4 k e_3 ih S x5 x6)) ∧ (¬ r_4 = (nI 0) → (vp_in x6 6 ∧ (vp_in x6 6 ∧ (∀ S_8 : St, S_8 = sI S (33 + 7 * d + 3) x6.toNatClampNeg ((S.1 (33 + 7 * d + 3) x6.toNatClampNeg) + (nI 1)) → (q_X1_fish d S_8 x6 (fun S_9 => (q_X1_pass_77 d a1 a4 k e_3 ih S_9 x5 x6)))))))))))) n_
theorem q_X1_pass_39_s (d : Nat) (a1 : Int32) (a4 : Int32) (k : St → Prop) (e_3 : St → Int32 → Prop) (n_ : Nat) (S : St) (x5 : Int32) (x6 : Int32) : q_X1_pass_39 d a1 a4 k e_3 (n_ + 1) S x5 x6 = (((nI 6) ≤ x6 → (∀ S_2 : St, S_2 = sI S (33 + 7 * d) 0 ((S.1 (33 + 7 * d) 0) + (nI 1)) → (∀ x5_3 : Int32, x5_3 = x5 + (nI 1) → (e_3 S_2 x5_3)))) ∧ (¬ (nI 6) ≤ x6 → (q_X8_isIn S (S.1 (33 + 7 * d) 1) x6 (fun r_4 => ((r_4 = (nI 0) → (q_X1_pass_77 d a1 a4 k e_3 (q_X1_pass_39 d a1 a4 k e_3 n_) S x5 x6)) ∧ (¬ r_4 = (nI 0) → (vp_in x6 6 ∧ (vp_in x6 6 ∧ (∀ S_8 : St, S_8 = sI S (33 + 7 * d + 3) x6.toNatClampNeg ((S.1 (33 + 7 * d + 3) x6.toNatClampNeg) + (nI 1)) → (q_X1_fish d S_8 x6 (fun S_9 => (q_X1_pass_77 d a1 a4 k e_3 (q_X1_pass_39 d a1 a4 k e_3 n_) S_9 x5 x6)))))))))))) := rfl
set_option maxRecDepth 100000 in
set_option maxHeartbeats 4000000 in
theorem b_X1_pass_39 {p : Program} {l : Launch} {e : Env} {s : State} {m : MethodId} {args : Array Value} {below : List Frame} {meth : Method} {c : Code} {Z : ZT} (hi : injZ 68 Z) (C : Cxt (gX Z) p s m meth c args yX1_pass cX1_pass 7 none) {d : Nat} {a1 : Int32} {a4 : Int32} {k : St → Prop} {e_3 : St → Int32 → Prop} (hd : d < 5) (he_3 : ∀ (S : St) (x5 : Int32) (H : Heap) (locs : List Loc) (ls : Array Slot), va_P Z.1 vwCl (wl shX 68 Z S) H → va_S (aa 68 Z) s.heap H locs → lv_has ls 7 [(0, .ref (Z.2.2.1 (33 + 7 * d))), (1, .int a1), (2, .ref (Z.2.2.1 4)), (3, .ref (Z.2.2.1 19)), (4, .int a4), (5, .int x5)] → e_3 S x5 → W p l e (rmk 3 77) s m args below meth c H locs 0 0 (Qv below shX 68 Z args s k) (F0 m 3 ls [])) : ∀ (n_ : Nat) (S : St) (x5 : Int32) (x6 : Int32) (H : Heap) (locs : List Loc) (ls : Array Slot), va_P Z.1 vwCl (wl shX 68 Z S) H → va_S (aa 68 Z) s.heap H locs → lv_has ls 7 [(0, .ref (Z.2.2.1 (33 + 7 * d))), (1, .int a1), (2, .ref (Z.2.2.1 4)), (3, .ref (Z.2.2.1 19)), (4, .int a4), (5, .int x5), (6, .int x6)] → q_X1_pass_39 d a1 a4 k e_3 n_ S x5 x6 → W p l e (rmk 3 77) s m args below meth c H locs 0 0 (Qv below shX 68 Z args s k) (F0 m 39 ls []) := by
  have g := gokX hi
  have hx := C.1.1
  have hb := C.1.2.1
  intro n_
  induction n_ with
  | zero => intro S x5 x6 H locs ls hP hS hl h; exact h.elim
  | succ n_ ih =>
    intro S x5 x6 H locs ls hP hS hl h
    rw [q_X1_pass_39_s] at h
    refine lv_iload hx hb dX1_pass_39 (lv_at hl 6 rfl) ?_
    refine lv_bipush (v := (nI 6)) hx hb dX1_pass_41 (by decide) ?_
    refine lv_icmp_ge (tgt := 83) hx hb dX1_pass_43 (by decide) (fun c_1 => ?_) (fun c_1 => ?_)
    · have h := h.1 c_1
      refine lv_aload_n hx hb dX1_pass_83 rfl (lv_at hl 0 rfl) ?_
      refine lv_dup hx hb dX1_pass_84 rfl ?_
      refine s_gI g C hP (33 + 7 * d) 0 (ltX_day (d := d) hd) (shX_day (d := d) hd) rfl cfX1 (by decide) kFL_X1_65 dX1_pass_85 ?_
      refine lv_iconst (v := (nI 1)) hx hb dX1_pass_88 (by decide) ?_
      refine lv_iadd hx hb dX1_pass_89 ?_
      refine s_pI g C hP hS (33 + 7 * d) 0 (ltX_day (d := d) hd) (shX_day (d := d) hd) rfl cfX1 (by decide) rfl rfl rfl kFL_X1_65 dX1_pass_90 (fun H locs hP hS => ?_)
      obtain ⟨S_2, eS_2⟩ : ∃ z_ : St, z_ = sI S (33 + 7 * d) 0 ((S.1 (33 + 7 * d) 0) + (nI 1)) := ⟨_, rfl⟩
      rw [← eS_2] at hP
      have h := h S_2 eS_2
      obtain ⟨x5_3, ex5_3⟩ : ∃ y_ : Int32, y_ = x5 + (nI 1) := ⟨_, rfl⟩
      have h := h x5_3 ex5_3
      refine lv_iinc (v := x5_3) (lv' := [(5, .int x5_3), (0, .ref (Z.2.2.1 (33 + 7 * d))), (1, .int a1), (2, .ref (Z.2.2.1 4)), (3, .ref (Z.2.2.1 19)), (4, .int a4), (6, .int x6)]) hx hb dX1_pass_93 hl (k := 5) rfl (by rw [ex5_3]; rfl) (by decide) rfl (fun ls hl => ?_)
      refine lv_goto (tgt := 3) hx hb dX1_pass_96 (by decide) ?_
      exact he_3 _ _ _ _ _ hP hS (lv_sub hl [1, 2, 3, 4, 5, 0] rfl) h
    · have h := h.2 c_1
      refine lv_aload_n hx hb dX1_pass_46 rfl (lv_at hl 0 rfl) ?_
      refine s_gI g C hP (33 + 7 * d) 1 (ltX_day (d := d) hd) (shX_day (d := d) hd) rfl cfX1 (by decide) kFL_X1_68 dX1_pass_47 ?_
      refine lv_iload hx hb dX1_pass_50 (lv_at hl 6 rfl) ?_
      refine go_ip (run_SN g C hP hS (As := [.int (S.1 (33 + 7 * d) 1), .int x6]) (rest := []) (c_X8_isIn hi S (S.1 (33 + 7 * d) 1) x6 _ h) cal_X8_isIn (nstX C.2.2.2 13 rfl) ⟨rfl, rfl, Nat.le_of_ble_eq_true rfl, Nat.le_of_ble_eq_true rfl⟩ rfl rfl hl.1 (Nat.le_of_ble_eq_true rfl) dX1_pass_52) hS (fun r_4 H locs h hP hS => ?_)
      obtain ⟨hbr_4, h⟩ := h
      refine lv_if_eq (tgt := 77) hx hb dX1_pass_55 (by decide) (fun c_5 => ?_) (fun c_5 => ?_)
      · have h := h.1 c_5
        exact b_X1_pass_77 hi C hd he_3 ih _ _ _ _ _ _ hP hS (lv_sub hl [0, 1, 2, 3, 4, 5, 6] rfl) h
      · have h := h.2 c_5
        refine lv_aload_n hx hb dX1_pass_58 rfl (lv_at hl 0 rfl) ?_
        refine s_gR g C hP (33 + 7 * d) 7 (33 + 7 * d + 3) (ltX_day (d := d) hd) (shX_day (d := d) hd) rfl cfX1 (by decide) kFL_X1_18 dX1_pass_59 ?_
        refine lv_iload hx hb dX1_pass_62 (lv_at hl 6 rfl) ?_
        refine lv_dup2_11 hx hb dX1_pass_64 rfl rfl ?_
        have hv_6 := h.1
        have h := h.2
        refine s_aI g C hP (33 + 7 * d + 3) (ltX_day3 (d := d) hd) (shX_day3 (d := d) hd) hv_6 dX1_pass_65 ?_
        refine lv_iconst (v := (nI 1)) hx hb dX1_pass_66 (by decide) ?_
        refine lv_iadd hx hb dX1_pass_67 ?_
        have hv_7 := h.1
        have h := h.2
        refine s_stI g C hP hS (33 + 7 * d + 3) (ltX_day3 (d := d) hd) (shX_day3 (d := d) hd) hv_7 dX1_pass_68 (fun H locs hP hS => ?_)
        obtain ⟨S_8, eS_8⟩ : ∃ z_ : St, z_ = sI S (33 + 7 * d + 3) x6.toNatClampNeg ((S.1 (33 + 7 * d + 3) x6.toNatClampNeg) + (nI 1)) := ⟨_, rfl⟩
        rw [← eS_8] at hP
        have h := h S_8 eS_8
        refine lv_aload_n hx hb dX1_pass_69 rfl (lv_at hl 0 rfl) ?_
        refine lv_iload hx hb dX1_pass_70 (lv_at hl 6 rfl) ?_
        refine lv_aload_n hx hb dX1_pass_72 rfl (lv_at hl 2 rfl) ?_
        refine lv_aload_n hx hb dX1_pass_73 rfl (lv_at hl 3 rfl) ?_
        refine go_v (run_V g C hP hS (c0 := (33 + 7 * d)) (As := [.int x6, .ref (Z.2.2.1 4), .ref (Z.2.2.1 19)]) (rest := []) (c_X1_fish hi d hd S_8 x6 _ h) cal_X1_fish kML_X1_83 (ltX_day (d := d) hd) (shX_day (d := d) hd) cfX1 ⟨rfl, rfl, Nat.le_of_ble_eq_true rfl, Nat.le_of_ble_eq_true rfl⟩ rfl rfl hl.1 (Nat.le_of_ble_eq_true rfl) dX1_pass_74) hS (fun S_9 H locs h hP hS => ?_)
        exact b_X1_pass_77 hi C hd he_3 ih _ _ _ _ _ _ hP hS (lv_sub hl [0, 1, 2, 3, 4, 5, 6] rfl) h
def q_X1_pass_3 (d : Nat) (a1 : Int32) (a4 : Int32) (k : St → Prop) : Nat → St → Int32 → Prop := fun n_ => Nat.rec (motive := fun _ => St → Int32 → Prop) (fun _ _ => False) (fun _ ih => fun S x5 => (a1 ≤ x5 → (k S)) ∧ (¬ a1 ≤ x5 → (((nI 12) ≤ (S.1 (33 + 7 * d) 0) → (k S)) ∧ (¬ (nI 12) ≤ (S.1 (33 + 7 * d) 0) → (q_X1_risen d S (fun r_3 => (q_X1_untangled d S r_3 a4 (fun r_4 S_5 => (∀ S_6 : St, S_6 = sI S_5 (33 + 7 * d) 1 r_4 → (∃ f_39, q_X1_pass_39 d a1 a4 k ih f_39 S_6 x5 (nI 0))))))))))) n_
theorem q_X1_pass_3_s (d : Nat) (a1 : Int32) (a4 : Int32) (k : St → Prop) (n_ : Nat) (S : St) (x5 : Int32) : q_X1_pass_3 d a1 a4 k (n_ + 1) S x5 = ((a1 ≤ x5 → (k S)) ∧ (¬ a1 ≤ x5 → (((nI 12) ≤ (S.1 (33 + 7 * d) 0) → (k S)) ∧ (¬ (nI 12) ≤ (S.1 (33 + 7 * d) 0) → (q_X1_risen d S (fun r_3 => (q_X1_untangled d S r_3 a4 (fun r_4 S_5 => (∀ S_6 : St, S_6 = sI S_5 (33 + 7 * d) 1 r_4 → (∃ f_39, q_X1_pass_39 d a1 a4 k (q_X1_pass_3 d a1 a4 k n_) f_39 S_6 x5 (nI 0))))))))))) := rfl
set_option maxRecDepth 100000 in
set_option maxHeartbeats 4000000 in
theorem b_X1_pass_3 {p : Program} {l : Launch} {e : Env} {s : State} {m : MethodId} {args : Array Value} {below : List Frame} {meth : Method} {c : Code} {Z : ZT} (hi : injZ 68 Z) (C : Cxt (gX Z) p s m meth c args yX1_pass cX1_pass 7 none) {d : Nat} {a1 : Int32} {a4 : Int32} {k : St → Prop} (hd : d < 5)  : ∀ (n_ : Nat) (S : St) (x5 : Int32) (H : Heap) (locs : List Loc) (ls : Array Slot), va_P Z.1 vwCl (wl shX 68 Z S) H → va_S (aa 68 Z) s.heap H locs → lv_has ls 7 [(0, .ref (Z.2.2.1 (33 + 7 * d))), (1, .int a1), (2, .ref (Z.2.2.1 4)), (3, .ref (Z.2.2.1 19)), (4, .int a4), (5, .int x5)] → q_X1_pass_3 d a1 a4 k n_ S x5 → W p l e (rmk 3 77) s m args below meth c H locs 0 0 (Qv below shX 68 Z args s k) (F0 m 3 ls []) := by
  have g := gokX hi
  have hx := C.1.1
  have hb := C.1.2.1
  intro n_
  induction n_ with
  | zero => intro S x5 H locs ls hP hS hl h; exact h.elim
  | succ n_ ih =>
    intro S x5 H locs ls hP hS hl h
    rw [q_X1_pass_3_s] at h
    refine lv_iload hx hb dX1_pass_3 (lv_at hl 5 rfl) ?_
    refine lv_iload_n hx hb dX1_pass_5 rfl (lv_at hl 1 rfl) ?_
    refine lv_icmp_ge (tgt := 99) hx hb dX1_pass_6 (by decide) (fun c_1 => ?_) (fun c_1 => ?_)
    · have h := h.1 c_1
      exact s_rv C hP hS h dX1_pass_99
    · have h := h.2 c_1
      refine lv_aload_n hx hb dX1_pass_9 rfl (lv_at hl 0 rfl) ?_
      refine s_gI g C hP (33 + 7 * d) 0 (ltX_day (d := d) hd) (shX_day (d := d) hd) rfl cfX1 (by decide) kFL_X1_65 dX1_pass_10 ?_
      refine lv_bipush (v := (nI 12)) hx hb dX1_pass_13 (by decide) ?_
      refine lv_icmp_ge (tgt := 99) hx hb dX1_pass_15 (by decide) (fun c_2 => ?_) (fun c_2 => ?_)
      · have h := h.1 c_2
        exact s_rv C hP hS h dX1_pass_99
      · have h := h.2 c_2
        refine lv_aload_n hx hb dX1_pass_18 rfl (lv_at hl 0 rfl) ?_
        refine lv_aload_n hx hb dX1_pass_19 rfl (lv_at hl 0 rfl) ?_
        refine lv_aload_n hx hb dX1_pass_20 rfl (lv_at hl 0 rfl) ?_
        refine lv_aload_n hx hb dX1_pass_21 rfl (lv_at hl 2 rfl) ?_
        refine lv_aload_n hx hb dX1_pass_22 rfl (lv_at hl 3 rfl) ?_
        refine go_ip (run_V g C hP hS (c0 := (33 + 7 * d)) (As := [.ref (Z.2.2.1 4), .ref (Z.2.2.1 19)]) (rest := [.ref (Z.2.2.1 (33 + 7 * d)), .ref (Z.2.2.1 (33 + 7 * d))]) (c_X1_risen hi d hd S _ h) cal_X1_risen kML_X1_71 (ltX_day (d := d) hd) (shX_day (d := d) hd) cfX1 ⟨rfl, rfl, Nat.le_of_ble_eq_true rfl, Nat.le_of_ble_eq_true rfl⟩ rfl rfl hl.1 (Nat.le_of_ble_eq_true rfl) dX1_pass_23) hS (fun r_3 H locs h hP hS => ?_)
        refine lv_aload_n hx hb dX1_pass_26 rfl (lv_at hl 2 rfl) ?_
        refine lv_aload_n hx hb dX1_pass_27 rfl (lv_at hl 3 rfl) ?_
        refine lv_iload hx hb dX1_pass_28 (lv_at hl 4 rfl) ?_
        refine go_i (run_V g C hP hS (c0 := (33 + 7 * d)) (As := [.int r_3, .ref (Z.2.2.1 4), .ref (Z.2.2.1 19), .int a4]) (rest := [.ref (Z.2.2.1 (33 + 7 * d))]) (c_X1_untangled hi d hd S r_3 a4 _ h) cal_X1_untangled kML_X1_75 (ltX_day (d := d) hd) (shX_day (d := d) hd) cfX1 ⟨rfl, rfl, Nat.le_of_ble_eq_true rfl, Nat.le_of_ble_eq_true rfl⟩ rfl rfl hl.1 (Nat.le_of_ble_eq_true rfl) dX1_pass_30) hS (fun r_4 S_5 H locs h hP hS => ?_)
        refine s_pI g C hP hS (33 + 7 * d) 1 (ltX_day (d := d) hd) (shX_day (d := d) hd) rfl cfX1 (by decide) rfl rfl rfl kFL_X1_68 dX1_pass_33 (fun H locs hP hS => ?_)
        obtain ⟨S_6, eS_6⟩ : ∃ z_ : St, z_ = sI S_5 (33 + 7 * d) 1 r_4 := ⟨_, rfl⟩
        rw [← eS_6] at hP
        have h := h S_6 eS_6
        refine lv_iconst (v := (nI 0)) hx hb dX1_pass_36 (by decide) ?_
        refine lv_istore (lv' := [(6, .int (nI 0)), (0, .ref (Z.2.2.1 (33 + 7 * d))), (1, .int a1), (2, .ref (Z.2.2.1 4)), (3, .ref (Z.2.2.1 19)), (4, .int a4), (5, .int x5)]) hx hb dX1_pass_37 hl (by decide) rfl (fun ls hl => ?_)
        obtain ⟨f_39, h⟩ := h
        exact b_X1_pass_39 hi C hd ih f_39 _ _ _ _ _ _ hP hS (lv_sub hl [1, 2, 3, 4, 5, 6, 0] rfl) h
def q_X1_pass (d : Nat) (S : St) (a1 : Int32) (a4 : Int32) (k : St → Prop) : Prop := ∃ f_3, q_X1_pass_3 d a1 a4 k f_3 S (nI 0)
set_option maxRecDepth 100000 in
set_option maxHeartbeats 4000000 in
theorem c_X1_pass {l : Launch} {Z : ZT} (hi : injZ 68 Z) (d : Nat) (hd : d < 5) (S : St) (a1 : Int32) (a4 : Int32) (k : St → Prop) (h : q_X1_pass d S a1 a4 k) : Mv l shX 68 Z (gX Z) yX1_pass cX1_pass 7 none (rmk 3 77) [.ref (Z.2.2.1 (33 + 7 * d)), .int a1, .ref (Z.2.2.1 4), .ref (Z.2.2.1 19), .int a4] S k := by
  have g := gokX hi
  refine e_v (by decide) (Nat.le_of_ble_eq_true rfl) (lv := [(0, .ref (Z.2.2.1 (33 + 7 * d))), (1, .int a1), (2, .ref (Z.2.2.1 4)), (3, .ref (Z.2.2.1 19)), (4, .int a4)]) rfl (fun p e s m args below meth c C hP hS ls hl => ?_)
  have hx := C.1.1
  have hb := C.1.2.1
  unfold q_X1_pass at h
  refine lv_iconst (v := (nI 0)) hx hb dX1_pass_0 (by decide) ?_
  refine lv_istore (lv' := [(5, .int (nI 0)), (0, .ref (Z.2.2.1 (33 + 7 * d))), (1, .int a1), (2, .ref (Z.2.2.1 4)), (3, .ref (Z.2.2.1 19)), (4, .int a4)]) hx hb dX1_pass_1 hl (by decide) rfl (fun ls hl => ?_)
  obtain ⟨f_3, h⟩ := h
  exact b_X1_pass_3 hi C hd f_3 _ _ _ _ _ hP hS (lv_sub hl [1, 2, 3, 4, 5, 0] rfl) h
def q_X1_fishIn_28 (d : Nat) (a1 : Int32) (S : St) (k : Int32 → Prop) (e_4 : Int32 → Int32 → Prop) (x3 : Int32) (t0 : Int32) (t1 : Int32) : Prop := ∀ x2_1 : Int32, x2_1 = (t1 + t0) → (∀ x3_2 : Int32, x3_2 = x3 + (nI 1) → (e_4 x2_1 x3_2))
set_option maxRecDepth 100000 in
set_option maxHeartbeats 4000000 in
theorem b_X1_fishIn_28 {p : Program} {l : Launch} {e : Env} {s : State} {m : MethodId} {args : Array Value} {below : List Frame} {meth : Method} {c : Code} {Z : ZT} (hi : injZ 68 Z) (C : Cxt (gX Z) p s m meth c args yX1_fishIn cX1_fishIn 4 (Option.some .int)) {d : Nat} {a1 : Int32} {S : St} {k : Int32 → Prop} {e_4 : Int32 → Int32 → Prop} (hd : d < 5) (he_4 : ∀ (x2 : Int32) (x3 : Int32) (H : Heap) (locs : List Loc) (ls : Array Slot), va_P Z.1 vwCl (wl shX 68 Z S) H → va_S (aa 68 Z) s.heap H locs → lv_has ls 4 [(0, .ref (Z.2.2.1 (33 + 7 * d))), (1, .int a1), (2, .int x2), (3, .int x3)] → e_4 x2 x3 → W p l e (rmk 1 21) s m args below meth c H locs 0 0 (Qi below shX 68 Z args s (fun r S' => S' = S ∧ k r)) (F0 m 4 ls [])) (x3 : Int32) (t0 : Int32) (t1 : Int32) (H : Heap) (locs : List Loc) (ls : Array Slot) (hP : va_P Z.1 vwCl (wl shX 68 Z S) H) (hS : va_S (aa 68 Z) s.heap H locs) (hl : lv_has ls 4 [(0, .ref (Z.2.2.1 (33 + 7 * d))), (1, .int a1), (3, .int x3)]) (h : q_X1_fishIn_28 d a1 S k e_4 x3 t0 t1) : W p l e (rmk 1 21) s m args below meth c H locs 0 0 (Qi below shX 68 Z args s (fun r S' => S' = S ∧ k r)) (F0 m 28 ls [.int t0, .int t1]) := by
  have g := gokX hi
  have hx := C.1.1
  have hb := C.1.2.1
  unfold q_X1_fishIn_28 at h
  refine lv_iadd hx hb dX1_fishIn_28 ?_
  refine lv_topi (fun x2_1 ex2_1 => ?_)
  have h := h x2_1 ex2_1
  refine lv_istore_n (lv' := [(2, .int x2_1), (0, .ref (Z.2.2.1 (33 + 7 * d))), (1, .int a1), (3, .int x3)]) hx hb dX1_fishIn_29 rfl hl (by decide) rfl (fun ls hl => ?_)
  obtain ⟨x3_2, ex3_2⟩ : ∃ y_ : Int32, y_ = x3 + (nI 1) := ⟨_, rfl⟩
  have h := h x3_2 ex3_2
  refine lv_iinc (v := x3_2) (lv' := [(3, .int x3_2), (2, .int x2_1), (0, .ref (Z.2.2.1 (33 + 7 * d))), (1, .int a1)]) hx hb dX1_fishIn_30 hl (k := 3) rfl (by rw [ex3_2]; rfl) (by decide) rfl (fun ls hl => ?_)
  refine lv_goto (tgt := 4) hx hb dX1_fishIn_33 (by decide) ?_
  exact he_4 _ _ _ _ _ hP hS (lv_sub hl [2, 3, 1, 0] rfl) h
def q_X1_fishIn_4 (d : Nat) (a1 : Int32) (S : St) (k : Int32 → Prop) : Nat → Int32 → Int32 → Prop := fun n_ => Nat.rec (motive := fun _ => Int32 → Int32 → Prop) (fun _ _ => False) (fun _ ih => fun x2 x3 => ((nI 4) ≤ x3 → (k x2)) ∧ (¬ (nI 4) ≤ x3 → (q_X8_isIn S a1 x3 (fun r_2 => ((r_2 = (nI 0) → (q_X1_fishIn_28 d a1 S k ih x3 (nI 0) x2)) ∧ (¬ r_2 = (nI 0) → (vp_in x3 4 ∧ (q_X1_fishIn_28 d a1 S k ih x3 (S.1 (33 + 7 * d + 5) x3.toNatClampNeg) x2)))))))) n_
theorem q_X1_fishIn_4_s (d : Nat) (a1 : Int32) (S : St) (k : Int32 → Prop) (n_ : Nat) (x2 : Int32) (x3 : Int32) : q_X1_fishIn_4 d a1 S k (n_ + 1) x2 x3 = (((nI 4) ≤ x3 → (k x2)) ∧ (¬ (nI 4) ≤ x3 → (q_X8_isIn S a1 x3 (fun r_2 => ((r_2 = (nI 0) → (q_X1_fishIn_28 d a1 S k (q_X1_fishIn_4 d a1 S k n_) x3 (nI 0) x2)) ∧ (¬ r_2 = (nI 0) → (vp_in x3 4 ∧ (q_X1_fishIn_28 d a1 S k (q_X1_fishIn_4 d a1 S k n_) x3 (S.1 (33 + 7 * d + 5) x3.toNatClampNeg) x2)))))))) := rfl
set_option maxRecDepth 100000 in
set_option maxHeartbeats 4000000 in
theorem b_X1_fishIn_4 {p : Program} {l : Launch} {e : Env} {s : State} {m : MethodId} {args : Array Value} {below : List Frame} {meth : Method} {c : Code} {Z : ZT} (hi : injZ 68 Z) (C : Cxt (gX Z) p s m meth c args yX1_fishIn cX1_fishIn 4 (Option.some .int)) {d : Nat} {a1 : Int32} {S : St} {k : Int32 → Prop} (hd : d < 5)  : ∀ (n_ : Nat) (x2 : Int32) (x3 : Int32) (H : Heap) (locs : List Loc) (ls : Array Slot), va_P Z.1 vwCl (wl shX 68 Z S) H → va_S (aa 68 Z) s.heap H locs → lv_has ls 4 [(0, .ref (Z.2.2.1 (33 + 7 * d))), (1, .int a1), (2, .int x2), (3, .int x3)] → q_X1_fishIn_4 d a1 S k n_ x2 x3 → W p l e (rmk 1 21) s m args below meth c H locs 0 0 (Qi below shX 68 Z args s (fun r S' => S' = S ∧ k r)) (F0 m 4 ls []) := by
  have g := gokX hi
  have hx := C.1.1
  have hb := C.1.2.1
  intro n_
  induction n_ with
  | zero => intro x2 x3 H locs ls hP hS hl h; exact h.elim
  | succ n_ ih =>
    intro x2 x3 H locs ls hP hS hl h
    rw [q_X1_fishIn_4_s] at h
    refine lv_iload_n hx hb dX1_fishIn_4 rfl (lv_at hl 3 rfl) ?_
    refine lv_iconst (v := (nI 4)) hx hb dX1_fishIn_5 (by decide) ?_
    refine lv_icmp_ge (tgt := 36) hx hb dX1_fishIn_6 (by decide) (fun c_1 => ?_) (fun c_1 => ?_)
    · have h := h.1 c_1
      refine lv_iload_n hx hb dX1_fishIn_36 rfl (lv_at hl 2 rfl) ?_
      exact s_ri C hP hS ⟨rfl, h⟩ dX1_fishIn_37
    · have h := h.2 c_1
      refine lv_iload_n hx hb dX1_fishIn_9 rfl (lv_at hl 2 rfl) ?_
      refine lv_iload_n hx hb dX1_fishIn_10 rfl (lv_at hl 1 rfl) ?_
      refine lv_iload_n hx hb dX1_fishIn_11 rfl (lv_at hl 3 rfl) ?_
      refine go_ip (run_SN g C hP hS (As := [.int a1, .int x3]) (rest := [.int x2]) (c_X8_isIn hi S a1 x3 _ h) cal_X8_isIn (nstX C.2.2.2 13 rfl) ⟨rfl, rfl, Nat.le_of_ble_eq_true rfl, Nat.le_of_ble_eq_true rfl⟩ rfl rfl hl.1 (Nat.le_of_ble_eq_true rfl) dX1_fishIn_12) hS (fun r_2 H locs h hP hS => ?_)
      obtain ⟨hbr_2, h⟩ := h
      refine lv_if_eq (tgt := 27) hx hb dX1_fishIn_15 (by decide) (fun c_3 => ?_) (fun c_3 => ?_)
      · have h := h.1 c_3
        refine lv_iconst (v := (nI 0)) hx hb dX1_fishIn_27 (by decide) ?_
        exact b_X1_fishIn_28 hi C hd ih _ _ _ _ _ _ hP hS (lv_sub hl [0, 1, 3] rfl) h
      · have h := h.2 c_3
        refine lv_aload_n hx hb dX1_fishIn_18 rfl (lv_at hl 0 rfl) ?_
        refine s_gR g C hP (33 + 7 * d) 9 (33 + 7 * d + 5) (ltX_day (d := d) hd) (shX_day (d := d) hd) rfl cfX1 (by decide) kFL_X1_24 dX1_fishIn_19 ?_
        refine lv_iload_n hx hb dX1_fishIn_22 rfl (lv_at hl 3 rfl) ?_
        have hv_4 := h.1
        have h := h.2
        refine s_aI g C hP (33 + 7 * d + 5) (ltX_day5 (d := d) hd) (shX_day5 (d := d) hd) hv_4 dX1_fishIn_23 ?_
        refine lv_goto (tgt := 28) hx hb dX1_fishIn_24 (by decide) ?_
        exact b_X1_fishIn_28 hi C hd ih _ _ _ _ _ _ hP hS (lv_sub hl [0, 1, 3] rfl) h
def q_X1_fishIn (d : Nat) (S : St) (a1 : Int32) (k : Int32 → Prop) : Prop := ∃ f_4, q_X1_fishIn_4 d a1 S k f_4 (nI 0) (nI 0)
set_option maxRecDepth 100000 in
set_option maxHeartbeats 4000000 in
theorem c_X1_fishIn {l : Launch} {Z : ZT} (hi : injZ 68 Z) (d : Nat) (hd : d < 5) (S : St) (a1 : Int32) (k : Int32 → Prop) (h : q_X1_fishIn d S a1 k) : Mi l shX 68 Z (gX Z) yX1_fishIn cX1_fishIn 4 (Option.some .int) (rmk 1 21) [.ref (Z.2.2.1 (33 + 7 * d)), .int a1] S (fun r S' => S' = S ∧ k r) := by
  have g := gokX hi
  refine e_i (by decide) (Nat.le_of_ble_eq_true rfl) (lv := [(0, .ref (Z.2.2.1 (33 + 7 * d))), (1, .int a1)]) rfl (fun p e s m args below meth c C hP hS ls hl => ?_)
  have hx := C.1.1
  have hb := C.1.2.1
  unfold q_X1_fishIn at h
  refine lv_iconst (v := (nI 0)) hx hb dX1_fishIn_0 (by decide) ?_
  refine lv_istore_n (lv' := [(2, .int (nI 0)), (0, .ref (Z.2.2.1 (33 + 7 * d))), (1, .int a1)]) hx hb dX1_fishIn_1 rfl hl (by decide) rfl (fun ls hl => ?_)
  refine lv_iconst (v := (nI 0)) hx hb dX1_fishIn_2 (by decide) ?_
  refine lv_istore_n (lv' := [(3, .int (nI 0)), (2, .int (nI 0)), (0, .ref (Z.2.2.1 (33 + 7 * d))), (1, .int a1)]) hx hb dX1_fishIn_3 rfl hl (by decide) rfl (fun ls hl => ?_)
  obtain ⟨f_4, h⟩ := h
  exact b_X1_fishIn_4 hi C hd f_4 _ _ _ _ _ hP hS (lv_sub hl [2, 3, 1, 0] rfl) h
def q_X5_forget (q : Nat) (S : St) (k : St → Prop) : Prop := ∀ S_1 : St, S_1 = sI S (24 + 3 * q) 0 (nI 0) → (k S_1)
set_option maxRecDepth 100000 in
set_option maxHeartbeats 4000000 in
theorem c_X5_forget {l : Launch} {Z : ZT} (hi : injZ 68 Z) (q : Nat) (hq : q < 2) (S : St) (k : St → Prop) (h : q_X5_forget q S k) : Mv l shX 68 Z (gX Z) yX5_forget cX5_forget 1 none (rmk 0 0) [.ref (Z.2.2.1 (24 + 3 * q))] S k := by
  have g := gokX hi
  refine e_v (by decide) (Nat.le_of_ble_eq_true rfl) (lv := [(0, .ref (Z.2.2.1 (24 + 3 * q)))]) rfl (fun p e s m args below meth c C hP hS ls hl => ?_)
  have hx := C.1.1
  have hb := C.1.2.1
  unfold q_X5_forget at h
  refine lv_aload_n hx hb dX5_forget_0 rfl (lv_at hl 0 rfl) ?_
  refine lv_iconst (v := (nI 0)) hx hb dX5_forget_1 (by decide) ?_
  refine s_pI g C hP hS (24 + 3 * q) 0 (ltX_se (q := q) hq) (shX_se (q := q) hq) rfl cfX5 (by decide) rfl rfl rfl kFL_X5_18 dX5_forget_2 (fun H locs hP hS => ?_)
  obtain ⟨S_1, eS_1⟩ : ∃ z_ : St, z_ = sI S (24 + 3 * q) 0 (nI 0) := ⟨_, rfl⟩
  rw [← eS_1] at hP
  have h := h S_1 eS_1
  exact s_rv C hP hS h dX5_forget_5
def q_X5_shiftOf (S : St) (a1 : Int32) (k : Int32 → Prop) : Prop := k ((nI 2) * ((nI 5) - a1))
set_option maxRecDepth 100000 in
set_option maxHeartbeats 4000000 in
theorem c_X5_shiftOf {l : Launch} {Z : ZT} (hi : injZ 68 Z) (S : St) (a1 : Int32) (k : Int32 → Prop) (h : q_X5_shiftOf S a1 k) : Mi l shX 68 Z (gX Z) yX5_shiftOf cX5_shiftOf 1 (Option.some .int) (rmk 0 0) [.int a1] S (fun r S' => S' = S ∧ k r) := by
  have g := gokX hi
  refine e_i (by decide) (Nat.le_of_ble_eq_true rfl) (lv := [(0, .int a1)]) rfl (fun p e s m args below meth c C hP hS ls hl => ?_)
  have hx := C.1.1
  have hb := C.1.2.1
  unfold q_X5_shiftOf at h
  refine lv_iconst (v := (nI 2)) hx hb dX5_shiftOf_0 (by decide) ?_
  refine lv_iconst (v := (nI 5)) hx hb dX5_shiftOf_1 (by decide) ?_
  refine lv_iload_n hx hb dX5_shiftOf_2 rfl (lv_at hl 0 rfl) ?_
  refine lv_isub hx hb dX5_shiftOf_3 ?_
  refine lv_imul hx hb dX5_shiftOf_4 ?_
  exact s_ri C hP hS ⟨rfl, h⟩ dX5_shiftOf_5
def q_X5_heightIn (S : St) (a1 : Int32) (a2 : Int32) (k : Int32 → Prop) : Prop := (a2 < (nI 0) → (k (nI 0))) ∧ (¬ a2 < (nI 0) → (((nI 6) ≤ a2 → (k (nI 0))) ∧ (¬ (nI 6) ≤ a2 → (q_X5_shiftOf S a2 (fun r_3 => (k ((a1 >>> (r_3 &&& 31)) &&& (nI 3))))))))
set_option maxRecDepth 100000 in
set_option maxHeartbeats 4000000 in
theorem c_X5_heightIn {l : Launch} {Z : ZT} (hi : injZ 68 Z) (S : St) (a1 : Int32) (a2 : Int32) (k : Int32 → Prop) (h : q_X5_heightIn S a1 a2 k) : Mi l shX 68 Z (gX Z) yX5_heightIn cX5_heightIn 2 (Option.some .int) (rmk 1 20) [.int a1, .int a2] S (fun r S' => S' = S ∧ k r) := by
  have g := gokX hi
  refine e_i (by decide) (Nat.le_of_ble_eq_true rfl) (lv := [(0, .int a1), (1, .int a2)]) rfl (fun p e s m args below meth c C hP hS ls hl => ?_)
  have hx := C.1.1
  have hb := C.1.2.1
  unfold q_X5_heightIn at h
  refine lv_iload_n hx hb dX5_heightIn_0 rfl (lv_at hl 1 rfl) ?_
  refine lv_if_lt (tgt := 21) hx hb dX5_heightIn_1 (by decide) (fun c_1 => ?_) (fun c_1 => ?_)
  · have h := h.1 c_1
    refine lv_iconst (v := (nI 0)) hx hb dX5_heightIn_21 (by decide) ?_
    exact s_ri C hP hS ⟨rfl, h⟩ dX5_heightIn_22
  · have h := h.2 c_1
    refine lv_iload_n hx hb dX5_heightIn_4 rfl (lv_at hl 1 rfl) ?_
    refine lv_bipush (v := (nI 6)) hx hb dX5_heightIn_5 (by decide) ?_
    refine lv_icmp_ge (tgt := 21) hx hb dX5_heightIn_7 (by decide) (fun c_2 => ?_) (fun c_2 => ?_)
    · have h := h.1 c_2
      refine lv_iconst (v := (nI 0)) hx hb dX5_heightIn_21 (by decide) ?_
      exact s_ri C hP hS ⟨rfl, h⟩ dX5_heightIn_22
    · have h := h.2 c_2
      refine lv_iload_n hx hb dX5_heightIn_10 rfl (lv_at hl 0 rfl) ?_
      refine lv_iload_n hx hb dX5_heightIn_11 rfl (lv_at hl 1 rfl) ?_
      refine go_ip (run_S g C hP hS (As := [.int a2]) (rest := [.int a1]) (c_X5_shiftOf hi S a2 _ h) cal_X5_shiftOf kML_X5_30 ⟨rfl, rfl, Nat.le_of_ble_eq_true rfl, Nat.le_of_ble_eq_true rfl⟩ rfl rfl hl.1 (Nat.le_of_ble_eq_true rfl) dX5_heightIn_12) hS (fun r_3 H locs h hP hS => ?_)
      refine lv_ishr hx hb dX5_heightIn_15 ?_
      refine lv_iconst (v := (nI 3)) hx hb dX5_heightIn_16 (by decide) ?_
      refine lv_iand hx hb dX5_heightIn_17 ?_
      refine lv_goto (tgt := 22) hx hb dX5_heightIn_18 (by decide) ?_
      exact s_ri C hP hS ⟨rfl, h⟩ dX5_heightIn_22
def q_X5_heightOf (q : Nat) (S : St) (a1 : Int32) (k : Int32 → Prop) : Prop := q_X5_heightIn S (S.1 (24 + 3 * q) 2) a1 (fun r_1 => (k r_1))
set_option maxRecDepth 100000 in
set_option maxHeartbeats 4000000 in
theorem c_X5_heightOf {l : Launch} {Z : ZT} (hi : injZ 68 Z) (q : Nat) (hq : q < 2) (S : St) (a1 : Int32) (k : Int32 → Prop) (h : q_X5_heightOf q S a1 k) : Mi l shX 68 Z (gX Z) yX5_heightOf cX5_heightOf 2 (Option.some .int) (rmk 2 41) [.ref (Z.2.2.1 (24 + 3 * q)), .int a1] S (fun r S' => S' = S ∧ k r) := by
  have g := gokX hi
  refine e_i (by decide) (Nat.le_of_ble_eq_true rfl) (lv := [(0, .ref (Z.2.2.1 (24 + 3 * q))), (1, .int a1)]) rfl (fun p e s m args below meth c C hP hS ls hl => ?_)
  have hx := C.1.1
  have hb := C.1.2.1
  unfold q_X5_heightOf at h
  refine lv_aload_n hx hb dX5_heightOf_0 rfl (lv_at hl 0 rfl) ?_
  refine s_gI g C hP (24 + 3 * q) 2 (ltX_se (q := q) hq) (shX_se (q := q) hq) rfl cfX5 (by decide) kFL_X5_22 dX5_heightOf_1 ?_
  refine lv_iload_n hx hb dX5_heightOf_4 rfl (lv_at hl 1 rfl) ?_
  refine go_ip (run_S g C hP hS (As := [.int (S.1 (24 + 3 * q) 2), .int a1]) (rest := []) (c_X5_heightIn hi S (S.1 (24 + 3 * q) 2) a1 _ h) cal_X5_heightIn kML_X5_26 ⟨rfl, rfl, Nat.le_of_ble_eq_true rfl, Nat.le_of_ble_eq_true rfl⟩ rfl rfl hl.1 (Nat.le_of_ble_eq_true rfl) dX5_heightOf_5) hS (fun r_1 H locs h hP hS => ?_)
  exact s_ri C hP hS ⟨rfl, h⟩ dX5_heightOf_8
def q_X5_boundOf_168 (d3 : Nat) (a1 : Int32) (a2 : Int32) (a4 : Int32) (S : St) (k : Int32 → Prop) (x7 : Int32) (x8 : Int32) (x9 : Int32) : Prop := (x7 = (nI 0) → (k (-1 : Int32))) ∧ (¬ x7 = (nI 0) → (q_X1_fishIn d3 S x9 (fun r_2 => (k (if r_2 < x8 then r_2 else x8)))))
set_option maxRecDepth 100000 in
set_option maxHeartbeats 4000000 in
theorem b_X5_boundOf_168 {p : Program} {l : Launch} {e : Env} {s : State} {m : MethodId} {args : Array Value} {below : List Frame} {meth : Method} {c : Code} {Z : ZT} (hi : injZ 68 Z) (C : Cxt (gX Z) p s m meth c args yX5_boundOf cX5_boundOf 14 (Option.some .int)) {d3 : Nat} {a1 : Int32} {a2 : Int32} {a4 : Int32} {S : St} {k : Int32 → Prop} (hd3 : d3 < 5)  (x7 : Int32) (x8 : Int32) (x9 : Int32) (H : Heap) (locs : List Loc) (ls : Array Slot) (hP : va_P Z.1 vwCl (wl shX 68 Z S) H) (hS : va_S (aa 68 Z) s.heap H locs) (hl : lv_has ls 14 [(2, .ref (Z.2.2.1 (33 + 7 * d3))), (7, .int x7), (8, .int x8), (9, .int x9)]) (h : q_X5_boundOf_168 d3 a1 a2 a4 S k x7 x8 x9) : W p l e (rmk 2 45) s m args below meth c H locs 0 0 (Qi below shX 68 Z args s (fun r S' => S' = S ∧ k r)) (F0 m 168 ls []) := by
  have g := gokX hi
  have hx := C.1.1
  have hb := C.1.2.1
  unfold q_X5_boundOf_168 at h
  refine lv_iload hx hb dX5_boundOf_168 (lv_at hl 1 rfl) ?_
  refine lv_if_eq (tgt := 187) hx hb dX5_boundOf_170 (by decide) (fun c_1 => ?_) (fun c_1 => ?_)
  · have h := h.1 c_1
    refine lv_iconst (v := (-1 : Int32)) hx hb dX5_boundOf_187 (by decide) ?_
    exact s_ri C hP hS ⟨rfl, h⟩ dX5_boundOf_188
  · have h := h.2 c_1
    refine lv_iload hx hb dX5_boundOf_173 (lv_at hl 2 rfl) ?_
    refine lv_aload_n hx hb dX5_boundOf_175 rfl (lv_at hl 0 rfl) ?_
    refine lv_iload hx hb dX5_boundOf_176 (lv_at hl 3 rfl) ?_
    refine go_ip (run_V g C hP hS (c0 := (33 + 7 * d3)) (As := [.int x9]) (rest := [.int x8]) (c_X1_fishIn hi d3 hd3 S x9 _ h) cal_X1_fishIn kML_X5_117 (ltX_day (d := d3) hd3) (shX_day (d := d3) hd3) cfX1 ⟨rfl, rfl, Nat.le_of_ble_eq_true rfl, Nat.le_of_ble_eq_true rfl⟩ rfl rfl hl.1 (Nat.le_of_ble_eq_true rfl) dX5_boundOf_178) hS (fun r_2 H locs h hP hS => ?_)
    refine s_min C hl.1 kML_X5_120 ⟨Nat.le_of_ble_eq_true rfl, Nat.le_of_ble_eq_true rfl⟩ dX5_boundOf_181 ?_
    refine lv_goto (tgt := 188) hx hb dX5_boundOf_184 (by decide) ?_
    exact s_ri C hP hS ⟨rfl, h⟩ dX5_boundOf_188
def q_X5_boundOf_162 (d3 : Nat) (a1 : Int32) (a2 : Int32) (a4 : Int32) (S : St) (k : Int32 → Prop) (e_36 : Int32 → Int32 → Int32 → Int32 → Int32 → Int32 → Prop) (x6 : Int32) (x7 : Int32) (x8 : Int32) (x9 : Int32) (x10 : Int32) (x11 : Int32) : Prop := ∀ x11_1 : Int32, x11_1 = x11 + (nI 1) → (e_36 x6 x7 x8 x9 x10 x11_1)
set_option maxRecDepth 100000 in
set_option maxHeartbeats 4000000 in
theorem b_X5_boundOf_162 {p : Program} {l : Launch} {e : Env} {s : State} {m : MethodId} {args : Array Value} {below : List Frame} {meth : Method} {c : Code} {Z : ZT} (hi : injZ 68 Z) (C : Cxt (gX Z) p s m meth c args yX5_boundOf cX5_boundOf 14 (Option.some .int)) {d3 : Nat} {a1 : Int32} {a2 : Int32} {a4 : Int32} {S : St} {k : Int32 → Prop} {e_36 : Int32 → Int32 → Int32 → Int32 → Int32 → Int32 → Prop} (hd3 : d3 < 5) (he_36 : ∀ (x6 : Int32) (x7 : Int32) (x8 : Int32) (x9 : Int32) (x10 : Int32) (x11 : Int32) (H : Heap) (locs : List Loc) (ls : Array Slot), va_P Z.1 vwCl (wl shX 68 Z S) H → va_S (aa 68 Z) s.heap H locs → lv_has ls 14 [(0, .int a1), (1, .int a2), (2, .ref (Z.2.2.1 (33 + 7 * d3))), (3, .int a4), (4, .ref (Z.2.2.1 4)), (5, .ref (Z.2.2.1 19)), (6, .int x6), (7, .int x7), (8, .int x8), (9, .int x9), (10, .int x10), (11, .int x11)] → e_36 x6 x7 x8 x9 x10 x11 → W p l e (rmk 2 45) s m args below meth c H locs 0 0 (Qi below shX 68 Z args s (fun r S' => S' = S ∧ k r)) (F0 m 36 ls [])) (x6 : Int32) (x7 : Int32) (x8 : Int32) (x9 : Int32) (x10 : Int32) (x11 : Int32) (H : Heap) (locs : List Loc) (ls : Array Slot) (hP : va_P Z.1 vwCl (wl shX 68 Z S) H) (hS : va_S (aa 68 Z) s.heap H locs) (hl : lv_has ls 14 [(0, .int a1), (1, .int a2), (2, .ref (Z.2.2.1 (33 + 7 * d3))), (3, .int a4), (4, .ref (Z.2.2.1 4)), (5, .ref (Z.2.2.1 19)), (6, .int x6), (7, .int x7), (8, .int x8), (9, .int x9), (10, .int x10), (11, .int x11)]) (h : q_X5_boundOf_162 d3 a1 a2 a4 S k e_36 x6 x7 x8 x9 x10 x11) : W p l e (rmk 2 45) s m args below meth c H locs 0 0 (Qi below shX 68 Z args s (fun r S' => S' = S ∧ k r)) (F0 m 162 ls []) := by
  have g := gokX hi
  have hx := C.1.1
  have hb := C.1.2.1
  unfold q_X5_boundOf_162 at h
  obtain ⟨x11_1, ex11_1⟩ : ∃ y_ : Int32, y_ = x11 + (nI 1) := ⟨_, rfl⟩
  have h := h x11_1 ex11_1
  refine lv_iinc (v := x11_1) (lv' := [(11, .int x11_1), (0, .int a1), (1, .int a2), (2, .ref (Z.2.2.1 (33 + 7 * d3))), (3, .int a4), (4, .ref (Z.2.2.1 4)), (5, .ref (Z.2.2.1 19)), (6, .int x6), (7, .int x7), (8, .int x8), (9, .int x9), (10, .int x10)]) hx hb dX5_boundOf_162 hl (k := 11) rfl (by rw [ex11_1]; rfl) (by decide) rfl (fun ls hl => ?_)
  refine lv_goto (tgt := 36) hx hb dX5_boundOf_165 (by decide) ?_
  exact he_36 _ _ _ _ _ _ _ _ _ hP hS (lv_sub hl [1, 2, 3, 4, 5, 6, 7, 8, 9, 10, 11, 0] rfl) h
def q_X5_boundOf_113 (d3 : Nat) (a1 : Int32) (a2 : Int32) (a4 : Int32) (S : St) (k : Int32 → Prop) (e_36 : Int32 → Int32 → Int32 → Int32 → Int32 → Int32 → Prop) (x7 : Int32) (x8 : Int32) (x9 : Int32) (x10 : Int32) (x11 : Int32) (x12 : Int32) (t0 : Int32) : Prop := (t0 = (nI 0) → (q_X5_boundOf_162 d3 a1 a2 a4 S k e_36 t0 x7 x8 x9 x10 x11)) ∧ (¬ t0 = (nI 0) → (q_X0_met S a1 a2 x12 (fun r_2 => (∀ x9_3 : Int32, x9_3 = (x9 ||| r_2) → (q_X1_fishIn d3 S r_2 (fun r_4 => (q_X4_afterGulls S (if x10 < r_4 then x10 else r_4) (fun r_5 => (∀ x8_6 : Int32, x8_6 = (x8 + r_5) → (q_X5_boundOf_162 d3 a1 a2 a4 S k e_36 t0 (nI 1) x8_6 x9_3 x10 x11))))))))))
set_option maxRecDepth 100000 in
set_option maxHeartbeats 4000000 in
theorem b_X5_boundOf_113 {p : Program} {l : Launch} {e : Env} {s : State} {m : MethodId} {args : Array Value} {below : List Frame} {meth : Method} {c : Code} {Z : ZT} (hi : injZ 68 Z) (C : Cxt (gX Z) p s m meth c args yX5_boundOf cX5_boundOf 14 (Option.some .int)) {d3 : Nat} {a1 : Int32} {a2 : Int32} {a4 : Int32} {S : St} {k : Int32 → Prop} {e_36 : Int32 → Int32 → Int32 → Int32 → Int32 → Int32 → Prop} (hd3 : d3 < 5) (he_36 : ∀ (x6 : Int32) (x7 : Int32) (x8 : Int32) (x9 : Int32) (x10 : Int32) (x11 : Int32) (H : Heap) (locs : List Loc) (ls : Array Slot), va_P Z.1 vwCl (wl shX 68 Z S) H → va_S (aa 68 Z) s.heap H locs → lv_has ls 14 [(0, .int a1), (1, .int a2), (2, .ref (Z.2.2.1 (33 + 7 * d3))), (3, .int a4), (4, .ref (Z.2.2.1 4)), (5, .ref (Z.2.2.1 19)), (6, .int x6), (7, .int x7), (8, .int x8), (9, .int x9), (10, .int x10), (11, .int x11)] → e_36 x6 x7 x8 x9 x10 x11 → W p l e (rmk 2 45) s m args below meth c H locs 0 0 (Qi below shX 68 Z args s (fun r S' => S' = S ∧ k r)) (F0 m 36 ls [])) (x7 : Int32) (x8 : Int32) (x9 : Int32) (x10 : Int32) (x11 : Int32) (x12 : Int32) (t0 : Int32) (H : Heap) (locs : List Loc) (ls : Array Slot) (hP : va_P Z.1 vwCl (wl shX 68 Z S) H) (hS : va_S (aa 68 Z) s.heap H locs) (hl : lv_has ls 14 [(0, .int a1), (1, .int a2), (2, .ref (Z.2.2.1 (33 + 7 * d3))), (3, .int a4), (4, .ref (Z.2.2.1 4)), (5, .ref (Z.2.2.1 19)), (7, .int x7), (8, .int x8), (9, .int x9), (10, .int x10), (11, .int x11), (12, .int x12)]) (h : q_X5_boundOf_113 d3 a1 a2 a4 S k e_36 x7 x8 x9 x10 x11 x12 t0) : W p l e (rmk 2 45) s m args below meth c H locs 0 0 (Qi below shX 68 Z args s (fun r S' => S' = S ∧ k r)) (F0 m 113 ls [.int t0]) := by
  have g := gokX hi
  have hx := C.1.1
  have hb := C.1.2.1
  unfold q_X5_boundOf_113 at h
  refine lv_istore (lv' := [(6, .int t0), (0, .int a1), (1, .int a2), (2, .ref (Z.2.2.1 (33 + 7 * d3))), (3, .int a4), (4, .ref (Z.2.2.1 4)), (5, .ref (Z.2.2.1 19)), (7, .int x7), (8, .int x8), (9, .int x9), (10, .int x10), (11, .int x11), (12, .int x12)]) hx hb dX5_boundOf_113 hl (by decide) rfl (fun ls hl => ?_)
  refine lv_iload hx hb dX5_boundOf_115 (lv_at hl 0 rfl) ?_
  refine lv_if_eq (tgt := 162) hx hb dX5_boundOf_117 (by decide) (fun c_1 => ?_) (fun c_1 => ?_)
  · have h := h.1 c_1
    exact b_X5_boundOf_162 hi C hd3 he_36 _ _ _ _ _ _ _ _ _ hP hS (lv_sub hl [1, 2, 3, 4, 5, 6, 0, 7, 8, 9, 10, 11] rfl) h
  · have h := h.2 c_1
    refine lv_aload hx hb dX5_boundOf_120 (lv_at hl 6 rfl) ?_
    refine lv_iload_n hx hb dX5_boundOf_122 rfl (lv_at hl 1 rfl) ?_
    refine lv_iload_n hx hb dX5_boundOf_123 rfl (lv_at hl 2 rfl) ?_
    refine lv_iload hx hb dX5_boundOf_124 (lv_at hl 12 rfl) ?_
    refine go_ip (run_V g C hP hS (c0 := 19) (As := [.int a1, .int a2, .int x12]) (rest := []) (c_X0_met hi S a1 a2 x12 _ h) cal_X0_met kML_X5_113 (by decide) rfl cfX0 ⟨rfl, rfl, Nat.le_of_ble_eq_true rfl, Nat.le_of_ble_eq_true rfl⟩ rfl rfl hl.1 (Nat.le_of_ble_eq_true rfl) dX5_boundOf_126) hS (fun r_2 H locs h hP hS => ?_)
    refine lv_istore (lv' := [(13, .int r_2), (6, .int t0), (0, .int a1), (1, .int a2), (2, .ref (Z.2.2.1 (33 + 7 * d3))), (3, .int a4), (4, .ref (Z.2.2.1 4)), (5, .ref (Z.2.2.1 19)), (7, .int x7), (8, .int x8), (9, .int x9), (10, .int x10), (11, .int x11), (12, .int x12)]) hx hb dX5_boundOf_129 hl (by decide) rfl (fun ls hl => ?_)
    refine lv_iconst (v := (nI 1)) hx hb dX5_boundOf_131 (by decide) ?_
    refine lv_istore (lv' := [(7, .int (nI 1)), (13, .int r_2), (6, .int t0), (0, .int a1), (1, .int a2), (2, .ref (Z.2.2.1 (33 + 7 * d3))), (3, .int a4), (4, .ref (Z.2.2.1 4)), (5, .ref (Z.2.2.1 19)), (8, .int x8), (9, .int x9), (10, .int x10), (11, .int x11), (12, .int x12)]) hx hb dX5_boundOf_132 hl (by decide) rfl (fun ls hl => ?_)
    refine lv_iload hx hb dX5_boundOf_134 (lv_at hl 10 rfl) ?_
    refine lv_iload hx hb dX5_boundOf_136 (lv_at hl 1 rfl) ?_
    refine lv_ior hx hb dX5_boundOf_138 ?_
    refine lv_topi (fun x9_3 ex9_3 => ?_)
    have h := h x9_3 ex9_3
    refine lv_istore (lv' := [(9, .int x9_3), (7, .int (nI 1)), (13, .int r_2), (6, .int t0), (0, .int a1), (1, .int a2), (2, .ref (Z.2.2.1 (33 + 7 * d3))), (3, .int a4), (4, .ref (Z.2.2.1 4)), (5, .ref (Z.2.2.1 19)), (8, .int x8), (10, .int x10), (11, .int x11), (12, .int x12)]) hx hb dX5_boundOf_139 hl (by decide) rfl (fun ls hl => ?_)
    refine lv_iload hx hb dX5_boundOf_141 (lv_at hl 10 rfl) ?_
    refine lv_aload hx hb dX5_boundOf_143 (lv_at hl 8 rfl) ?_
    refine lv_aload_n hx hb dX5_boundOf_145 rfl (lv_at hl 6 rfl) ?_
    refine lv_iload hx hb dX5_boundOf_146 (lv_at hl 2 rfl) ?_
    refine go_ip (run_V g C hP hS (c0 := (33 + 7 * d3)) (As := [.int r_2]) (rest := [.ref (Z.2.2.1 4), .int x8]) (c_X1_fishIn hi d3 hd3 S r_2 _ h) cal_X1_fishIn kML_X5_117 (ltX_day (d := d3) hd3) (shX_day (d := d3) hd3) cfX1 ⟨rfl, rfl, Nat.le_of_ble_eq_true rfl, Nat.le_of_ble_eq_true rfl⟩ rfl rfl hl.1 (Nat.le_of_ble_eq_true rfl) dX5_boundOf_148) hS (fun r_4 H locs h hP hS => ?_)
    refine lv_iload hx hb dX5_boundOf_151 (lv_at hl 11 rfl) ?_
    refine s_min C hl.1 kML_X5_120 ⟨Nat.le_of_ble_eq_true rfl, Nat.le_of_ble_eq_true rfl⟩ dX5_boundOf_153 ?_
    refine go_ip (run_V g C hP hS (c0 := 4) (As := [.int (if x10 < r_4 then x10 else r_4)]) (rest := [.int x8]) (c_X4_afterGulls hi S (if x10 < r_4 then x10 else r_4) _ h) cal_X4_afterGulls kML_X5_123 (by decide) rfl cfX4 ⟨rfl, rfl, Nat.le_of_ble_eq_true rfl, Nat.le_of_ble_eq_true rfl⟩ rfl rfl hl.1 (Nat.le_of_ble_eq_true rfl) dX5_boundOf_156) hS (fun r_5 H locs h hP hS => ?_)
    refine lv_iadd hx hb dX5_boundOf_159 ?_
    refine lv_topi (fun x8_6 ex8_6 => ?_)
    have h := h x8_6 ex8_6
    refine lv_istore (lv' := [(8, .int x8_6), (9, .int x9_3), (7, .int (nI 1)), (13, .int r_2), (6, .int t0), (0, .int a1), (1, .int a2), (2, .ref (Z.2.2.1 (33 + 7 * d3))), (3, .int a4), (4, .ref (Z.2.2.1 4)), (5, .ref (Z.2.2.1 19)), (10, .int x10), (11, .int x11), (12, .int x12)]) hx hb dX5_boundOf_160 hl (by decide) rfl (fun ls hl => ?_)
    exact b_X5_boundOf_162 hi C hd3 he_36 _ _ _ _ _ _ _ _ _ hP hS (lv_sub hl [5, 6, 7, 8, 9, 10, 4, 2, 0, 1, 11, 12] rfl) h
def q_X5_boundOf_112 (d3 : Nat) (a1 : Int32) (a2 : Int32) (a4 : Int32) (S : St) (k : Int32 → Prop) (e_36 : Int32 → Int32 → Int32 → Int32 → Int32 → Int32 → Prop) (x7 : Int32) (x8 : Int32) (x9 : Int32) (x10 : Int32) (x11 : Int32) (x12 : Int32) : Prop := q_X5_boundOf_113 d3 a1 a2 a4 S k e_36 x7 x8 x9 x10 x11 x12 (nI 0)
set_option maxRecDepth 100000 in
set_option maxHeartbeats 4000000 in
theorem b_X5_boundOf_112 {p : Program} {l : Launch} {e : Env} {s : State} {m : MethodId} {args : Array Value} {below : List Frame} {meth : Method} {c : Code} {Z : ZT} (hi : injZ 68 Z) (C : Cxt (gX Z) p s m meth c args yX5_boundOf cX5_boundOf 14 (Option.some .int)) {d3 : Nat} {a1 : Int32} {a2 : Int32} {a4 : Int32} {S : St} {k : Int32 → Prop} {e_36 : Int32 → Int32 → Int32 → Int32 → Int32 → Int32 → Prop} (hd3 : d3 < 5) (he_36 : ∀ (x6 : Int32) (x7 : Int32) (x8 : Int32) (x9 : Int32) (x10 : Int32) (x11 : Int32) (H : Heap) (locs : List Loc) (ls : Array Slot), va_P Z.1 vwCl (wl shX 68 Z S) H → va_S (aa 68 Z) s.heap H locs → lv_has ls 14 [(0, .int a1), (1, .int a2), (2, .ref (Z.2.2.1 (33 + 7 * d3))), (3, .int a4), (4, .ref (Z.2.2.1 4)), (5, .ref (Z.2.2.1 19)), (6, .int x6), (7, .int x7), (8, .int x8), (9, .int x9), (10, .int x10), (11, .int x11)] → e_36 x6 x7 x8 x9 x10 x11 → W p l e (rmk 2 45) s m args below meth c H locs 0 0 (Qi below shX 68 Z args s (fun r S' => S' = S ∧ k r)) (F0 m 36 ls [])) (x7 : Int32) (x8 : Int32) (x9 : Int32) (x10 : Int32) (x11 : Int32) (x12 : Int32) (H : Heap) (locs : List Loc) (ls : Array Slot) (hP : va_P Z.1 vwCl (wl shX 68 Z S) H) (hS : va_S (aa 68 Z) s.heap H locs) (hl : lv_has ls 14 [(0, .int a1), (1, .int a2), (2, .ref (Z.2.2.1 (33 + 7 * d3))), (3, .int a4), (4, .ref (Z.2.2.1 4)), (5, .ref (Z.2.2.1 19)), (7, .int x7), (8, .int x8), (9, .int x9), (10, .int x10), (11, .int x11), (12, .int x12)]) (h : q_X5_boundOf_112 d3 a1 a2 a4 S k e_36 x7 x8 x9 x10 x11 x12) : W p l e (rmk 2 45) s m args below meth c H locs 0 0 (Qi below shX 68 Z args s (fun r S' => S' = S ∧ k r)) (F0 m 112 ls []) := by
  have g := gokX hi
  have hx := C.1.1
  have hb := C.1.2.1
  unfold q_X5_boundOf_112 at h
  refine lv_iconst (v := (nI 0)) hx hb dX5_boundOf_112 (by decide) ?_
  exact b_X5_boundOf_113 hi C hd3 he_36 _ _ _ _ _ _ _ _ _ _ hP hS (lv_sub hl [0, 1, 2, 3, 4, 5, 6, 7, 8, 9, 10, 11] rfl) h
def q_X5_boundOf_90 (d3 : Nat) (a1 : Int32) (a2 : Int32) (a4 : Int32) (S : St) (k : Int32 → Prop) (e_36 : Int32 → Int32 → Int32 → Int32 → Int32 → Int32 → Prop) (x7 : Int32) (x8 : Int32) (x9 : Int32) (x10 : Int32) (x11 : Int32) (x12 : Int32) : Prop := vp_in a1 6 ∧ (((S.1 4 5) < (S.1 (9 + a1.toNatClampNeg) 3) → (q_X5_boundOf_112 d3 a1 a2 a4 S k e_36 x7 x8 x9 x10 x11 x12)) ∧ (¬ (S.1 4 5) < (S.1 (9 + a1.toNatClampNeg) 3) → (q_X5_boundOf_113 d3 a1 a2 a4 S k e_36 x7 x8 x9 x10 x11 x12 (nI 1))))
set_option maxRecDepth 100000 in
set_option maxHeartbeats 4000000 in
theorem b_X5_boundOf_90 {p : Program} {l : Launch} {e : Env} {s : State} {m : MethodId} {args : Array Value} {below : List Frame} {meth : Method} {c : Code} {Z : ZT} (hi : injZ 68 Z) (C : Cxt (gX Z) p s m meth c args yX5_boundOf cX5_boundOf 14 (Option.some .int)) {d3 : Nat} {a1 : Int32} {a2 : Int32} {a4 : Int32} {S : St} {k : Int32 → Prop} {e_36 : Int32 → Int32 → Int32 → Int32 → Int32 → Int32 → Prop} (hd3 : d3 < 5) (he_36 : ∀ (x6 : Int32) (x7 : Int32) (x8 : Int32) (x9 : Int32) (x10 : Int32) (x11 : Int32) (H : Heap) (locs : List Loc) (ls : Array Slot), va_P Z.1 vwCl (wl shX 68 Z S) H → va_S (aa 68 Z) s.heap H locs → lv_has ls 14 [(0, .int a1), (1, .int a2), (2, .ref (Z.2.2.1 (33 + 7 * d3))), (3, .int a4), (4, .ref (Z.2.2.1 4)), (5, .ref (Z.2.2.1 19)), (6, .int x6), (7, .int x7), (8, .int x8), (9, .int x9), (10, .int x10), (11, .int x11)] → e_36 x6 x7 x8 x9 x10 x11 → W p l e (rmk 2 45) s m args below meth c H locs 0 0 (Qi below shX 68 Z args s (fun r S' => S' = S ∧ k r)) (F0 m 36 ls [])) (x7 : Int32) (x8 : Int32) (x9 : Int32) (x10 : Int32) (x11 : Int32) (x12 : Int32) (H : Heap) (locs : List Loc) (ls : Array Slot) (hP : va_P Z.1 vwCl (wl shX 68 Z S) H) (hS : va_S (aa 68 Z) s.heap H locs) (hl : lv_has ls 14 [(0, .int a1), (1, .int a2), (2, .ref (Z.2.2.1 (33 + 7 * d3))), (3, .int a4), (4, .ref (Z.2.2.1 4)), (5, .ref (Z.2.2.1 19)), (7, .int x7), (8, .int x8), (9, .int x9), (10, .int x10), (11, .int x11), (12, .int x12)]) (h : q_X5_boundOf_90 d3 a1 a2 a4 S k e_36 x7 x8 x9 x10 x11 x12) : W p l e (rmk 2 45) s m args below meth c H locs 0 0 (Qi below shX 68 Z args s (fun r S' => S' = S ∧ k r)) (F0 m 90 ls []) := by
  have g := gokX hi
  have hx := C.1.1
  have hb := C.1.2.1
  unfold q_X5_boundOf_90 at h
  refine lv_aload hx hb dX5_boundOf_90 (lv_at hl 4 rfl) ?_
  refine s_gR g C hP 4 0 5 (by decide) rfl rfl cfX4 (by decide) kFL_X5_85 dX5_boundOf_92 ?_
  refine lv_iload_n hx hb dX5_boundOf_95 rfl (lv_at hl 0 rfl) ?_
  have hv_1 := h.1
  have h := h.2
  refine s_aR g C hP 5 (t := 0) (by decide) rfl rfl hv_1 dX5_boundOf_96 ?_
  refine s_gI g C hP (9 + a1.toNatClampNeg) 3 (ltX_kite (vin_lt hv_1)) (shX_kite (vin_lt hv_1)) rfl cfX2 (by decide) kFL_X5_107 dX5_boundOf_97 ?_
  refine lv_aload hx hb dX5_boundOf_100 (lv_at hl 4 rfl) ?_
  refine s_gI g C hP 4 5 (by decide) rfl rfl cfX4 (by decide) kFL_X5_110 dX5_boundOf_102 ?_
  refine lv_icmp_gt (tgt := 112) hx hb dX5_boundOf_105 (by decide) (fun c_2 => ?_) (fun c_2 => ?_)
  · have h := h.1 c_2
    exact b_X5_boundOf_112 hi C hd3 he_36 _ _ _ _ _ _ _ _ _ hP hS (lv_sub hl [0, 1, 2, 3, 4, 5, 6, 7, 8, 9, 10, 11] rfl) h
  · have h := h.2 c_2
    refine lv_iconst (v := (nI 1)) hx hb dX5_boundOf_108 (by decide) ?_
    refine lv_goto (tgt := 113) hx hb dX5_boundOf_109 (by decide) ?_
    exact b_X5_boundOf_113 hi C hd3 he_36 _ _ _ _ _ _ _ _ _ _ hP hS (lv_sub hl [0, 1, 2, 3, 4, 5, 6, 7, 8, 9, 10, 11] rfl) h
def q_X5_boundOf_36 (d3 : Nat) (a1 : Int32) (a2 : Int32) (a4 : Int32) (S : St) (k : Int32 → Prop) : Nat → Int32 → Int32 → Int32 → Int32 → Int32 → Int32 → Prop := fun n_ => Nat.rec (motive := fun _ => Int32 → Int32 → Int32 → Int32 → Int32 → Int32 → Prop) (fun _ _ _ _ _ _ => False) (fun _ ih => fun x6 x7 x8 x9 x10 x11 => (a4 ≤ x11 → (q_X5_boundOf_168 d3 a1 a2 a4 S k x7 x8 x9)) ∧ (¬ a4 ≤ x11 → (((nI 12) ≤ ((S.1 (33 + 7 * d3) 0) + x11) → (q_X5_boundOf_168 d3 a1 a2 a4 S k x7 x8 x9)) ∧ (¬ (nI 12) ≤ ((S.1 (33 + 7 * d3) 0) + x11) → (∀ x12_3 : Int32, x12_3 = ((S.1 (33 + 7 * d3) 0) + x11) → (q_X0_isFree S a1 a2 x12_3 (fun r_4 => ((r_4 = (nI 0) → (q_X5_boundOf_112 d3 a1 a2 a4 S k ih x7 x8 x9 x10 x11 x12_3)) ∧ (¬ r_4 = (nI 0) → ((x6 = (nI 0) → (q_X4_isFoggy S x12_3 (fun r_7 => ((r_7 = (nI 0) → (q_X5_boundOf_90 d3 a1 a2 a4 S k ih x7 x8 x9 x10 x11 x12_3)) ∧ (¬ r_7 = (nI 0) → (q_X5_boundOf_112 d3 a1 a2 a4 S k ih x7 x8 x9 x10 x11 x12_3)))))) ∧ (¬ x6 = (nI 0) → (q_X5_boundOf_90 d3 a1 a2 a4 S k ih x7 x8 x9 x10 x11 x12_3)))))))))))) n_
theorem q_X5_boundOf_36_s (d3 : Nat) (a1 : Int32) (a2 : Int32) (a4 : Int32) (S : St) (k : Int32 → Prop) (n_ : Nat) (x6 : Int32) (x7 : Int32) (x8 : Int32) (x9 : Int32) (x10 : Int32) (x11 : Int32) : q_X5_boundOf_36 d3 a1 a2 a4 S k (n_ + 1) x6 x7 x8 x9 x10 x11 = ((a4 ≤ x11 → (q_X5_boundOf_168 d3 a1 a2 a4 S k x7 x8 x9)) ∧ (¬ a4 ≤ x11 → (((nI 12) ≤ ((S.1 (33 + 7 * d3) 0) + x11) → (q_X5_boundOf_168 d3 a1 a2 a4 S k x7 x8 x9)) ∧ (¬ (nI 12) ≤ ((S.1 (33 + 7 * d3) 0) + x11) → (∀ x12_3 : Int32, x12_3 = ((S.1 (33 + 7 * d3) 0) + x11) → (q_X0_isFree S a1 a2 x12_3 (fun r_4 => ((r_4 = (nI 0) → (q_X5_boundOf_112 d3 a1 a2 a4 S k (q_X5_boundOf_36 d3 a1 a2 a4 S k n_) x7 x8 x9 x10 x11 x12_3)) ∧ (¬ r_4 = (nI 0) → ((x6 = (nI 0) → (q_X4_isFoggy S x12_3 (fun r_7 => ((r_7 = (nI 0) → (q_X5_boundOf_90 d3 a1 a2 a4 S k (q_X5_boundOf_36 d3 a1 a2 a4 S k n_) x7 x8 x9 x10 x11 x12_3)) ∧ (¬ r_7 = (nI 0) → (q_X5_boundOf_112 d3 a1 a2 a4 S k (q_X5_boundOf_36 d3 a1 a2 a4 S k n_) x7 x8 x9 x10 x11 x12_3)))))) ∧ (¬ x6 = (nI 0) → (q_X5_boundOf_90 d3 a1 a2 a4 S k (q_X5_boundOf_36 d3 a1 a2 a4 S k n_) x7 x8 x9 x10 x11 x12_3)))))))))))) := rfl
set_option maxRecDepth 100000 in
set_option maxHeartbeats 4000000 in
theorem b_X5_boundOf_36 {p : Program} {l : Launch} {e : Env} {s : State} {m : MethodId} {args : Array Value} {below : List Frame} {meth : Method} {c : Code} {Z : ZT} (hi : injZ 68 Z) (C : Cxt (gX Z) p s m meth c args yX5_boundOf cX5_boundOf 14 (Option.some .int)) {d3 : Nat} {a1 : Int32} {a2 : Int32} {a4 : Int32} {S : St} {k : Int32 → Prop} (hd3 : d3 < 5)  : ∀ (n_ : Nat) (x6 : Int32) (x7 : Int32) (x8 : Int32) (x9 : Int32) (x10 : Int32) (x11 : Int32) (H : Heap) (locs : List Loc) (ls : Array Slot), va_P Z.1 vwCl (wl shX 68 Z S) H → va_S (aa 68 Z) s.heap H locs → lv_has ls 14 [(0, .int a1), (1, .int a2), (2, .ref (Z.2.2.1 (33 + 7 * d3))), (3, .int a4), (4, .ref (Z.2.2.1 4)), (5, .ref (Z.2.2.1 19)), (6, .int x6), (7, .int x7), (8, .int x8), (9, .int x9), (10, .int x10), (11, .int x11)] → q_X5_boundOf_36 d3 a1 a2 a4 S k n_ x6 x7 x8 x9 x10 x11 → W p l e (rmk 2 45) s m args below meth c H locs 0 0 (Qi below shX 68 Z args s (fun r S' => S' = S ∧ k r)) (F0 m 36 ls []) := by
  have g := gokX hi
  have hx := C.1.1
  have hb := C.1.2.1
  intro n_
  induction n_ with
  | zero => intro x6 x7 x8 x9 x10 x11 H locs ls hP hS hl h; exact h.elim
  | succ n_ ih =>
    intro x6 x7 x8 x9 x10 x11 H locs ls hP hS hl h
    rw [q_X5_boundOf_36_s] at h
    refine lv_iload hx hb dX5_boundOf_36 (lv_at hl 11 rfl) ?_
    refine lv_iload_n hx hb dX5_boundOf_38 rfl (lv_at hl 3 rfl) ?_
    refine lv_icmp_ge (tgt := 168) hx hb dX5_boundOf_39 (by decide) (fun c_1 => ?_) (fun c_1 => ?_)
    · have h := h.1 c_1
      exact b_X5_boundOf_168 hi C hd3 _ _ _ _ _ _ hP hS (lv_sub hl [2, 7, 8, 9] rfl) h
    · have h := h.2 c_1
      refine lv_aload_n hx hb dX5_boundOf_42 rfl (lv_at hl 2 rfl) ?_
      refine s_gI g C hP (33 + 7 * d3) 0 (ltX_day (d := d3) hd3) (shX_day (d := d3) hd3) rfl cfX1 (by decide) kFL_X5_94 dX5_boundOf_43 ?_
      refine lv_iload hx hb dX5_boundOf_46 (lv_at hl 11 rfl) ?_
      refine lv_iadd hx hb dX5_boundOf_48 ?_
      refine lv_bipush (v := (nI 12)) hx hb dX5_boundOf_49 (by decide) ?_
      refine lv_icmp_ge (tgt := 168) hx hb dX5_boundOf_51 (by decide) (fun c_2 => ?_) (fun c_2 => ?_)
      · have h := h.1 c_2
        exact b_X5_boundOf_168 hi C hd3 _ _ _ _ _ _ hP hS (lv_sub hl [2, 7, 8, 9] rfl) h
      · have h := h.2 c_2
        refine lv_aload_n hx hb dX5_boundOf_54 rfl (lv_at hl 2 rfl) ?_
        refine s_gI g C hP (33 + 7 * d3) 0 (ltX_day (d := d3) hd3) (shX_day (d := d3) hd3) rfl cfX1 (by decide) kFL_X5_94 dX5_boundOf_55 ?_
        refine lv_iload hx hb dX5_boundOf_58 (lv_at hl 11 rfl) ?_
        refine lv_iadd hx hb dX5_boundOf_60 ?_
        refine lv_topi (fun x12_3 ex12_3 => ?_)
        have h := h x12_3 ex12_3
        refine lv_istore (lv' := [(12, .int x12_3), (0, .int a1), (1, .int a2), (2, .ref (Z.2.2.1 (33 + 7 * d3))), (3, .int a4), (4, .ref (Z.2.2.1 4)), (5, .ref (Z.2.2.1 19)), (6, .int x6), (7, .int x7), (8, .int x8), (9, .int x9), (10, .int x10), (11, .int x11)]) hx hb dX5_boundOf_61 hl (by decide) rfl (fun ls hl => ?_)
        refine lv_aload hx hb dX5_boundOf_63 (lv_at hl 6 rfl) ?_
        refine lv_iload_n hx hb dX5_boundOf_65 rfl (lv_at hl 1 rfl) ?_
        refine lv_iload_n hx hb dX5_boundOf_66 rfl (lv_at hl 2 rfl) ?_
        refine lv_iload hx hb dX5_boundOf_67 (lv_at hl 0 rfl) ?_
        refine go_ip (run_V g C hP hS (c0 := 19) (As := [.int a1, .int a2, .int x12_3]) (rest := []) (c_X0_isFree hi S a1 a2 x12_3 _ h) cal_X0_isFree kML_X5_97 (by decide) rfl cfX0 ⟨rfl, rfl, Nat.le_of_ble_eq_true rfl, Nat.le_of_ble_eq_true rfl⟩ rfl rfl hl.1 (Nat.le_of_ble_eq_true rfl) dX5_boundOf_69) hS (fun r_4 H locs h hP hS => ?_)
        obtain ⟨hbr_4, h⟩ := h
        refine lv_if_eq (tgt := 112) hx hb dX5_boundOf_72 (by decide) (fun c_5 => ?_) (fun c_5 => ?_)
        · have h := h.1 c_5
          exact b_X5_boundOf_112 hi C hd3 ih _ _ _ _ _ _ _ _ _ hP hS (lv_sub hl [1, 2, 3, 4, 5, 6, 8, 9, 10, 11, 12, 0] rfl) h
        · have h := h.2 c_5
          refine lv_iload hx hb dX5_boundOf_75 (lv_at hl 7 rfl) ?_
          refine lv_if_ne (tgt := 90) hx hb dX5_boundOf_77 (by decide) (fun c_6 => ?_) (fun c_6 => ?_)
          · have h := h.2 c_6
            exact b_X5_boundOf_90 hi C hd3 ih _ _ _ _ _ _ _ _ _ hP hS (lv_sub hl [1, 2, 3, 4, 5, 6, 8, 9, 10, 11, 12, 0] rfl) h
          · have h := h.1 c_6
            refine lv_aload hx hb dX5_boundOf_80 (lv_at hl 5 rfl) ?_
            refine lv_iload hx hb dX5_boundOf_82 (lv_at hl 0 rfl) ?_
            refine go_ip (run_V g C hP hS (c0 := 4) (As := [.int x12_3]) (rest := []) (c_X4_isFoggy hi S x12_3 _ h) cal_X4_isFoggy kML_X5_103 (by decide) rfl cfX4 ⟨rfl, rfl, Nat.le_of_ble_eq_true rfl, Nat.le_of_ble_eq_true rfl⟩ rfl rfl hl.1 (Nat.le_of_ble_eq_true rfl) dX5_boundOf_84) hS (fun r_7 H locs h hP hS => ?_)
            obtain ⟨hbr_7, h⟩ := h
            refine lv_if_ne (tgt := 112) hx hb dX5_boundOf_87 (by decide) (fun c_8 => ?_) (fun c_8 => ?_)
            · have h := h.2 c_8
              exact b_X5_boundOf_112 hi C hd3 ih _ _ _ _ _ _ _ _ _ hP hS (lv_sub hl [1, 2, 3, 4, 5, 6, 8, 9, 10, 11, 12, 0] rfl) h
            · have h := h.1 c_8
              exact b_X5_boundOf_90 hi C hd3 ih _ _ _ _ _ _ _ _ _ hP hS (lv_sub hl [1, 2, 3, 4, 5, 6, 8, 9, 10, 11, 12, 0] rfl) h
def q_X5_boundOf (d3 : Nat) (S : St) (a1 : Int32) (a2 : Int32) (a4 : Int32) (k : Int32 → Prop) : Prop := q_X8_isIn S (S.1 (33 + 7 * d3) 1) a1 (fun r_1 => (vp_in a1 6 ∧ (∀ x10_3 : Int32, x10_3 = ((nI 3) * (S.1 (9 + a1.toNatClampNeg) 4)) → (∃ f_36, q_X5_boundOf_36 d3 a1 a2 a4 S k f_36 r_1 (nI 0) (nI 0) (nI 0) x10_3 (nI 0)))))
set_option maxRecDepth 100000 in
set_option maxHeartbeats 4000000 in
theorem c_X5_boundOf {l : Launch} {Z : ZT} (hi : injZ 68 Z) (d3 : Nat) (hd3 : d3 < 5) (S : St) (a1 : Int32) (a2 : Int32) (a4 : Int32) (k : Int32 → Prop) (h : q_X5_boundOf d3 S a1 a2 a4 k) : Mi l shX 68 Z (gX Z) yX5_boundOf cX5_boundOf 14 (Option.some .int) (rmk 2 45) [.int a1, .int a2, .ref (Z.2.2.1 (33 + 7 * d3)), .int a4, .ref (Z.2.2.1 4), .ref (Z.2.2.1 19)] S (fun r S' => S' = S ∧ k r) := by
  have g := gokX hi
  refine e_i (by decide) (Nat.le_of_ble_eq_true rfl) (lv := [(0, .int a1), (1, .int a2), (2, .ref (Z.2.2.1 (33 + 7 * d3))), (3, .int a4), (4, .ref (Z.2.2.1 4)), (5, .ref (Z.2.2.1 19))]) rfl (fun p e s m args below meth c C hP hS ls hl => ?_)
  have hx := C.1.1
  have hb := C.1.2.1
  unfold q_X5_boundOf at h
  refine lv_aload_n hx hb dX5_boundOf_0 rfl (lv_at hl 2 rfl) ?_
  refine s_gI g C hP (33 + 7 * d3) 1 (ltX_day (d := d3) hd3) (shX_day (d := d3) hd3) rfl cfX1 (by decide) kFL_X5_78 dX5_boundOf_1 ?_
  refine lv_iload_n hx hb dX5_boundOf_4 rfl (lv_at hl 0 rfl) ?_
  refine go_ip (run_SN g C hP hS (As := [.int (S.1 (33 + 7 * d3) 1), .int a1]) (rest := []) (c_X8_isIn hi S (S.1 (33 + 7 * d3) 1) a1 _ h) cal_X8_isIn (nstX C.2.2.2 14 rfl) ⟨rfl, rfl, Nat.le_of_ble_eq_true rfl, Nat.le_of_ble_eq_true rfl⟩ rfl rfl hl.1 (Nat.le_of_ble_eq_true rfl) dX5_boundOf_5) hS (fun r_1 H locs h hP hS => ?_)
  obtain ⟨hbr_1, h⟩ := h
  refine lv_istore (lv' := [(6, .int r_1), (0, .int a1), (1, .int a2), (2, .ref (Z.2.2.1 (33 + 7 * d3))), (3, .int a4), (4, .ref (Z.2.2.1 4)), (5, .ref (Z.2.2.1 19))]) hx hb dX5_boundOf_8 hl (by decide) rfl (fun ls hl => ?_)
  refine lv_iconst (v := (nI 0)) hx hb dX5_boundOf_10 (by decide) ?_
  refine lv_istore (lv' := [(7, .int (nI 0)), (6, .int r_1), (0, .int a1), (1, .int a2), (2, .ref (Z.2.2.1 (33 + 7 * d3))), (3, .int a4), (4, .ref (Z.2.2.1 4)), (5, .ref (Z.2.2.1 19))]) hx hb dX5_boundOf_11 hl (by decide) rfl (fun ls hl => ?_)
  refine lv_iconst (v := (nI 0)) hx hb dX5_boundOf_13 (by decide) ?_
  refine lv_istore (lv' := [(8, .int (nI 0)), (7, .int (nI 0)), (6, .int r_1), (0, .int a1), (1, .int a2), (2, .ref (Z.2.2.1 (33 + 7 * d3))), (3, .int a4), (4, .ref (Z.2.2.1 4)), (5, .ref (Z.2.2.1 19))]) hx hb dX5_boundOf_14 hl (by decide) rfl (fun ls hl => ?_)
  refine lv_iconst (v := (nI 0)) hx hb dX5_boundOf_16 (by decide) ?_
  refine lv_istore (lv' := [(9, .int (nI 0)), (8, .int (nI 0)), (7, .int (nI 0)), (6, .int r_1), (0, .int a1), (1, .int a2), (2, .ref (Z.2.2.1 (33 + 7 * d3))), (3, .int a4), (4, .ref (Z.2.2.1 4)), (5, .ref (Z.2.2.1 19))]) hx hb dX5_boundOf_17 hl (by decide) rfl (fun ls hl => ?_)
  refine lv_iconst (v := (nI 3)) hx hb dX5_boundOf_19 (by decide) ?_
  refine lv_aload hx hb dX5_boundOf_20 (lv_at hl 8 rfl) ?_
  refine s_gR g C hP 4 0 5 (by decide) rfl rfl cfX4 (by decide) kFL_X5_85 dX5_boundOf_22 ?_
  refine lv_iload_n hx hb dX5_boundOf_25 rfl (lv_at hl 4 rfl) ?_
  have hv_2 := h.1
  have h := h.2
  refine s_aR g C hP 5 (t := 0) (by decide) rfl rfl hv_2 dX5_boundOf_26 ?_
  refine s_gI g C hP (9 + a1.toNatClampNeg) 4 (ltX_kite (vin_lt hv_2)) (shX_kite (vin_lt hv_2)) rfl cfX2 (by decide) kFL_X5_89 dX5_boundOf_27 ?_
  refine lv_imul hx hb dX5_boundOf_30 ?_
  refine lv_topi (fun x10_3 ex10_3 => ?_)
  have h := h x10_3 ex10_3
  refine lv_istore (lv' := [(10, .int x10_3), (9, .int (nI 0)), (8, .int (nI 0)), (7, .int (nI 0)), (6, .int r_1), (0, .int a1), (1, .int a2), (2, .ref (Z.2.2.1 (33 + 7 * d3))), (3, .int a4), (4, .ref (Z.2.2.1 4)), (5, .ref (Z.2.2.1 19))]) hx hb dX5_boundOf_31 hl (by decide) rfl (fun ls hl => ?_)
  refine lv_iconst (v := (nI 0)) hx hb dX5_boundOf_33 (by decide) ?_
  refine lv_istore (lv' := [(11, .int (nI 0)), (10, .int x10_3), (9, .int (nI 0)), (8, .int (nI 0)), (7, .int (nI 0)), (6, .int r_1), (0, .int a1), (1, .int a2), (2, .ref (Z.2.2.1 (33 + 7 * d3))), (3, .int a4), (4, .ref (Z.2.2.1 4)), (5, .ref (Z.2.2.1 19))]) hx hb dX5_boundOf_34 hl (by decide) rfl (fun ls hl => ?_)
  obtain ⟨f_36, h⟩ := h
  exact b_X5_boundOf_36 hi C hd3 f_36 _ _ _ _ _ _ _ _ _ hP hS (lv_sub hl [6, 7, 8, 9, 10, 11, 5, 4, 3, 2, 1, 0] rfl) h
def q_X5_setBounds_32 (q : Nat) (d1 : Nat) (a2 : Int32) (k : St → Prop) (e_11 : St → Int32 → Prop) : Nat → St → Int32 → Int32 → Int32 → Prop := fun n_ => Nat.rec (motive := fun _ => St → Int32 → Int32 → Int32 → Prop) (fun _ _ _ _ => False) (fun _ ih => fun S x5 x6 x7 => ((nI 4) ≤ x7 → (vp_in (x5 + (nI 1)) 7 ∧ (vp_in x5 7 ∧ (∀ S_4 : St, S_4 = sI S (24 + 3 * q + 2) x5.toNatClampNeg ((S.1 (24 + 3 * q + 2) (x5 + (nI 1)).toNatClampNeg) + x6) → (∀ x5_5 : Int32, x5_5 = x5 + (-1 : Int32) → (e_11 S_4 x5_5)))))) ∧ (¬ (nI 4) ≤ x7 → (q_X5_boundOf d1 S x5 x7 a2 (fun r_6 => (vp_in ((x5 * (nI 4)) + x7) 24 ∧ (∀ S_8 : St, S_8 = sI S (24 + 3 * q + 1) ((x5 * (nI 4)) + x7).toNatClampNeg r_6 → (∀ x6_9 : Int32, x6_9 = (if x6 < r_6 then r_6 else x6) → (∀ x7_10 : Int32, x7_10 = x7 + (nI 1) → (ih S_8 x5 x6_9 x7_10))))))))) n_
theorem q_X5_setBounds_32_s (q : Nat) (d1 : Nat) (a2 : Int32) (k : St → Prop) (e_11 : St → Int32 → Prop) (n_ : Nat) (S : St) (x5 : Int32) (x6 : Int32) (x7 : Int32) : q_X5_setBounds_32 q d1 a2 k e_11 (n_ + 1) S x5 x6 x7 = (((nI 4) ≤ x7 → (vp_in (x5 + (nI 1)) 7 ∧ (vp_in x5 7 ∧ (∀ S_4 : St, S_4 = sI S (24 + 3 * q + 2) x5.toNatClampNeg ((S.1 (24 + 3 * q + 2) (x5 + (nI 1)).toNatClampNeg) + x6) → (∀ x5_5 : Int32, x5_5 = x5 + (-1 : Int32) → (e_11 S_4 x5_5)))))) ∧ (¬ (nI 4) ≤ x7 → (q_X5_boundOf d1 S x5 x7 a2 (fun r_6 => (vp_in ((x5 * (nI 4)) + x7) 24 ∧ (∀ S_8 : St, S_8 = sI S (24 + 3 * q + 1) ((x5 * (nI 4)) + x7).toNatClampNeg r_6 → (∀ x6_9 : Int32, x6_9 = (if x6 < r_6 then r_6 else x6) → (∀ x7_10 : Int32, x7_10 = x7 + (nI 1) → ((q_X5_setBounds_32 q d1 a2 k e_11 n_) S_8 x5 x6_9 x7_10))))))))) := rfl
set_option maxRecDepth 100000 in
set_option maxHeartbeats 4000000 in
theorem b_X5_setBounds_32 {p : Program} {l : Launch} {e : Env} {s : State} {m : MethodId} {args : Array Value} {below : List Frame} {meth : Method} {c : Code} {Z : ZT} (hi : injZ 68 Z) (C : Cxt (gX Z) p s m meth c args yX5_setBounds cX5_setBounds 9 none) {q : Nat} {d1 : Nat} {a2 : Int32} {k : St → Prop} {e_11 : St → Int32 → Prop} (hq : q < 2) (hd1 : d1 < 5) (he_11 : ∀ (S : St) (x5 : Int32) (H : Heap) (locs : List Loc) (ls : Array Slot), va_P Z.1 vwCl (wl shX 68 Z S) H → va_S (aa 68 Z) s.heap H locs → lv_has ls 9 [(0, .ref (Z.2.2.1 (24 + 3 * q))), (1, .ref (Z.2.2.1 (33 + 7 * d1))), (2, .int a2), (3, .ref (Z.2.2.1 4)), (4, .ref (Z.2.2.1 19)), (5, .int x5)] → e_11 S x5 → W p l e (rmk 3 78) s m args below meth c H locs 0 0 (Qv below shX 68 Z args s k) (F0 m 11 ls [])) : ∀ (n_ : Nat) (S : St) (x5 : Int32) (x6 : Int32) (x7 : Int32) (H : Heap) (locs : List Loc) (ls : Array Slot), va_P Z.1 vwCl (wl shX 68 Z S) H → va_S (aa 68 Z) s.heap H locs → lv_has ls 9 [(0, .ref (Z.2.2.1 (24 + 3 * q))), (1, .ref (Z.2.2.1 (33 + 7 * d1))), (2, .int a2), (3, .ref (Z.2.2.1 4)), (4, .ref (Z.2.2.1 19)), (5, .int x5), (6, .int x6), (7, .int x7)] → q_X5_setBounds_32 q d1 a2 k e_11 n_ S x5 x6 x7 → W p l e (rmk 3 78) s m args below meth c H locs 0 0 (Qv below shX 68 Z args s k) (F0 m 32 ls []) := by
  have g := gokX hi
  have hx := C.1.1
  have hb := C.1.2.1
  intro n_
  induction n_ with
  | zero => intro S x5 x6 x7 H locs ls hP hS hl h; exact h.elim
  | succ n_ ih =>
    intro S x5 x6 x7 H locs ls hP hS hl h
    rw [q_X5_setBounds_32_s] at h
    refine lv_iload hx hb dX5_setBounds_32 (lv_at hl 7 rfl) ?_
    refine lv_iconst (v := (nI 4)) hx hb dX5_setBounds_34 (by decide) ?_
    refine lv_icmp_ge (tgt := 81) hx hb dX5_setBounds_35 (by decide) (fun c_1 => ?_) (fun c_1 => ?_)
    · have h := h.1 c_1
      refine lv_aload_n hx hb dX5_setBounds_81 rfl (lv_at hl 0 rfl) ?_
      refine s_gR g C hP (24 + 3 * q) 4 (24 + 3 * q + 2) (ltX_se (q := q) hq) (shX_se (q := q) hq) rfl cfX5 (by decide) kFL_X5_15 dX5_setBounds_82 ?_
      refine lv_iload hx hb dX5_setBounds_85 (lv_at hl 5 rfl) ?_
      refine lv_aload_n hx hb dX5_setBounds_87 rfl (lv_at hl 0 rfl) ?_
      refine s_gR g C hP (24 + 3 * q) 4 (24 + 3 * q + 2) (ltX_se (q := q) hq) (shX_se (q := q) hq) rfl cfX5 (by decide) kFL_X5_15 dX5_setBounds_88 ?_
      refine lv_iload hx hb dX5_setBounds_91 (lv_at hl 5 rfl) ?_
      refine lv_iconst (v := (nI 1)) hx hb dX5_setBounds_93 (by decide) ?_
      refine lv_iadd hx hb dX5_setBounds_94 ?_
      have hv_2 := h.1
      have h := h.2
      refine s_aI g C hP (24 + 3 * q + 2) (ltX_se2 (q := q) hq) (shX_se2 (q := q) hq) hv_2 dX5_setBounds_95 ?_
      refine lv_iload hx hb dX5_setBounds_96 (lv_at hl 6 rfl) ?_
      refine lv_iadd hx hb dX5_setBounds_98 ?_
      have hv_3 := h.1
      have h := h.2
      refine s_stI g C hP hS (24 + 3 * q + 2) (ltX_se2 (q := q) hq) (shX_se2 (q := q) hq) hv_3 dX5_setBounds_99 (fun H locs hP hS => ?_)
      obtain ⟨S_4, eS_4⟩ : ∃ z_ : St, z_ = sI S (24 + 3 * q + 2) x5.toNatClampNeg ((S.1 (24 + 3 * q + 2) (x5 + (nI 1)).toNatClampNeg) + x6) := ⟨_, rfl⟩
      rw [← eS_4] at hP
      have h := h S_4 eS_4
      obtain ⟨x5_5, ex5_5⟩ : ∃ y_ : Int32, y_ = x5 + (-1 : Int32) := ⟨_, rfl⟩
      have h := h x5_5 ex5_5
      refine lv_iinc (v := x5_5) (lv' := [(5, .int x5_5), (0, .ref (Z.2.2.1 (24 + 3 * q))), (1, .ref (Z.2.2.1 (33 + 7 * d1))), (2, .int a2), (3, .ref (Z.2.2.1 4)), (4, .ref (Z.2.2.1 19)), (6, .int x6), (7, .int x7)]) hx hb dX5_setBounds_100 hl (k := 5) rfl (by rw [ex5_5]; rfl) (by decide) rfl (fun ls hl => ?_)
      refine lv_goto (tgt := 11) hx hb dX5_setBounds_103 (by decide) ?_
      exact he_11 _ _ _ _ _ hP hS (lv_sub hl [1, 2, 3, 4, 5, 0] rfl) h
    · have h := h.2 c_1
      refine lv_iload hx hb dX5_setBounds_38 (lv_at hl 5 rfl) ?_
      refine lv_iload hx hb dX5_setBounds_40 (lv_at hl 7 rfl) ?_
      refine lv_aload_n hx hb dX5_setBounds_42 rfl (lv_at hl 1 rfl) ?_
      refine lv_iload_n hx hb dX5_setBounds_43 rfl (lv_at hl 2 rfl) ?_
      refine lv_aload_n hx hb dX5_setBounds_44 rfl (lv_at hl 3 rfl) ?_
      refine lv_aload hx hb dX5_setBounds_45 (lv_at hl 4 rfl) ?_
      refine go_ip (run_S g C hP hS (As := [.int x5, .int x7, .ref (Z.2.2.1 (33 + 7 * d1)), .int a2, .ref (Z.2.2.1 4), .ref (Z.2.2.1 19)]) (rest := []) (c_X5_boundOf hi d1 hd1 S x5 x7 a2 _ h) cal_X5_boundOf kML_X5_69 ⟨rfl, rfl, Nat.le_of_ble_eq_true rfl, Nat.le_of_ble_eq_true rfl⟩ rfl rfl hl.1 (Nat.le_of_ble_eq_true rfl) dX5_setBounds_47) hS (fun r_6 H locs h hP hS => ?_)
      refine lv_istore (lv' := [(8, .int r_6), (0, .ref (Z.2.2.1 (24 + 3 * q))), (1, .ref (Z.2.2.1 (33 + 7 * d1))), (2, .int a2), (3, .ref (Z.2.2.1 4)), (4, .ref (Z.2.2.1 19)), (5, .int x5), (6, .int x6), (7, .int x7)]) hx hb dX5_setBounds_50 hl (by decide) rfl (fun ls hl => ?_)
      refine lv_aload_n hx hb dX5_setBounds_52 rfl (lv_at hl 1 rfl) ?_
      refine s_gR g C hP (24 + 3 * q) 3 (24 + 3 * q + 1) (ltX_se (q := q) hq) (shX_se (q := q) hq) rfl cfX5 (by decide) kFL_X5_9 dX5_setBounds_53 ?_
      refine lv_iload hx hb dX5_setBounds_56 (lv_at hl 6 rfl) ?_
      refine lv_iconst (v := (nI 4)) hx hb dX5_setBounds_58 (by decide) ?_
      refine lv_imul hx hb dX5_setBounds_59 ?_
      refine lv_iload hx hb dX5_setBounds_60 (lv_at hl 8 rfl) ?_
      refine lv_iadd hx hb dX5_setBounds_62 ?_
      refine lv_iload hx hb dX5_setBounds_63 (lv_at hl 0 rfl) ?_
      have hv_7 := h.1
      have h := h.2
      refine s_stI g C hP hS (24 + 3 * q + 1) (ltX_se1 (q := q) hq) (shX_se1 (q := q) hq) hv_7 dX5_setBounds_65 (fun H locs hP hS => ?_)
      obtain ⟨S_8, eS_8⟩ : ∃ z_ : St, z_ = sI S (24 + 3 * q + 1) ((x5 * (nI 4)) + x7).toNatClampNeg r_6 := ⟨_, rfl⟩
      rw [← eS_8] at hP
      have h := h S_8 eS_8
      refine lv_iload hx hb dX5_setBounds_66 (lv_at hl 7 rfl) ?_
      refine lv_iload hx hb dX5_setBounds_68 (lv_at hl 0 rfl) ?_
      refine s_max C hl.1 kML_X5_73 ⟨Nat.le_of_ble_eq_true rfl, Nat.le_of_ble_eq_true rfl⟩ dX5_setBounds_70 ?_
      refine lv_topi (fun x6_9 ex6_9 => ?_)
      have h := h x6_9 ex6_9
      refine lv_istore (lv' := [(6, .int x6_9), (8, .int r_6), (0, .ref (Z.2.2.1 (24 + 3 * q))), (1, .ref (Z.2.2.1 (33 + 7 * d1))), (2, .int a2), (3, .ref (Z.2.2.1 4)), (4, .ref (Z.2.2.1 19)), (5, .int x5), (7, .int x7)]) hx hb dX5_setBounds_73 hl (by decide) rfl (fun ls hl => ?_)
      obtain ⟨x7_10, ex7_10⟩ : ∃ y_ : Int32, y_ = x7 + (nI 1) := ⟨_, rfl⟩
      have h := h x7_10 ex7_10
      refine lv_iinc (v := x7_10) (lv' := [(7, .int x7_10), (6, .int x6_9), (8, .int r_6), (0, .ref (Z.2.2.1 (24 + 3 * q))), (1, .ref (Z.2.2.1 (33 + 7 * d1))), (2, .int a2), (3, .ref (Z.2.2.1 4)), (4, .ref (Z.2.2.1 19)), (5, .int x5)]) hx hb dX5_setBounds_75 hl (k := 8) rfl (by rw [ex7_10]; rfl) (by decide) rfl (fun ls hl => ?_)
      refine lv_goto (tgt := 32) hx hb dX5_setBounds_78 (by decide) ?_
      exact ih _ _ _ _ _ _ _ hP hS (lv_sub hl [3, 4, 5, 6, 7, 8, 1, 0] rfl) h
def q_X5_setBounds_11 (q : Nat) (d1 : Nat) (a2 : Int32) (k : St → Prop) : Nat → St → Int32 → Prop := fun n_ => Nat.rec (motive := fun _ => St → Int32 → Prop) (fun _ _ => False) (fun _ ih => fun S x5 => (x5 < (nI 0) → (k S)) ∧ (¬ x5 < (nI 0) → (vp_in (x5 * (nI 4)) 24 ∧ (∀ S_3 : St, S_3 = sI S (24 + 3 * q + 1) (x5 * (nI 4)).toNatClampNeg (nI 0) → (∃ f_32, q_X5_setBounds_32 q d1 a2 k ih f_32 S_3 x5 (nI 0) (nI 1)))))) n_
theorem q_X5_setBounds_11_s (q : Nat) (d1 : Nat) (a2 : Int32) (k : St → Prop) (n_ : Nat) (S : St) (x5 : Int32) : q_X5_setBounds_11 q d1 a2 k (n_ + 1) S x5 = ((x5 < (nI 0) → (k S)) ∧ (¬ x5 < (nI 0) → (vp_in (x5 * (nI 4)) 24 ∧ (∀ S_3 : St, S_3 = sI S (24 + 3 * q + 1) (x5 * (nI 4)).toNatClampNeg (nI 0) → (∃ f_32, q_X5_setBounds_32 q d1 a2 k (q_X5_setBounds_11 q d1 a2 k n_) f_32 S_3 x5 (nI 0) (nI 1)))))) := rfl
set_option maxRecDepth 100000 in
set_option maxHeartbeats 4000000 in
theorem b_X5_setBounds_11 {p : Program} {l : Launch} {e : Env} {s : State} {m : MethodId} {args : Array Value} {below : List Frame} {meth : Method} {c : Code} {Z : ZT} (hi : injZ 68 Z) (C : Cxt (gX Z) p s m meth c args yX5_setBounds cX5_setBounds 9 none) {q : Nat} {d1 : Nat} {a2 : Int32} {k : St → Prop} (hq : q < 2) (hd1 : d1 < 5)  : ∀ (n_ : Nat) (S : St) (x5 : Int32) (H : Heap) (locs : List Loc) (ls : Array Slot), va_P Z.1 vwCl (wl shX 68 Z S) H → va_S (aa 68 Z) s.heap H locs → lv_has ls 9 [(0, .ref (Z.2.2.1 (24 + 3 * q))), (1, .ref (Z.2.2.1 (33 + 7 * d1))), (2, .int a2), (3, .ref (Z.2.2.1 4)), (4, .ref (Z.2.2.1 19)), (5, .int x5)] → q_X5_setBounds_11 q d1 a2 k n_ S x5 → W p l e (rmk 3 78) s m args below meth c H locs 0 0 (Qv below shX 68 Z args s k) (F0 m 11 ls []) := by
  have g := gokX hi
  have hx := C.1.1
  have hb := C.1.2.1
  intro n_
  induction n_ with
  | zero => intro S x5 H locs ls hP hS hl h; exact h.elim
  | succ n_ ih =>
    intro S x5 H locs ls hP hS hl h
    rw [q_X5_setBounds_11_s] at h
    refine lv_iload hx hb dX5_setBounds_11 (lv_at hl 5 rfl) ?_
    refine lv_if_lt (tgt := 106) hx hb dX5_setBounds_13 (by decide) (fun c_1 => ?_) (fun c_1 => ?_)
    · have h := h.1 c_1
      exact s_rv C hP hS h dX5_setBounds_106
    · have h := h.2 c_1
      refine lv_iconst (v := (nI 0)) hx hb dX5_setBounds_16 (by decide) ?_
      refine lv_istore (lv' := [(6, .int (nI 0)), (0, .ref (Z.2.2.1 (24 + 3 * q))), (1, .ref (Z.2.2.1 (33 + 7 * d1))), (2, .int a2), (3, .ref (Z.2.2.1 4)), (4, .ref (Z.2.2.1 19)), (5, .int x5)]) hx hb dX5_setBounds_17 hl (by decide) rfl (fun ls hl => ?_)
      refine lv_aload_n hx hb dX5_setBounds_19 rfl (lv_at hl 1 rfl) ?_
      refine s_gR g C hP (24 + 3 * q) 3 (24 + 3 * q + 1) (ltX_se (q := q) hq) (shX_se (q := q) hq) rfl cfX5 (by decide) kFL_X5_9 dX5_setBounds_20 ?_
      refine lv_iload hx hb dX5_setBounds_23 (lv_at hl 6 rfl) ?_
      refine lv_iconst (v := (nI 4)) hx hb dX5_setBounds_25 (by decide) ?_
      refine lv_imul hx hb dX5_setBounds_26 ?_
      refine lv_iconst (v := (nI 0)) hx hb dX5_setBounds_27 (by decide) ?_
      have hv_2 := h.1
      have h := h.2
      refine s_stI g C hP hS (24 + 3 * q + 1) (ltX_se1 (q := q) hq) (shX_se1 (q := q) hq) hv_2 dX5_setBounds_28 (fun H locs hP hS => ?_)
      obtain ⟨S_3, eS_3⟩ : ∃ z_ : St, z_ = sI S (24 + 3 * q + 1) (x5 * (nI 4)).toNatClampNeg (nI 0) := ⟨_, rfl⟩
      rw [← eS_3] at hP
      have h := h S_3 eS_3
      refine lv_iconst (v := (nI 1)) hx hb dX5_setBounds_29 (by decide) ?_
      refine lv_istore (lv' := [(7, .int (nI 1)), (6, .int (nI 0)), (0, .ref (Z.2.2.1 (24 + 3 * q))), (1, .ref (Z.2.2.1 (33 + 7 * d1))), (2, .int a2), (3, .ref (Z.2.2.1 4)), (4, .ref (Z.2.2.1 19)), (5, .int x5)]) hx hb dX5_setBounds_30 hl (by decide) rfl (fun ls hl => ?_)
      obtain ⟨f_32, h⟩ := h
      exact b_X5_setBounds_32 hi C hq hd1 ih f_32 _ _ _ _ _ _ _ hP hS (lv_sub hl [2, 3, 4, 5, 6, 7, 1, 0] rfl) h
def q_X5_setBounds (q : Nat) (d1 : Nat) (S : St) (a2 : Int32) (k : St → Prop) : Prop := ∀ S_1 : St, S_1 = sI S (24 + 3 * q + 2) (nI 6).toNatClampNeg (nI 0) → (∃ f_11, q_X5_setBounds_11 q d1 a2 k f_11 S_1 (nI 5))
set_option maxRecDepth 100000 in
set_option maxHeartbeats 4000000 in
theorem c_X5_setBounds {l : Launch} {Z : ZT} (hi : injZ 68 Z) (q : Nat) (d1 : Nat) (hq : q < 2) (hd1 : d1 < 5) (S : St) (a2 : Int32) (k : St → Prop) (h : q_X5_setBounds q d1 S a2 k) : Mv l shX 68 Z (gX Z) yX5_setBounds cX5_setBounds 9 none (rmk 3 78) [.ref (Z.2.2.1 (24 + 3 * q)), .ref (Z.2.2.1 (33 + 7 * d1)), .int a2, .ref (Z.2.2.1 4), .ref (Z.2.2.1 19)] S k := by
  have g := gokX hi
  refine e_v (by decide) (Nat.le_of_ble_eq_true rfl) (lv := [(0, .ref (Z.2.2.1 (24 + 3 * q))), (1, .ref (Z.2.2.1 (33 + 7 * d1))), (2, .int a2), (3, .ref (Z.2.2.1 4)), (4, .ref (Z.2.2.1 19))]) rfl (fun p e s m args below meth c C hP hS ls hl => ?_)
  have hx := C.1.1
  have hb := C.1.2.1
  unfold q_X5_setBounds at h
  refine lv_aload_n hx hb dX5_setBounds_0 rfl (lv_at hl 0 rfl) ?_
  refine s_gR g C hP (24 + 3 * q) 4 (24 + 3 * q + 2) (ltX_se (q := q) hq) (shX_se (q := q) hq) rfl cfX5 (by decide) kFL_X5_15 dX5_setBounds_1 ?_
  refine lv_bipush (v := (nI 6)) hx hb dX5_setBounds_4 (by decide) ?_
  refine lv_iconst (v := (nI 0)) hx hb dX5_setBounds_6 (by decide) ?_
  refine s_stI g C hP hS (24 + 3 * q + 2) (ltX_se2 (q := q) hq) (shX_se2 (q := q) hq) (vinL (by decide +kernel)) dX5_setBounds_7 (fun H locs hP hS => ?_)
  obtain ⟨S_1, eS_1⟩ : ∃ z_ : St, z_ = sI S (24 + 3 * q + 2) (nI 6).toNatClampNeg (nI 0) := ⟨_, rfl⟩
  rw [← eS_1] at hP
  have h := h S_1 eS_1
  refine lv_iconst (v := (nI 5)) hx hb dX5_setBounds_8 (by decide) ?_
  refine lv_istore (lv' := [(5, .int (nI 5)), (0, .ref (Z.2.2.1 (24 + 3 * q))), (1, .ref (Z.2.2.1 (33 + 7 * d1))), (2, .int a2), (3, .ref (Z.2.2.1 4)), (4, .ref (Z.2.2.1 19))]) hx hb dX5_setBounds_9 hl (by decide) rfl (fun ls hl => ?_)
  obtain ⟨f_11, h⟩ := h
  exact b_X5_setBounds_11 hi C hq hd1 f_11 _ _ _ _ _ hP hS (lv_sub hl [1, 2, 3, 4, 5, 0] rfl) h
def q_X5_firstHopeless_4 (q : Nat) (a1 : Int32) (S : St) (k : Int32 → Prop) : Nat → Int32 → Int32 → Prop := fun n_ => Nat.rec (motive := fun _ => Int32 → Int32 → Prop) (fun _ _ => False) (fun _ ih => fun x2 x3 => ((nI 6) ≤ x3 → (k (nI 6))) ∧ (¬ (nI 6) ≤ x3 → (q_X5_heightIn S a1 x3 (fun r_2 => (vp_in ((x3 * (nI 4)) + r_2) 24 ∧ (∀ x4_4 : Int32, x4_4 = (S.1 (24 + 3 * q + 1) ((x3 * (nI 4)) + r_2).toNatClampNeg) → (∀ x2_5 : Int32, x2_5 = (x2 + x4_4) → ((x4_4 = (-1 : Int32) → (k x3)) ∧ (¬ x4_4 = (-1 : Int32) → (vp_in (x3 + (nI 1)) 7 ∧ (((S.1 (24 + 3 * q) 1) < (x2_5 + (S.1 (24 + 3 * q + 2) (x3 + (nI 1)).toNatClampNeg)) → (∀ x3_9 : Int32, x3_9 = x3 + (nI 1) → (ih x2_5 x3_9))) ∧ (¬ (S.1 (24 + 3 * q) 1) < (x2_5 + (S.1 (24 + 3 * q + 2) (x3 + (nI 1)).toNatClampNeg)) → (k x3))))))))))))) n_
theorem q_X5_firstHopeless_4_s (q : Nat) (a1 : Int32) (S : St) (k : Int32 → Prop) (n_ : Nat) (x2 : Int32) (x3 : Int32) : q_X5_firstHopeless_4 q a1 S k (n_ + 1) x2 x3 = (((nI 6) ≤ x3 → (k (nI 6))) ∧ (¬ (nI 6) ≤ x3 → (q_X5_heightIn S a1 x3 (fun r_2 => (vp_in ((x3 * (nI 4)) + r_2) 24 ∧ (∀ x4_4 : Int32, x4_4 = (S.1 (24 + 3 * q + 1) ((x3 * (nI 4)) + r_2).toNatClampNeg) → (∀ x2_5 : Int32, x2_5 = (x2 + x4_4) → ((x4_4 = (-1 : Int32) → (k x3)) ∧ (¬ x4_4 = (-1 : Int32) → (vp_in (x3 + (nI 1)) 7 ∧ (((S.1 (24 + 3 * q) 1) < (x2_5 + (S.1 (24 + 3 * q + 2) (x3 + (nI 1)).toNatClampNeg)) → (∀ x3_9 : Int32, x3_9 = x3 + (nI 1) → ((q_X5_firstHopeless_4 q a1 S k n_) x2_5 x3_9))) ∧ (¬ (S.1 (24 + 3 * q) 1) < (x2_5 + (S.1 (24 + 3 * q + 2) (x3 + (nI 1)).toNatClampNeg)) → (k x3))))))))))))) := rfl
set_option maxRecDepth 100000 in
set_option maxHeartbeats 4000000 in
theorem b_X5_firstHopeless_4 {p : Program} {l : Launch} {e : Env} {s : State} {m : MethodId} {args : Array Value} {below : List Frame} {meth : Method} {c : Code} {Z : ZT} (hi : injZ 68 Z) (C : Cxt (gX Z) p s m meth c args yX5_firstHopeless cX5_firstHopeless 5 (Option.some .int)) {q : Nat} {a1 : Int32} {S : St} {k : Int32 → Prop} (hq : q < 2)  : ∀ (n_ : Nat) (x2 : Int32) (x3 : Int32) (H : Heap) (locs : List Loc) (ls : Array Slot), va_P Z.1 vwCl (wl shX 68 Z S) H → va_S (aa 68 Z) s.heap H locs → lv_has ls 5 [(0, .ref (Z.2.2.1 (24 + 3 * q))), (1, .int a1), (2, .int x2), (3, .int x3)] → q_X5_firstHopeless_4 q a1 S k n_ x2 x3 → W p l e (rmk 2 41) s m args below meth c H locs 0 0 (Qi below shX 68 Z args s (fun r S' => S' = S ∧ k r)) (F0 m 4 ls []) := by
  have g := gokX hi
  have hx := C.1.1
  have hb := C.1.2.1
  intro n_
  induction n_ with
  | zero => intro x2 x3 H locs ls hP hS hl h; exact h.elim
  | succ n_ ih =>
    intro x2 x3 H locs ls hP hS hl h
    rw [q_X5_firstHopeless_4_s] at h
    refine lv_iload_n hx hb dX5_firstHopeless_4 rfl (lv_at hl 3 rfl) ?_
    refine lv_bipush (v := (nI 6)) hx hb dX5_firstHopeless_5 (by decide) ?_
    refine lv_icmp_ge (tgt := 62) hx hb dX5_firstHopeless_7 (by decide) (fun c_1 => ?_) (fun c_1 => ?_)
    · have h := h.1 c_1
      refine lv_bipush (v := (nI 6)) hx hb dX5_firstHopeless_62 (by decide) ?_
      exact s_ri C hP hS ⟨rfl, h⟩ dX5_firstHopeless_64
    · have h := h.2 c_1
      refine lv_aload_n hx hb dX5_firstHopeless_10 rfl (lv_at hl 0 rfl) ?_
      refine s_gR g C hP (24 + 3 * q) 3 (24 + 3 * q + 1) (ltX_se (q := q) hq) (shX_se (q := q) hq) rfl cfX5 (by decide) kFL_X5_9 dX5_firstHopeless_11 ?_
      refine lv_iload_n hx hb dX5_firstHopeless_14 rfl (lv_at hl 3 rfl) ?_
      refine lv_iconst (v := (nI 4)) hx hb dX5_firstHopeless_15 (by decide) ?_
      refine lv_imul hx hb dX5_firstHopeless_16 ?_
      refine lv_iload_n hx hb dX5_firstHopeless_17 rfl (lv_at hl 1 rfl) ?_
      refine lv_iload_n hx hb dX5_firstHopeless_18 rfl (lv_at hl 3 rfl) ?_
      refine go_ip (run_S g C hP hS (As := [.int a1, .int x3]) (rest := [.int (x3 * (nI 4)), .ref (Z.2.2.1 (24 + 3 * q + 1))]) (c_X5_heightIn hi S a1 x3 _ h) cal_X5_heightIn kML_X5_26 ⟨rfl, rfl, Nat.le_of_ble_eq_true rfl, Nat.le_of_ble_eq_true rfl⟩ rfl rfl hl.1 (Nat.le_of_ble_eq_true rfl) dX5_firstHopeless_19) hS (fun r_2 H locs h hP hS => ?_)
      refine lv_iadd hx hb dX5_firstHopeless_22 ?_
      have hv_3 := h.1
      have h := h.2
      refine s_aI g C hP (24 + 3 * q + 1) (ltX_se1 (q := q) hq) (shX_se1 (q := q) hq) hv_3 dX5_firstHopeless_23 ?_
      refine lv_topi (fun x4_4 ex4_4 => ?_)
      have h := h x4_4 ex4_4
      refine lv_istore (lv' := [(4, .int x4_4), (0, .ref (Z.2.2.1 (24 + 3 * q))), (1, .int a1), (2, .int x2), (3, .int x3)]) hx hb dX5_firstHopeless_24 hl (by decide) rfl (fun ls hl => ?_)
      refine lv_iload_n hx hb dX5_firstHopeless_26 rfl (lv_at hl 3 rfl) ?_
      refine lv_iload hx hb dX5_firstHopeless_27 (lv_at hl 0 rfl) ?_
      refine lv_iadd hx hb dX5_firstHopeless_29 ?_
      refine lv_topi (fun x2_5 ex2_5 => ?_)
      have h := h x2_5 ex2_5
      refine lv_istore_n (lv' := [(2, .int x2_5), (4, .int x4_4), (0, .ref (Z.2.2.1 (24 + 3 * q))), (1, .int a1), (3, .int x3)]) hx hb dX5_firstHopeless_30 rfl hl (by decide) rfl (fun ls hl => ?_)
      refine lv_iload hx hb dX5_firstHopeless_31 (lv_at hl 1 rfl) ?_
      refine lv_iconst (v := (-1 : Int32)) hx hb dX5_firstHopeless_33 (by decide) ?_
      refine lv_icmp_eq (tgt := 54) hx hb dX5_firstHopeless_34 (by decide) (fun c_6 => ?_) (fun c_6 => ?_)
      · have h := h.1 c_6
        refine lv_iload_n hx hb dX5_firstHopeless_54 rfl (lv_at hl 4 rfl) ?_
        exact s_ri C hP hS ⟨rfl, h⟩ dX5_firstHopeless_55
      · have h := h.2 c_6
        refine lv_iload_n hx hb dX5_firstHopeless_37 rfl (lv_at hl 0 rfl) ?_
        refine lv_aload_n hx hb dX5_firstHopeless_38 rfl (lv_at hl 2 rfl) ?_
        refine s_gR g C hP (24 + 3 * q) 4 (24 + 3 * q + 2) (ltX_se (q := q) hq) (shX_se (q := q) hq) rfl cfX5 (by decide) kFL_X5_15 dX5_firstHopeless_39 ?_
        refine lv_iload_n hx hb dX5_firstHopeless_42 rfl (lv_at hl 4 rfl) ?_
        refine lv_iconst (v := (nI 1)) hx hb dX5_firstHopeless_43 (by decide) ?_
        refine lv_iadd hx hb dX5_firstHopeless_44 ?_
        have hv_7 := h.1
        have h := h.2
        refine s_aI g C hP (24 + 3 * q + 2) (ltX_se2 (q := q) hq) (shX_se2 (q := q) hq) hv_7 dX5_firstHopeless_45 ?_
        refine lv_iadd hx hb dX5_firstHopeless_46 ?_
        refine lv_aload_n hx hb dX5_firstHopeless_47 rfl (lv_at hl 2 rfl) ?_
        refine s_gI g C hP (24 + 3 * q) 1 (ltX_se (q := q) hq) (shX_se (q := q) hq) rfl cfX5 (by decide) kFL_X5_38 dX5_firstHopeless_48 ?_
        refine lv_icmp_gt (tgt := 56) hx hb dX5_firstHopeless_51 (by decide) (fun c_8 => ?_) (fun c_8 => ?_)
        · have h := h.1 c_8
          obtain ⟨x3_9, ex3_9⟩ : ∃ y_ : Int32, y_ = x3 + (nI 1) := ⟨_, rfl⟩
          have h := h x3_9 ex3_9
          refine lv_iinc (v := x3_9) (lv' := [(3, .int x3_9), (2, .int x2_5), (4, .int x4_4), (0, .ref (Z.2.2.1 (24 + 3 * q))), (1, .int a1)]) hx hb dX5_firstHopeless_56 hl (k := 4) rfl (by rw [ex3_9]; rfl) (by decide) rfl (fun ls hl => ?_)
          refine lv_goto (tgt := 4) hx hb dX5_firstHopeless_59 (by decide) ?_
          exact ih _ _ _ _ _ hP hS (lv_sub hl [3, 4, 1, 0] rfl) h
        · have h := h.2 c_8
          refine lv_iload_n hx hb dX5_firstHopeless_54 rfl (lv_at hl 4 rfl) ?_
          exact s_ri C hP hS ⟨rfl, h⟩ dX5_firstHopeless_55
def q_X5_firstHopeless (q : Nat) (S : St) (a1 : Int32) (k : Int32 → Prop) : Prop := ∃ f_4, q_X5_firstHopeless_4 q a1 S k f_4 (nI 0) (nI 0)
set_option maxRecDepth 100000 in
set_option maxHeartbeats 4000000 in
theorem c_X5_firstHopeless {l : Launch} {Z : ZT} (hi : injZ 68 Z) (q : Nat) (hq : q < 2) (S : St) (a1 : Int32) (k : Int32 → Prop) (h : q_X5_firstHopeless q S a1 k) : Mi l shX 68 Z (gX Z) yX5_firstHopeless cX5_firstHopeless 5 (Option.some .int) (rmk 2 41) [.ref (Z.2.2.1 (24 + 3 * q)), .int a1] S (fun r S' => S' = S ∧ k r) := by
  have g := gokX hi
  refine e_i (by decide) (Nat.le_of_ble_eq_true rfl) (lv := [(0, .ref (Z.2.2.1 (24 + 3 * q))), (1, .int a1)]) rfl (fun p e s m args below meth c C hP hS ls hl => ?_)
  have hx := C.1.1
  have hb := C.1.2.1
  unfold q_X5_firstHopeless at h
  refine lv_iconst (v := (nI 0)) hx hb dX5_firstHopeless_0 (by decide) ?_
  refine lv_istore_n (lv' := [(2, .int (nI 0)), (0, .ref (Z.2.2.1 (24 + 3 * q))), (1, .int a1)]) hx hb dX5_firstHopeless_1 rfl hl (by decide) rfl (fun ls hl => ?_)
  refine lv_iconst (v := (nI 0)) hx hb dX5_firstHopeless_2 (by decide) ?_
  refine lv_istore_n (lv' := [(3, .int (nI 0)), (2, .int (nI 0)), (0, .ref (Z.2.2.1 (24 + 3 * q))), (1, .int a1)]) hx hb dX5_firstHopeless_3 rfl hl (by decide) rfl (fun ls hl => ?_)
  obtain ⟨f_4, h⟩ := h
  exact b_X5_firstHopeless_4 hi C hq f_4 _ _ _ _ _ hP hS (lv_sub hl [2, 3, 1, 0] rfl) h
def q_X5_tryPlan_9 (q : Nat) (d2 : Nat) (a1 : Int32) (a3 : Int32) (k : St → Prop) : Nat → St → Int32 → Prop := fun n_ => Nat.rec (motive := fun _ => St → Int32 → Prop) (fun _ _ => False) (fun _ ih => fun S x7 => ((nI 6) ≤ x7 → (q_X1_pass 2 S a3 (S.1 4 4) (fun S_2 => (((S_2.1 (33 + 7 * 2) 2) ≤ (S_2.1 (24 + 3 * q) 1) → (k S_2)) ∧ (¬ (S_2.1 (33 + 7 * 2) 2) ≤ (S_2.1 (24 + 3 * q) 1) → (∀ S_4 : St, S_4 = sI S_2 (24 + 3 * q) 1 (S_2.1 (33 + 7 * 2) 2) → (∀ S_5 : St, S_5 = sI S_4 (24 + 3 * q) 2 a1 → (k S_5)))))))) ∧ (¬ (nI 6) ≤ x7 → (q_X5_heightIn S a1 x7 (fun r_6 => (vp_in x7 6 ∧ (∀ S_8 : St, S_8 = sI S (33 + 7 * 2 + 1) x7.toNatClampNeg r_6 → (∀ x7_9 : Int32, x7_9 = x7 + (nI 1) → (ih S_8 x7_9)))))))) n_
theorem q_X5_tryPlan_9_s (q : Nat) (d2 : Nat) (a1 : Int32) (a3 : Int32) (k : St → Prop) (n_ : Nat) (S : St) (x7 : Int32) : q_X5_tryPlan_9 q d2 a1 a3 k (n_ + 1) S x7 = (((nI 6) ≤ x7 → (q_X1_pass 2 S a3 (S.1 4 4) (fun S_2 => (((S_2.1 (33 + 7 * 2) 2) ≤ (S_2.1 (24 + 3 * q) 1) → (k S_2)) ∧ (¬ (S_2.1 (33 + 7 * 2) 2) ≤ (S_2.1 (24 + 3 * q) 1) → (∀ S_4 : St, S_4 = sI S_2 (24 + 3 * q) 1 (S_2.1 (33 + 7 * 2) 2) → (∀ S_5 : St, S_5 = sI S_4 (24 + 3 * q) 2 a1 → (k S_5)))))))) ∧ (¬ (nI 6) ≤ x7 → (q_X5_heightIn S a1 x7 (fun r_6 => (vp_in x7 6 ∧ (∀ S_8 : St, S_8 = sI S (33 + 7 * 2 + 1) x7.toNatClampNeg r_6 → (∀ x7_9 : Int32, x7_9 = x7 + (nI 1) → ((q_X5_tryPlan_9 q d2 a1 a3 k n_) S_8 x7_9)))))))) := rfl
set_option maxRecDepth 100000 in
set_option maxHeartbeats 4000000 in
theorem b_X5_tryPlan_9 {p : Program} {l : Launch} {e : Env} {s : State} {m : MethodId} {args : Array Value} {below : List Frame} {meth : Method} {c : Code} {Z : ZT} (hi : injZ 68 Z) (C : Cxt (gX Z) p s m meth c args yX5_tryPlan cX5_tryPlan 8 none) {q : Nat} {d2 : Nat} {a1 : Int32} {a3 : Int32} {k : St → Prop} (hq : q < 2) (hd2 : d2 < 5)  : ∀ (n_ : Nat) (S : St) (x7 : Int32) (H : Heap) (locs : List Loc) (ls : Array Slot), va_P Z.1 vwCl (wl shX 68 Z S) H → va_S (aa 68 Z) s.heap H locs → lv_has ls 8 [(0, .ref (Z.2.2.1 (24 + 3 * q))), (1, .int a1), (3, .int a3), (4, .ref (Z.2.2.1 (33 + 7 * 2))), (5, .ref (Z.2.2.1 4)), (6, .ref (Z.2.2.1 19)), (7, .int x7)] → q_X5_tryPlan_9 q d2 a1 a3 k n_ S x7 → W p l e (rmk 4 103) s m args below meth c H locs 0 0 (Qv below shX 68 Z args s k) (F0 m 9 ls []) := by
  have g := gokX hi
  have hx := C.1.1
  have hb := C.1.2.1
  intro n_
  induction n_ with
  | zero => intro S x7 H locs ls hP hS hl h; exact h.elim
  | succ n_ ih =>
    intro S x7 H locs ls hP hS hl h
    rw [q_X5_tryPlan_9_s] at h
    refine lv_iload hx hb dX5_tryPlan_9 (lv_at hl 6 rfl) ?_
    refine lv_bipush (v := (nI 6)) hx hb dX5_tryPlan_11 (by decide) ?_
    refine lv_icmp_ge (tgt := 36) hx hb dX5_tryPlan_13 (by decide) (fun c_1 => ?_) (fun c_1 => ?_)
    · have h := h.1 c_1
      refine lv_aload hx hb dX5_tryPlan_36 (lv_at hl 3 rfl) ?_
      refine lv_iload_n hx hb dX5_tryPlan_38 rfl (lv_at hl 2 rfl) ?_
      refine lv_aload hx hb dX5_tryPlan_39 (lv_at hl 4 rfl) ?_
      refine lv_aload hx hb dX5_tryPlan_41 (lv_at hl 5 rfl) ?_
      refine lv_aload hx hb dX5_tryPlan_43 (lv_at hl 4 rfl) ?_
      refine s_gI g C hP 4 4 (by decide) rfl rfl cfX4 (by decide) kFL_X5_57 dX5_tryPlan_45 ?_
      refine go_v (run_V g C hP hS (c0 := (33 + 7 * 2)) (As := [.int a3, .ref (Z.2.2.1 4), .ref (Z.2.2.1 19), .int (S.1 4 4)]) (rest := []) (c_X1_pass hi 2 (by decide) S a3 (S.1 4 4) _ h) cal_X1_pass kML_X5_62 (ltX_day (d := 2) (by decide)) (shX_day (d := 2) (by decide)) cfX1 ⟨rfl, rfl, Nat.le_of_ble_eq_true rfl, Nat.le_of_ble_eq_true rfl⟩ rfl rfl hl.1 (Nat.le_of_ble_eq_true rfl) dX5_tryPlan_48) hS (fun S_2 H locs h hP hS => ?_)
      refine lv_aload hx hb dX5_tryPlan_51 (lv_at hl 3 rfl) ?_
      refine s_gI g C hP (33 + 7 * 2) 2 (ltX_day (d := 2) (by decide)) (shX_day (d := 2) (by decide)) rfl cfX1 (by decide) kFL_X5_66 dX5_tryPlan_53 ?_
      refine lv_aload_n hx hb dX5_tryPlan_56 rfl (lv_at hl 0 rfl) ?_
      refine s_gI g C hP (24 + 3 * q) 1 (ltX_se (q := q) hq) (shX_se (q := q) hq) rfl cfX5 (by decide) kFL_X5_38 dX5_tryPlan_57 ?_
      refine lv_icmp_le (tgt := 77) hx hb dX5_tryPlan_60 (by decide) (fun c_3 => ?_) (fun c_3 => ?_)
      · have h := h.1 c_3
        exact s_rv C hP hS h dX5_tryPlan_77
      · have h := h.2 c_3
        refine lv_aload_n hx hb dX5_tryPlan_63 rfl (lv_at hl 0 rfl) ?_
        refine lv_aload hx hb dX5_tryPlan_64 (lv_at hl 3 rfl) ?_
        refine s_gI g C hP (33 + 7 * 2) 2 (ltX_day (d := 2) (by decide)) (shX_day (d := 2) (by decide)) rfl cfX1 (by decide) kFL_X5_66 dX5_tryPlan_66 ?_
        refine s_pI g C hP hS (24 + 3 * q) 1 (ltX_se (q := q) hq) (shX_se (q := q) hq) rfl cfX5 (by decide) rfl rfl rfl kFL_X5_38 dX5_tryPlan_69 (fun H locs hP hS => ?_)
        obtain ⟨S_4, eS_4⟩ : ∃ z_ : St, z_ = sI S_2 (24 + 3 * q) 1 (S_2.1 (33 + 7 * 2) 2) := ⟨_, rfl⟩
        rw [← eS_4] at hP
        have h := h S_4 eS_4
        refine lv_aload_n hx hb dX5_tryPlan_72 rfl (lv_at hl 0 rfl) ?_
        refine lv_iload_n hx hb dX5_tryPlan_73 rfl (lv_at hl 1 rfl) ?_
        refine s_pI g C hP hS (24 + 3 * q) 2 (ltX_se (q := q) hq) (shX_se (q := q) hq) rfl cfX5 (by decide) rfl rfl rfl kFL_X5_22 dX5_tryPlan_74 (fun H locs hP hS => ?_)
        obtain ⟨S_5, eS_5⟩ : ∃ z_ : St, z_ = sI S_4 (24 + 3 * q) 2 a1 := ⟨_, rfl⟩
        rw [← eS_5] at hP
        have h := h S_5 eS_5
        exact s_rv C hP hS h dX5_tryPlan_77
    · have h := h.2 c_1
      refine lv_aload hx hb dX5_tryPlan_16 (lv_at hl 3 rfl) ?_
      refine s_gR g C hP (33 + 7 * 2) 5 (33 + 7 * 2 + 1) (ltX_day (d := 2) (by decide)) (shX_day (d := 2) (by decide)) rfl cfX1 (by decide) kFL_X5_54 dX5_tryPlan_18 ?_
      refine lv_iload hx hb dX5_tryPlan_21 (lv_at hl 6 rfl) ?_
      refine lv_iload_n hx hb dX5_tryPlan_23 rfl (lv_at hl 1 rfl) ?_
      refine lv_iload hx hb dX5_tryPlan_24 (lv_at hl 6 rfl) ?_
      refine go_ip (run_S g C hP hS (As := [.int a1, .int x7]) (rest := [.int x7, .ref (Z.2.2.1 (33 + 7 * 2 + 1))]) (c_X5_heightIn hi S a1 x7 _ h) cal_X5_heightIn kML_X5_26 ⟨rfl, rfl, Nat.le_of_ble_eq_true rfl, Nat.le_of_ble_eq_true rfl⟩ rfl rfl hl.1 (Nat.le_of_ble_eq_true rfl) dX5_tryPlan_26) hS (fun r_6 H locs h hP hS => ?_)
      have hv_7 := h.1
      have h := h.2
      refine s_stI g C hP hS (33 + 7 * 2 + 1) (ltX_day1 (d := 2) (by decide)) (shX_day1 (d := 2) (by decide)) hv_7 dX5_tryPlan_29 (fun H locs hP hS => ?_)
      obtain ⟨S_8, eS_8⟩ : ∃ z_ : St, z_ = sI S (33 + 7 * 2 + 1) x7.toNatClampNeg r_6 := ⟨_, rfl⟩
      rw [← eS_8] at hP
      have h := h S_8 eS_8
      obtain ⟨x7_9, ex7_9⟩ : ∃ y_ : Int32, y_ = x7 + (nI 1) := ⟨_, rfl⟩
      have h := h x7_9 ex7_9
      refine lv_iinc (v := x7_9) (lv' := [(7, .int x7_9), (0, .ref (Z.2.2.1 (24 + 3 * q))), (1, .int a1), (3, .int a3), (4, .ref (Z.2.2.1 (33 + 7 * 2))), (5, .ref (Z.2.2.1 4)), (6, .ref (Z.2.2.1 19))]) hx hb dX5_tryPlan_30 hl (k := 6) rfl (by rw [ex7_9]; rfl) (by decide) rfl (fun ls hl => ?_)
      refine lv_goto (tgt := 9) hx hb dX5_tryPlan_33 (by decide) ?_
      exact ih _ _ _ _ _ hP hS (lv_sub hl [1, 2, 3, 4, 5, 6, 0] rfl) h
def q_X5_tryPlan (q : Nat) (d2 : Nat) (S : St) (a1 : Int32) (a3 : Int32) (k : St → Prop) : Prop := q_X1_resume 2 d2 S (fun S_1 => (∃ f_9, q_X5_tryPlan_9 q d2 a1 a3 k f_9 S_1 (nI 0)))
set_option maxRecDepth 100000 in
set_option maxHeartbeats 4000000 in
theorem c_X5_tryPlan {l : Launch} {Z : ZT} (hi : injZ 68 Z) (q : Nat) (d2 : Nat) (hq : q < 2) (hd2 : d2 < 5) (S : St) (a1 : Int32) (a3 : Int32) (k : St → Prop) (h : q_X5_tryPlan q d2 S a1 a3 k) : Mv l shX 68 Z (gX Z) yX5_tryPlan cX5_tryPlan 8 none (rmk 4 103) [.ref (Z.2.2.1 (24 + 3 * q)), .int a1, .ref (Z.2.2.1 (33 + 7 * d2)), .int a3, .ref (Z.2.2.1 (33 + 7 * 2)), .ref (Z.2.2.1 4), .ref (Z.2.2.1 19)] S k := by
  have g := gokX hi
  refine e_v (by decide) (Nat.le_of_ble_eq_true rfl) (lv := [(0, .ref (Z.2.2.1 (24 + 3 * q))), (1, .int a1), (2, .ref (Z.2.2.1 (33 + 7 * d2))), (3, .int a3), (4, .ref (Z.2.2.1 (33 + 7 * 2))), (5, .ref (Z.2.2.1 4)), (6, .ref (Z.2.2.1 19))]) rfl (fun p e s m args below meth c C hP hS ls hl => ?_)
  have hx := C.1.1
  have hb := C.1.2.1
  unfold q_X5_tryPlan at h
  refine lv_aload hx hb dX5_tryPlan_0 (lv_at hl 4 rfl) ?_
  refine lv_aload_n hx hb dX5_tryPlan_2 rfl (lv_at hl 2 rfl) ?_
  refine go_v (run_V g C hP hS (c0 := (33 + 7 * 2)) (As := [.ref (Z.2.2.1 (33 + 7 * d2))]) (rest := []) (c_X1_resume hi 2 d2 (by decide) hd2 S _ h) cal_X1_resume kML_X5_48 (ltX_day (d := 2) (by decide)) (shX_day (d := 2) (by decide)) cfX1 ⟨rfl, rfl, Nat.le_of_ble_eq_true rfl, Nat.le_of_ble_eq_true rfl⟩ rfl rfl hl.1 (Nat.le_of_ble_eq_true rfl) dX5_tryPlan_3) hS (fun S_1 H locs h hP hS => ?_)
  refine lv_iconst (v := (nI 0)) hx hb dX5_tryPlan_6 (by decide) ?_
  refine lv_istore (lv' := [(7, .int (nI 0)), (0, .ref (Z.2.2.1 (24 + 3 * q))), (1, .int a1), (2, .ref (Z.2.2.1 (33 + 7 * d2))), (3, .int a3), (4, .ref (Z.2.2.1 (33 + 7 * 2))), (5, .ref (Z.2.2.1 4)), (6, .ref (Z.2.2.1 19))]) hx hb dX5_tryPlan_7 hl (by decide) rfl (fun ls hl => ?_)
  obtain ⟨f_9, h⟩ := h
  exact b_X5_tryPlan_9 hi C hq hd2 f_9 _ _ _ _ _ hP hS (lv_sub hl [1, 2, 4, 5, 6, 7, 0] rfl) h
def q_X5_find_97 (q : Nat) (d1 : Nat) (a2 : Int32) (k : St → Prop) (e_29 : St → Int32 → Int32 → Prop) (S : St) (x6 : Int32) (x7 : Int32) : Prop := ∀ x7_1 : Int32, x7_1 = x7 + (nI 1) → (e_29 S x6 x7_1)
set_option maxRecDepth 100000 in
set_option maxHeartbeats 4000000 in
theorem b_X5_find_97 {p : Program} {l : Launch} {e : Env} {s : State} {m : MethodId} {args : Array Value} {below : List Frame} {meth : Method} {c : Code} {Z : ZT} (hi : injZ 68 Z) (C : Cxt (gX Z) p s m meth c args yX5_find cX5_find 9 none) {q : Nat} {d1 : Nat} {a2 : Int32} {k : St → Prop} {e_29 : St → Int32 → Int32 → Prop} (hq : q < 2) (hd1 : d1 < 5) (he_29 : ∀ (S : St) (x6 : Int32) (x7 : Int32) (H : Heap) (locs : List Loc) (ls : Array Slot), va_P Z.1 vwCl (wl shX 68 Z S) H → va_S (aa 68 Z) s.heap H locs → lv_has ls 9 [(0, .ref (Z.2.2.1 (24 + 3 * q))), (1, .ref (Z.2.2.1 (33 + 7 * d1))), (2, .int a2), (3, .ref (Z.2.2.1 (33 + 7 * 2))), (4, .ref (Z.2.2.1 4)), (5, .ref (Z.2.2.1 19)), (6, .int x6), (7, .int x7)] → e_29 S x6 x7 → W p l e (rmk 5 130) s m args below meth c H locs 0 0 (Qv below shX 68 Z args s k) (F0 m 29 ls [])) (S : St) (x6 : Int32) (x7 : Int32) (H : Heap) (locs : List Loc) (ls : Array Slot) (hP : va_P Z.1 vwCl (wl shX 68 Z S) H) (hS : va_S (aa 68 Z) s.heap H locs) (hl : lv_has ls 9 [(0, .ref (Z.2.2.1 (24 + 3 * q))), (1, .ref (Z.2.2.1 (33 + 7 * d1))), (2, .int a2), (3, .ref (Z.2.2.1 (33 + 7 * 2))), (4, .ref (Z.2.2.1 4)), (5, .ref (Z.2.2.1 19)), (6, .int x6), (7, .int x7)]) (h : q_X5_find_97 q d1 a2 k e_29 S x6 x7) : W p l e (rmk 5 130) s m args below meth c H locs 0 0 (Qv below shX 68 Z args s k) (F0 m 97 ls []) := by
  have g := gokX hi
  have hx := C.1.1
  have hb := C.1.2.1
  unfold q_X5_find_97 at h
  obtain ⟨x7_1, ex7_1⟩ : ∃ y_ : Int32, y_ = x7 + (nI 1) := ⟨_, rfl⟩
  have h := h x7_1 ex7_1
  refine lv_iinc (v := x7_1) (lv' := [(7, .int x7_1), (0, .ref (Z.2.2.1 (24 + 3 * q))), (1, .ref (Z.2.2.1 (33 + 7 * d1))), (2, .int a2), (3, .ref (Z.2.2.1 (33 + 7 * 2))), (4, .ref (Z.2.2.1 4)), (5, .ref (Z.2.2.1 19)), (6, .int x6)]) hx hb dX5_find_97 hl (k := 7) rfl (by rw [ex7_1]; rfl) (by decide) rfl (fun ls hl => ?_)
  refine lv_goto (tgt := 29) hx hb dX5_find_100 (by decide) ?_
  exact he_29 _ _ _ _ _ _ hP hS (lv_sub hl [1, 2, 3, 4, 5, 6, 7, 0] rfl) h
def q_X5_find_29 (q : Nat) (d1 : Nat) (a2 : Int32) (k : St → Prop) : Nat → St → Int32 → Int32 → Prop := fun n_ => Nat.rec (motive := fun _ => St → Int32 → Int32 → Prop) (fun _ _ _ => False) (fun _ ih => fun S x6 x7 => ((nI 4096) ≤ x7 → (∀ S_2 : St, S_2 = sI S (24 + 3 * q) 0 (nI 1) → (k S_2))) ∧ (¬ (nI 4096) ≤ x7 → (((nI 4096) ≤ x6 → (∀ S_4 : St, S_4 = sI S (24 + 3 * q) 0 (nI 1) → (k S_4))) ∧ (¬ (nI 4096) ≤ x6 → (q_X5_firstHopeless q S x6 (fun r_5 => (((nI 6) ≤ r_5 → (q_X5_tryPlan q d1 S x6 a2 (fun S_7 => (∀ x6_8 : Int32, x6_8 = x6 + (nI 1) → (q_X5_find_97 q d1 a2 k ih S_7 x6_8 x7))))) ∧ (¬ (nI 6) ≤ r_5 → (q_X5_shiftOf S r_5 (fun r_9 => (q_X5_shiftOf S r_5 (fun r_10 => (∀ x6_11 : Int32, x6_11 = (((x6 >>> (r_9 &&& 31)) + (nI 1)) <<< (r_10 &&& 31)) → (q_X5_find_97 q d1 a2 k ih S x6_11 x7)))))))))))))) n_
theorem q_X5_find_29_s (q : Nat) (d1 : Nat) (a2 : Int32) (k : St → Prop) (n_ : Nat) (S : St) (x6 : Int32) (x7 : Int32) : q_X5_find_29 q d1 a2 k (n_ + 1) S x6 x7 = (((nI 4096) ≤ x7 → (∀ S_2 : St, S_2 = sI S (24 + 3 * q) 0 (nI 1) → (k S_2))) ∧ (¬ (nI 4096) ≤ x7 → (((nI 4096) ≤ x6 → (∀ S_4 : St, S_4 = sI S (24 + 3 * q) 0 (nI 1) → (k S_4))) ∧ (¬ (nI 4096) ≤ x6 → (q_X5_firstHopeless q S x6 (fun r_5 => (((nI 6) ≤ r_5 → (q_X5_tryPlan q d1 S x6 a2 (fun S_7 => (∀ x6_8 : Int32, x6_8 = x6 + (nI 1) → (q_X5_find_97 q d1 a2 k (q_X5_find_29 q d1 a2 k n_) S_7 x6_8 x7))))) ∧ (¬ (nI 6) ≤ r_5 → (q_X5_shiftOf S r_5 (fun r_9 => (q_X5_shiftOf S r_5 (fun r_10 => (∀ x6_11 : Int32, x6_11 = (((x6 >>> (r_9 &&& 31)) + (nI 1)) <<< (r_10 &&& 31)) → (q_X5_find_97 q d1 a2 k (q_X5_find_29 q d1 a2 k n_) S x6_11 x7)))))))))))))) := rfl
set_option maxRecDepth 100000 in
set_option maxHeartbeats 4000000 in
theorem b_X5_find_29 {p : Program} {l : Launch} {e : Env} {s : State} {m : MethodId} {args : Array Value} {below : List Frame} {meth : Method} {c : Code} {Z : ZT} (hi : injZ 68 Z) (C : Cxt (gX Z) p s m meth c args yX5_find cX5_find 9 none) {q : Nat} {d1 : Nat} {a2 : Int32} {k : St → Prop} (hq : q < 2) (hd1 : d1 < 5)  : ∀ (n_ : Nat) (S : St) (x6 : Int32) (x7 : Int32) (H : Heap) (locs : List Loc) (ls : Array Slot), va_P Z.1 vwCl (wl shX 68 Z S) H → va_S (aa 68 Z) s.heap H locs → lv_has ls 9 [(0, .ref (Z.2.2.1 (24 + 3 * q))), (1, .ref (Z.2.2.1 (33 + 7 * d1))), (2, .int a2), (3, .ref (Z.2.2.1 (33 + 7 * 2))), (4, .ref (Z.2.2.1 4)), (5, .ref (Z.2.2.1 19)), (6, .int x6), (7, .int x7)] → q_X5_find_29 q d1 a2 k n_ S x6 x7 → W p l e (rmk 5 130) s m args below meth c H locs 0 0 (Qv below shX 68 Z args s k) (F0 m 29 ls []) := by
  have g := gokX hi
  have hx := C.1.1
  have hb := C.1.2.1
  intro n_
  induction n_ with
  | zero => intro S x6 x7 H locs ls hP hS hl h; exact h.elim
  | succ n_ ih =>
    intro S x6 x7 H locs ls hP hS hl h
    rw [q_X5_find_29_s] at h
    refine lv_iload hx hb dX5_find_29 (lv_at hl 7 rfl) ?_
    refine lv_sipush (v := (nI 4096)) hx hb dX5_find_31 (by decide) ?_
    refine lv_icmp_ge (tgt := 103) hx hb dX5_find_34 (by decide) (fun c_1 => ?_) (fun c_1 => ?_)
    · have h := h.1 c_1
      refine lv_aload_n hx hb dX5_find_103 rfl (lv_at hl 0 rfl) ?_
      refine lv_iconst (v := (nI 1)) hx hb dX5_find_104 (by decide) ?_
      refine s_pI g C hP hS (24 + 3 * q) 0 (ltX_se (q := q) hq) (shX_se (q := q) hq) rfl cfX5 (by decide) rfl rfl rfl kFL_X5_18 dX5_find_105 (fun H locs hP hS => ?_)
      obtain ⟨S_2, eS_2⟩ : ∃ z_ : St, z_ = sI S (24 + 3 * q) 0 (nI 1) := ⟨_, rfl⟩
      rw [← eS_2] at hP
      have h := h S_2 eS_2
      exact s_rv C hP hS h dX5_find_108
    · have h := h.2 c_1
      refine lv_iload hx hb dX5_find_37 (lv_at hl 6 rfl) ?_
      refine lv_sipush (v := (nI 4096)) hx hb dX5_find_39 (by decide) ?_
      refine lv_icmp_ge (tgt := 103) hx hb dX5_find_42 (by decide) (fun c_3 => ?_) (fun c_3 => ?_)
      · have h := h.1 c_3
        refine lv_aload_n hx hb dX5_find_103 rfl (lv_at hl 0 rfl) ?_
        refine lv_iconst (v := (nI 1)) hx hb dX5_find_104 (by decide) ?_
        refine s_pI g C hP hS (24 + 3 * q) 0 (ltX_se (q := q) hq) (shX_se (q := q) hq) rfl cfX5 (by decide) rfl rfl rfl kFL_X5_18 dX5_find_105 (fun H locs hP hS => ?_)
        obtain ⟨S_4, eS_4⟩ : ∃ z_ : St, z_ = sI S (24 + 3 * q) 0 (nI 1) := ⟨_, rfl⟩
        rw [← eS_4] at hP
        have h := h S_4 eS_4
        exact s_rv C hP hS h dX5_find_108
      · have h := h.2 c_3
        refine lv_aload_n hx hb dX5_find_45 rfl (lv_at hl 0 rfl) ?_
        refine lv_iload hx hb dX5_find_46 (lv_at hl 6 rfl) ?_
        refine go_ip (run_V g C hP hS (c0 := (24 + 3 * q)) (As := [.int x6]) (rest := []) (c_X5_firstHopeless hi q hq S x6 _ h) cal_X5_firstHopeless kML_X5_41 (ltX_se (q := q) hq) (shX_se (q := q) hq) cfX5 ⟨rfl, rfl, Nat.le_of_ble_eq_true rfl, Nat.le_of_ble_eq_true rfl⟩ rfl rfl hl.1 (Nat.le_of_ble_eq_true rfl) dX5_find_48) hS (fun r_5 H locs h hP hS => ?_)
        refine lv_istore (lv' := [(8, .int r_5), (0, .ref (Z.2.2.1 (24 + 3 * q))), (1, .ref (Z.2.2.1 (33 + 7 * d1))), (2, .int a2), (3, .ref (Z.2.2.1 (33 + 7 * 2))), (4, .ref (Z.2.2.1 4)), (5, .ref (Z.2.2.1 19)), (6, .int x6), (7, .int x7)]) hx hb dX5_find_51 hl (by decide) rfl (fun ls hl => ?_)
        refine lv_iload hx hb dX5_find_53 (lv_at hl 0 rfl) ?_
        refine lv_bipush (v := (nI 6)) hx hb dX5_find_55 (by decide) ?_
        refine lv_icmp_ge (tgt := 81) hx hb dX5_find_57 (by decide) (fun c_6 => ?_) (fun c_6 => ?_)
        · have h := h.1 c_6
          refine lv_aload_n hx hb dX5_find_81 rfl (lv_at hl 1 rfl) ?_
          refine lv_iload hx hb dX5_find_82 (lv_at hl 7 rfl) ?_
          refine lv_aload_n hx hb dX5_find_84 rfl (lv_at hl 2 rfl) ?_
          refine lv_iload_n hx hb dX5_find_85 rfl (lv_at hl 3 rfl) ?_
          refine lv_aload_n hx hb dX5_find_86 rfl (lv_at hl 4 rfl) ?_
          refine lv_aload hx hb dX5_find_87 (lv_at hl 5 rfl) ?_
          refine lv_aload hx hb dX5_find_89 (lv_at hl 6 rfl) ?_
          refine go_v (run_V g C hP hS (c0 := (24 + 3 * q)) (As := [.int x6, .ref (Z.2.2.1 (33 + 7 * d1)), .int a2, .ref (Z.2.2.1 (33 + 7 * 2)), .ref (Z.2.2.1 4), .ref (Z.2.2.1 19)]) (rest := []) (c_X5_tryPlan hi q d1 hq hd1 S x6 a2 _ h) cal_X5_tryPlan kML_X5_44 (ltX_se (q := q) hq) (shX_se (q := q) hq) cfX5 ⟨rfl, rfl, Nat.le_of_ble_eq_true rfl, Nat.le_of_ble_eq_true rfl⟩ rfl rfl hl.1 (Nat.le_of_ble_eq_true rfl) dX5_find_91) hS (fun S_7 H locs h hP hS => ?_)
          obtain ⟨x6_8, ex6_8⟩ : ∃ y_ : Int32, y_ = x6 + (nI 1) := ⟨_, rfl⟩
          have h := h x6_8 ex6_8
          refine lv_iinc (v := x6_8) (lv' := [(6, .int x6_8), (8, .int r_5), (0, .ref (Z.2.2.1 (24 + 3 * q))), (1, .ref (Z.2.2.1 (33 + 7 * d1))), (2, .int a2), (3, .ref (Z.2.2.1 (33 + 7 * 2))), (4, .ref (Z.2.2.1 4)), (5, .ref (Z.2.2.1 19)), (7, .int x7)]) hx hb dX5_find_94 hl (k := 7) rfl (by rw [ex6_8]; rfl) (by decide) rfl (fun ls hl => ?_)
          exact b_X5_find_97 hi C hq hd1 ih _ _ _ _ _ _ hP hS (lv_sub hl [2, 3, 4, 5, 6, 7, 0, 8] rfl) h
        · have h := h.2 c_6
          refine lv_iload hx hb dX5_find_60 (lv_at hl 7 rfl) ?_
          refine lv_iload hx hb dX5_find_62 (lv_at hl 0 rfl) ?_
          refine go_ip (run_S g C hP hS (As := [.int r_5]) (rest := [.int x6]) (c_X5_shiftOf hi S r_5 _ h) cal_X5_shiftOf kML_X5_30 ⟨rfl, rfl, Nat.le_of_ble_eq_true rfl, Nat.le_of_ble_eq_true rfl⟩ rfl rfl hl.1 (Nat.le_of_ble_eq_true rfl) dX5_find_64) hS (fun r_9 H locs h hP hS => ?_)
          refine lv_ishr hx hb dX5_find_67 ?_
          refine lv_iconst (v := (nI 1)) hx hb dX5_find_68 (by decide) ?_
          refine lv_iadd hx hb dX5_find_69 ?_
          refine lv_iload hx hb dX5_find_70 (lv_at hl 0 rfl) ?_
          refine go_ip (run_S g C hP hS (As := [.int r_5]) (rest := [.int ((x6 >>> (r_9 &&& 31)) + (nI 1))]) (c_X5_shiftOf hi S r_5 _ h) cal_X5_shiftOf kML_X5_30 ⟨rfl, rfl, Nat.le_of_ble_eq_true rfl, Nat.le_of_ble_eq_true rfl⟩ rfl rfl hl.1 (Nat.le_of_ble_eq_true rfl) dX5_find_72) hS (fun r_10 H locs h hP hS => ?_)
          refine lv_ishl hx hb dX5_find_75 ?_
          refine lv_topi (fun x6_11 ex6_11 => ?_)
          have h := h x6_11 ex6_11
          refine lv_istore (lv' := [(6, .int x6_11), (8, .int r_5), (0, .ref (Z.2.2.1 (24 + 3 * q))), (1, .ref (Z.2.2.1 (33 + 7 * d1))), (2, .int a2), (3, .ref (Z.2.2.1 (33 + 7 * 2))), (4, .ref (Z.2.2.1 4)), (5, .ref (Z.2.2.1 19)), (7, .int x7)]) hx hb dX5_find_76 hl (by decide) rfl (fun ls hl => ?_)
          refine lv_goto (tgt := 97) hx hb dX5_find_78 (by decide) ?_
          exact b_X5_find_97 hi C hq hd1 ih _ _ _ _ _ _ hP hS (lv_sub hl [2, 3, 4, 5, 6, 7, 0, 8] rfl) h
def q_X5_find (q : Nat) (d1 : Nat) (S : St) (a2 : Int32) (k : St → Prop) : Prop := ((S.1 (24 + 3 * q) 0) = (nI 0) → (q_X5_setBounds q d1 S a2 (fun S_2 => (∀ S_3 : St, S_3 = sI S_2 (24 + 3 * q) 1 (-1 : Int32) → (∃ f_29, q_X5_find_29 q d1 a2 k f_29 S_3 (nI 0) (nI 0)))))) ∧ (¬ (S.1 (24 + 3 * q) 0) = (nI 0) → (k S))
set_option maxRecDepth 100000 in
set_option maxHeartbeats 4000000 in
theorem c_X5_find {l : Launch} {Z : ZT} (hi : injZ 68 Z) (q : Nat) (d1 : Nat) (hq : q < 2) (hd1 : d1 < 5) (S : St) (a2 : Int32) (k : St → Prop) (h : q_X5_find q d1 S a2 k) : Mv l shX 68 Z (gX Z) yX5_find cX5_find 9 none (rmk 5 130) [.ref (Z.2.2.1 (24 + 3 * q)), .ref (Z.2.2.1 (33 + 7 * d1)), .int a2, .ref (Z.2.2.1 (33 + 7 * 2)), .ref (Z.2.2.1 4), .ref (Z.2.2.1 19)] S k := by
  have g := gokX hi
  refine e_v (by decide) (Nat.le_of_ble_eq_true rfl) (lv := [(0, .ref (Z.2.2.1 (24 + 3 * q))), (1, .ref (Z.2.2.1 (33 + 7 * d1))), (2, .int a2), (3, .ref (Z.2.2.1 (33 + 7 * 2))), (4, .ref (Z.2.2.1 4)), (5, .ref (Z.2.2.1 19))]) rfl (fun p e s m args below meth c C hP hS ls hl => ?_)
  have hx := C.1.1
  have hb := C.1.2.1
  unfold q_X5_find at h
  refine lv_aload_n hx hb dX5_find_0 rfl (lv_at hl 0 rfl) ?_
  refine s_gI g C hP (24 + 3 * q) 0 (ltX_se (q := q) hq) (shX_se (q := q) hq) rfl cfX5 (by decide) kFL_X5_18 dX5_find_1 ?_
  refine lv_if_eq (tgt := 8) hx hb dX5_find_4 (by decide) (fun c_1 => ?_) (fun c_1 => ?_)
  · have h := h.1 c_1
    refine lv_aload_n hx hb dX5_find_8 rfl (lv_at hl 0 rfl) ?_
    refine lv_aload_n hx hb dX5_find_9 rfl (lv_at hl 1 rfl) ?_
    refine lv_iload_n hx hb dX5_find_10 rfl (lv_at hl 2 rfl) ?_
    refine lv_aload hx hb dX5_find_11 (lv_at hl 4 rfl) ?_
    refine lv_aload hx hb dX5_find_13 (lv_at hl 5 rfl) ?_
    refine go_v (run_V g C hP hS (c0 := (24 + 3 * q)) (As := [.ref (Z.2.2.1 (33 + 7 * d1)), .int a2, .ref (Z.2.2.1 4), .ref (Z.2.2.1 19)]) (rest := []) (c_X5_setBounds hi q d1 hq hd1 S a2 _ h) cal_X5_setBounds kML_X5_34 (ltX_se (q := q) hq) (shX_se (q := q) hq) cfX5 ⟨rfl, rfl, Nat.le_of_ble_eq_true rfl, Nat.le_of_ble_eq_true rfl⟩ rfl rfl hl.1 (Nat.le_of_ble_eq_true rfl) dX5_find_15) hS (fun S_2 H locs h hP hS => ?_)
    refine lv_aload_n hx hb dX5_find_18 rfl (lv_at hl 0 rfl) ?_
    refine lv_iconst (v := (-1 : Int32)) hx hb dX5_find_19 (by decide) ?_
    refine s_pI g C hP hS (24 + 3 * q) 1 (ltX_se (q := q) hq) (shX_se (q := q) hq) rfl cfX5 (by decide) rfl rfl rfl kFL_X5_38 dX5_find_20 (fun H locs hP hS => ?_)
    obtain ⟨S_3, eS_3⟩ : ∃ z_ : St, z_ = sI S_2 (24 + 3 * q) 1 (-1 : Int32) := ⟨_, rfl⟩
    rw [← eS_3] at hP
    have h := h S_3 eS_3
    refine lv_iconst (v := (nI 0)) hx hb dX5_find_23 (by decide) ?_
    refine lv_istore (lv' := [(6, .int (nI 0)), (0, .ref (Z.2.2.1 (24 + 3 * q))), (1, .ref (Z.2.2.1 (33 + 7 * d1))), (2, .int a2), (3, .ref (Z.2.2.1 (33 + 7 * 2))), (4, .ref (Z.2.2.1 4)), (5, .ref (Z.2.2.1 19))]) hx hb dX5_find_24 hl (by decide) rfl (fun ls hl => ?_)
    refine lv_iconst (v := (nI 0)) hx hb dX5_find_26 (by decide) ?_
    refine lv_istore (lv' := [(7, .int (nI 0)), (6, .int (nI 0)), (0, .ref (Z.2.2.1 (24 + 3 * q))), (1, .ref (Z.2.2.1 (33 + 7 * d1))), (2, .int a2), (3, .ref (Z.2.2.1 (33 + 7 * 2))), (4, .ref (Z.2.2.1 4)), (5, .ref (Z.2.2.1 19))]) hx hb dX5_find_27 hl (by decide) rfl (fun ls hl => ?_)
    obtain ⟨f_29, h⟩ := h
    exact b_X5_find_29 hi C hq hd1 f_29 _ _ _ _ _ _ hP hS (lv_sub hl [2, 3, 4, 5, 6, 7, 1, 0] rfl) h
  · have h := h.2 c_1
    exact s_rv C hP hS h dX5_find_7
def q_J7_fill_d0a16_6 (w : Nat) (nw : Nat) (a2 : Int64) (k : St → Prop) : Nat → St → Int32 → Int32 → Prop := fun n_ => Nat.rec (motive := fun _ => St → Int32 → Int32 → Prop) (fun _ _ _ => False) (fun _ ih => fun S x3 x4 => (x4 ≤ x3 → (k S)) ∧ (¬ x4 ≤ x3 → (vp_in x3 nw ∧ (∀ S_3 : St, S_3 = sJ S w x3.toNatClampNeg a2 → (∀ x3_4 : Int32, x3_4 = x3 + (nI 1) → (ih S_3 x3_4 x4)))))) n_
theorem q_J7_fill_d0a16_6_s (w : Nat) (nw : Nat) (a2 : Int64) (k : St → Prop) (n_ : Nat) (S : St) (x3 : Int32) (x4 : Int32) : q_J7_fill_d0a16_6 w nw a2 k (n_ + 1) S x3 x4 = ((x4 ≤ x3 → (k S)) ∧ (¬ x4 ≤ x3 → (vp_in x3 nw ∧ (∀ S_3 : St, S_3 = sJ S w x3.toNatClampNeg a2 → (∀ x3_4 : Int32, x3_4 = x3 + (nI 1) → ((q_J7_fill_d0a16_6 w nw a2 k n_) S_3 x3_4 x4)))))) := rfl
set_option maxRecDepth 100000 in
set_option maxHeartbeats 4000000 in
theorem b_J7_fill_d0a16_6 {p : Program} {l : Launch} {e : Env} {s : State} {m : MethodId} {args : Array Value} {below : List Frame} {meth : Method} {c : Code} {Z : ZT} (hi : injZ 68 Z) (C : Cxt (gX Z) p s m meth c args yJ7_fill_d0a16 cJ7_fill_d0a16 5 none) {w : Nat} {nw : Nat} {a2 : Int64} {k : St → Prop} (hw : w < 68 ∧ shX w = .inr (1, nw, 0))  : ∀ (n_ : Nat) (S : St) (x3 : Int32) (x4 : Int32) (H : Heap) (locs : List Loc) (ls : Array Slot), va_P Z.1 vwCl (wl shX 68 Z S) H → va_S (aa 68 Z) s.heap H locs → lv_has ls 5 [(0, .ref (Z.2.2.1 w)), (1, .long a2), (3, .int x3), (4, .int x4)] → q_J7_fill_d0a16_6 w nw a2 k n_ S x3 x4 → W p l e (rmk 0 0) s m args below meth c H locs 0 0 (Qv below shX 68 Z args s k) (F0 m 6 ls []) := by
  have g := gokX hi
  have hx := C.1.1
  have hb := C.1.2.1
  intro n_
  induction n_ with
  | zero => intro S x3 x4 H locs ls hP hS hl h; exact h.elim
  | succ n_ ih =>
    intro S x3 x4 H locs ls hP hS hl h
    rw [q_J7_fill_d0a16_6_s] at h
    refine lv_iload_n hx hb dJ7_fill_d0a16_6 rfl (lv_at hl 2 rfl) ?_
    refine lv_iload hx hb dJ7_fill_d0a16_7 (lv_at hl 3 rfl) ?_
    refine lv_icmp_ge (tgt := 22) hx hb dJ7_fill_d0a16_9 (by decide) (fun c_1 => ?_) (fun c_1 => ?_)
    · have h := h.1 c_1
      exact s_rv C hP hS h dJ7_fill_d0a16_22
    · have h := h.2 c_1
      refine lv_aload_n hx hb dJ7_fill_d0a16_12 rfl (lv_at hl 0 rfl) ?_
      refine lv_iload_n hx hb dJ7_fill_d0a16_13 rfl (lv_at hl 2 rfl) ?_
      refine lv_lload_n hx hb dJ7_fill_d0a16_14 rfl (lv_at hl 1 rfl) ?_
      have hv_2 := h.1
      have h := h.2
      refine s_stJ g C hP hS w hw.1 hw.2 hv_2 dJ7_fill_d0a16_15 (fun H locs hP hS => ?_)
      obtain ⟨S_3, eS_3⟩ : ∃ z_ : St, z_ = sJ S w x3.toNatClampNeg a2 := ⟨_, rfl⟩
      rw [← eS_3] at hP
      have h := h S_3 eS_3
      obtain ⟨x3_4, ex3_4⟩ : ∃ y_ : Int32, y_ = x3 + (nI 1) := ⟨_, rfl⟩
      have h := h x3_4 ex3_4
      refine lv_iinc (v := x3_4) (lv' := [(3, .int x3_4), (0, .ref (Z.2.2.1 w)), (1, .long a2), (4, .int x4)]) hx hb dJ7_fill_d0a16_16 hl (k := 2) rfl (by rw [ex3_4]; rfl) (by decide) rfl (fun ls hl => ?_)
      refine lv_goto (tgt := 6) hx hb dJ7_fill_d0a16_19 (by decide) ?_
      exact ih _ _ _ _ _ _ hP hS (lv_sub hl [1, 2, 0, 3] rfl) h
def q_J7_fill_d0a16 (w : Nat) (nw : Nat) (S : St) (a2 : Int64) (k : St → Prop) : Prop := ∀ x4_1 : Int32, x4_1 = (nI nw) → (∃ f_6, q_J7_fill_d0a16_6 w nw a2 k f_6 S (nI 0) x4_1)
set_option maxRecDepth 100000 in
set_option maxHeartbeats 4000000 in
theorem c_J7_fill_d0a16 {l : Launch} {Z : ZT} (hi : injZ 68 Z) (w : Nat) (nw : Nat) (hw : w < 68 ∧ shX w = .inr (1, nw, 0)) (S : St) (a2 : Int64) (k : St → Prop) (h : q_J7_fill_d0a16 w nw S a2 k) : Mv l shX 68 Z (gX Z) yJ7_fill_d0a16 cJ7_fill_d0a16 5 none (rmk 0 0) [.ref (Z.2.2.1 w), .long a2] S k := by
  have g := gokX hi
  refine e_v (by decide) (Nat.le_of_ble_eq_true rfl) (lv := [(0, .ref (Z.2.2.1 w)), (1, .long a2)]) rfl (fun p e s m args below meth c C hP hS ls hl => ?_)
  have hx := C.1.1
  have hb := C.1.2.1
  unfold q_J7_fill_d0a16 at h
  refine lv_iconst (v := (nI 0)) hx hb dJ7_fill_d0a16_0 (by decide) ?_
  refine lv_istore_n (lv' := [(3, .int (nI 0)), (0, .ref (Z.2.2.1 w)), (1, .long a2)]) hx hb dJ7_fill_d0a16_1 rfl hl (by decide) rfl (fun ls hl => ?_)
  refine lv_aload_n hx hb dJ7_fill_d0a16_2 rfl (lv_at hl 1 rfl) ?_
  refine s_lenJ g C hP w hw.1 hw.2 (v := nI nw) rfl dJ7_fill_d0a16_3 ?_
  refine lv_topi (fun x4_1 ex4_1 => ?_)
  have h := h x4_1 ex4_1
  refine lv_istore (lv' := [(4, .int x4_1), (3, .int (nI 0)), (0, .ref (Z.2.2.1 w)), (1, .long a2)]) hx hb dJ7_fill_d0a16_4 hl (by decide) rfl (fun ls hl => ?_)
  obtain ⟨f_6, h⟩ := h
  exact b_J7_fill_d0a16_6 hi C hw f_6 _ _ _ _ _ _ hP hS (lv_sub hl [2, 3, 1, 0] rfl) h
def q_X3_begin (S : St) (a1 : Int32) (k : St → Prop) : Prop := q_J7_fill_d0a16 31 100 S (lN 0) (fun S_1 => ((a1 < (nI 0) → (k S_1)) ∧ (¬ a1 < (nI 0) → (((nI 100) ≤ a1 → (k S_1)) ∧ (¬ (nI 100) ≤ a1 → (vp_in a1 100 ∧ (∀ S_5 : St, S_5 = sJ S_1 31 a1.toNatClampNeg (lN 1) → (k S_5))))))))
set_option maxRecDepth 100000 in
set_option maxHeartbeats 4000000 in
theorem c_X3_begin {l : Launch} {Z : ZT} (hi : injZ 68 Z) (S : St) (a1 : Int32) (k : St → Prop) (h : q_X3_begin S a1 k) : Mv l shX 68 Z (gX Z) yX3_begin cX3_begin 2 none (rmk 1 24) [.ref (Z.2.2.1 30), .int a1] S k := by
  have g := gokX hi
  refine e_v (by decide) (Nat.le_of_ble_eq_true rfl) (lv := [(0, .ref (Z.2.2.1 30)), (1, .int a1)]) rfl (fun p e s m args below meth c C hP hS ls hl => ?_)
  have hx := C.1.1
  have hb := C.1.2.1
  unfold q_X3_begin at h
  refine lv_aload_n hx hb dX3_begin_0 rfl (lv_at hl 0 rfl) ?_
  refine s_gR g C hP 30 0 31 (by decide) rfl rfl cfX3 (by decide) kFL_X3_9 dX3_begin_1 ?_
  refine lv_lconst (v := (lN 0)) hx hb dX3_begin_4 (by decide) ?_
  refine go_v (run_S g C hP hS (As := [.ref (Z.2.2.1 31), .long (lN 0)]) (rest := []) (c_J7_fill_d0a16 hi 31 100 ⟨(by decide), rfl⟩ S (lN 0) _ h) cal_J7_fill_d0a16 kML_X3_18 ⟨rfl, rfl, Nat.le_of_ble_eq_true rfl, Nat.le_of_ble_eq_true rfl⟩ rfl rfl hl.1 (Nat.le_of_ble_eq_true rfl) dX3_begin_5) hS (fun S_1 H locs h hP hS => ?_)
  refine lv_iload_n hx hb dX3_begin_8 rfl (lv_at hl 1 rfl) ?_
  refine lv_if_lt (tgt := 25) hx hb dX3_begin_9 (by decide) (fun c_2 => ?_) (fun c_2 => ?_)
  · have h := h.1 c_2
    exact s_rv C hP hS h dX3_begin_25
  · have h := h.2 c_2
    refine lv_iload_n hx hb dX3_begin_12 rfl (lv_at hl 1 rfl) ?_
    refine lv_bipush (v := (nI 100)) hx hb dX3_begin_13 (by decide) ?_
    refine lv_icmp_ge (tgt := 25) hx hb dX3_begin_15 (by decide) (fun c_3 => ?_) (fun c_3 => ?_)
    · have h := h.1 c_3
      exact s_rv C hP hS h dX3_begin_25
    · have h := h.2 c_3
      refine lv_aload_n hx hb dX3_begin_18 rfl (lv_at hl 0 rfl) ?_
      refine s_gR g C hP 30 0 31 (by decide) rfl rfl cfX3 (by decide) kFL_X3_9 dX3_begin_19 ?_
      refine lv_iload_n hx hb dX3_begin_22 rfl (lv_at hl 1 rfl) ?_
      refine lv_lconst (v := (lN 1)) hx hb dX3_begin_23 (by decide) ?_
      have hv_4 := h.1
      have h := h.2
      refine s_stJ g C hP hS 31 (by decide) rfl hv_4 dX3_begin_24 (fun H locs hP hS => ?_)
      obtain ⟨S_5, eS_5⟩ : ∃ z_ : St, z_ = sJ S_1 31 a1.toNatClampNeg (lN 1) := ⟨_, rfl⟩
      rw [← eS_5] at hP
      have h := h S_5 eS_5
      exact s_rv C hP hS h dX3_begin_25
def q_X3_sumFrom_9 (a1 : Int32) (S : St) (k : Int64 → Prop) : Nat → Int64 → Int32 → Prop := fun n_ => Nat.rec (motive := fun _ => Int64 → Int32 → Prop) (fun _ _ => False) (fun _ ih => fun x2 x4 => ((nI 100) ≤ x4 → (k x2)) ∧ (¬ (nI 100) ≤ x4 → (vp_in x4 100 ∧ (∀ x2_3 : Int64, x2_3 = (x2 + (S.2 31 x4.toNatClampNeg)) → (∀ x4_4 : Int32, x4_4 = x4 + (nI 1) → (ih x2_3 x4_4)))))) n_
theorem q_X3_sumFrom_9_s (a1 : Int32) (S : St) (k : Int64 → Prop) (n_ : Nat) (x2 : Int64) (x4 : Int32) : q_X3_sumFrom_9 a1 S k (n_ + 1) x2 x4 = (((nI 100) ≤ x4 → (k x2)) ∧ (¬ (nI 100) ≤ x4 → (vp_in x4 100 ∧ (∀ x2_3 : Int64, x2_3 = (x2 + (S.2 31 x4.toNatClampNeg)) → (∀ x4_4 : Int32, x4_4 = x4 + (nI 1) → ((q_X3_sumFrom_9 a1 S k n_) x2_3 x4_4)))))) := rfl
set_option maxRecDepth 100000 in
set_option maxHeartbeats 4000000 in
theorem b_X3_sumFrom_9 {p : Program} {l : Launch} {e : Env} {s : State} {m : MethodId} {args : Array Value} {below : List Frame} {meth : Method} {c : Code} {Z : ZT} (hi : injZ 68 Z) (C : Cxt (gX Z) p s m meth c args yX3_sumFrom cX3_sumFrom 5 (Option.some .long)) {a1 : Int32} {S : St} {k : Int64 → Prop}   : ∀ (n_ : Nat) (x2 : Int64) (x4 : Int32) (H : Heap) (locs : List Loc) (ls : Array Slot), va_P Z.1 vwCl (wl shX 68 Z S) H → va_S (aa 68 Z) s.heap H locs → lv_has ls 5 [(0, .ref (Z.2.2.1 30)), (2, .long x2), (4, .int x4)] → q_X3_sumFrom_9 a1 S k n_ x2 x4 → W p l e (rmk 1 21) s m args below meth c H locs 0 0 (Ql below shX 68 Z args s (fun r S' => S' = S ∧ k r)) (F0 m 9 ls []) := by
  have g := gokX hi
  have hx := C.1.1
  have hb := C.1.2.1
  intro n_
  induction n_ with
  | zero => intro x2 x4 H locs ls hP hS hl h; exact h.elim
  | succ n_ ih =>
    intro x2 x4 H locs ls hP hS hl h
    rw [q_X3_sumFrom_9_s] at h
    refine lv_iload hx hb dX3_sumFrom_9 (lv_at hl 2 rfl) ?_
    refine lv_bipush (v := (nI 100)) hx hb dX3_sumFrom_11 (by decide) ?_
    refine lv_icmp_ge (tgt := 32) hx hb dX3_sumFrom_13 (by decide) (fun c_1 => ?_) (fun c_1 => ?_)
    · have h := h.1 c_1
      refine lv_lload_n hx hb dX3_sumFrom_32 rfl (lv_at hl 1 rfl) ?_
      exact s_rl C hP hS ⟨rfl, h⟩ dX3_sumFrom_33
    · have h := h.2 c_1
      refine lv_lload_n hx hb dX3_sumFrom_16 rfl (lv_at hl 1 rfl) ?_
      refine lv_aload_n hx hb dX3_sumFrom_17 rfl (lv_at hl 0 rfl) ?_
      refine s_gR g C hP 30 0 31 (by decide) rfl rfl cfX3 (by decide) kFL_X3_9 dX3_sumFrom_18 ?_
      refine lv_iload hx hb dX3_sumFrom_21 (lv_at hl 2 rfl) ?_
      have hv_2 := h.1
      have h := h.2
      refine s_aJ g C hP 31 (by decide) rfl hv_2 dX3_sumFrom_23 ?_
      refine lv_ladd hx hb dX3_sumFrom_24 ?_
      refine lv_topl (fun x2_3 ex2_3 => ?_)
      have h := h x2_3 ex2_3
      refine lv_lstore_n (lv' := [(2, .long x2_3), (0, .ref (Z.2.2.1 30)), (4, .int x4)]) hx hb dX3_sumFrom_25 rfl hl (by decide) rfl (fun ls hl => ?_)
      obtain ⟨x4_4, ex4_4⟩ : ∃ y_ : Int32, y_ = x4 + (nI 1) := ⟨_, rfl⟩
      have h := h x4_4 ex4_4
      refine lv_iinc (v := x4_4) (lv' := [(4, .int x4_4), (2, .long x2_3), (0, .ref (Z.2.2.1 30))]) hx hb dX3_sumFrom_26 hl (k := 2) rfl (by rw [ex4_4]; rfl) (by decide) rfl (fun ls hl => ?_)
      refine lv_goto (tgt := 9) hx hb dX3_sumFrom_29 (by decide) ?_
      exact ih _ _ _ _ _ hP hS (lv_sub hl [2, 1, 0] rfl) h
def q_X3_sumFrom (S : St) (a1 : Int32) (k : Int64 → Prop) : Prop := ∀ x4_1 : Int32, x4_1 = (if a1 < (nI 0) then (nI 0) else a1) → (∃ f_9, q_X3_sumFrom_9 a1 S k f_9 (lN 0) x4_1)
set_option maxRecDepth 100000 in
set_option maxHeartbeats 4000000 in
theorem c_X3_sumFrom {l : Launch} {Z : ZT} (hi : injZ 68 Z) (S : St) (a1 : Int32) (k : Int64 → Prop) (h : q_X3_sumFrom S a1 k) : Ml l shX 68 Z (gX Z) yX3_sumFrom cX3_sumFrom 5 (Option.some .long) (rmk 1 21) [.ref (Z.2.2.1 30), .int a1] S (fun r S' => S' = S ∧ k r) := by
  have g := gokX hi
  refine e_l (by decide) (Nat.le_of_ble_eq_true rfl) (lv := [(0, .ref (Z.2.2.1 30)), (1, .int a1)]) rfl (fun p e s m args below meth c C hP hS ls hl => ?_)
  have hx := C.1.1
  have hb := C.1.2.1
  unfold q_X3_sumFrom at h
  refine lv_lconst (v := (lN 0)) hx hb dX3_sumFrom_0 (by decide) ?_
  refine lv_lstore_n (lv' := [(2, .long (lN 0)), (0, .ref (Z.2.2.1 30)), (1, .int a1)]) hx hb dX3_sumFrom_1 rfl hl (by decide) rfl (fun ls hl => ?_)
  refine lv_iload_n hx hb dX3_sumFrom_2 rfl (lv_at hl 2 rfl) ?_
  refine lv_iconst (v := (nI 0)) hx hb dX3_sumFrom_3 (by decide) ?_
  refine s_max C hl.1 kML_X3_38 ⟨Nat.le_of_ble_eq_true rfl, Nat.le_of_ble_eq_true rfl⟩ dX3_sumFrom_4 ?_
  refine lv_topi (fun x4_1 ex4_1 => ?_)
  have h := h x4_1 ex4_1
  refine lv_istore (lv' := [(4, .int x4_1), (2, .long (lN 0)), (0, .ref (Z.2.2.1 30)), (1, .int a1)]) hx hb dX3_sumFrom_7 hl (by decide) rfl (fun ls hl => ?_)
  obtain ⟨f_9, h⟩ := h
  exact b_X3_sumFrom_9 hi C  f_9 _ _ _ _ _ hP hS (lv_sub hl [2, 1, 0] rfl) h
def q_X3_enough_109 (a1 : Int32) (a2 : Int32) (a3 : Int32) (a4 : Int32) (a5 : Int32) (k : Int64 → St → Prop) (S : St) : Prop := q_X3_sumFrom S (nI 0) (fun r_1 => (k r_1 S))
set_option maxRecDepth 100000 in
set_option maxHeartbeats 4000000 in
theorem b_X3_enough_109 {p : Program} {l : Launch} {e : Env} {s : State} {m : MethodId} {args : Array Value} {below : List Frame} {meth : Method} {c : Code} {Z : ZT} (hi : injZ 68 Z) (C : Cxt (gX Z) p s m meth c args yX3_enough cX3_enough 10 (Option.some .long)) {a1 : Int32} {a2 : Int32} {a3 : Int32} {a4 : Int32} {a5 : Int32} {k : Int64 → St → Prop}   (S : St) (H : Heap) (locs : List Loc) (ls : Array Slot) (hP : va_P Z.1 vwCl (wl shX 68 Z S) H) (hS : va_S (aa 68 Z) s.heap H locs) (hl : lv_has ls 10 [(0, .ref (Z.2.2.1 30))]) (h : q_X3_enough_109 a1 a2 a3 a4 a5 k S) : W p l e (rmk 2 45) s m args below meth c H locs 0 0 (Ql below shX 68 Z args s k) (F0 m 109 ls []) := by
  have g := gokX hi
  have hx := C.1.1
  have hb := C.1.2.1
  unfold q_X3_enough_109 at h
  refine lv_aload_n hx hb dX3_enough_109 rfl (lv_at hl 0 rfl) ?_
  refine lv_iconst (v := (nI 0)) hx hb dX3_enough_110 (by decide) ?_
  refine go_lp (run_V g C hP hS (c0 := 30) (As := [.int (nI 0)]) (rest := []) (c_X3_sumFrom hi S (nI 0) _ h) cal_X3_sumFrom kML_X3_28 (by decide) rfl cfX3 ⟨rfl, rfl, Nat.le_of_ble_eq_true rfl, Nat.le_of_ble_eq_true rfl⟩ rfl rfl hl.1 (Nat.le_of_ble_eq_true rfl) dX3_enough_111) hS (fun r_1 H locs h hP hS => ?_)
  exact s_rl C hP hS h dX3_enough_114
def q_X3_enough_96 (a1 : Int32) (a2 : Int32) (a3 : Int32) (a4 : Int32) (a5 : Int32) (k : Int64 → St → Prop) (e_8 : St → Int32 → Prop) (e_26 : St → Int32 → Int32 → Prop) (S : St) (x6 : Int32) (x7 : Int32) (t0 : Int64) (t1 : Int32) : Prop := vp_in t1 100 ∧ (∀ S_2 : St, S_2 = sJ S 31 t1.toNatClampNeg t0 → (∀ x7_3 : Int32, x7_3 = x7 + (-1 : Int32) → (e_26 S_2 x6 x7_3)))
set_option maxRecDepth 100000 in
set_option maxHeartbeats 4000000 in
theorem b_X3_enough_96 {p : Program} {l : Launch} {e : Env} {s : State} {m : MethodId} {args : Array Value} {below : List Frame} {meth : Method} {c : Code} {Z : ZT} (hi : injZ 68 Z) (C : Cxt (gX Z) p s m meth c args yX3_enough cX3_enough 10 (Option.some .long)) {a1 : Int32} {a2 : Int32} {a3 : Int32} {a4 : Int32} {a5 : Int32} {k : Int64 → St → Prop} {e_8 : St → Int32 → Prop} {e_26 : St → Int32 → Int32 → Prop}  (he_8 : ∀ (S : St) (x6 : Int32) (H : Heap) (locs : List Loc) (ls : Array Slot), va_P Z.1 vwCl (wl shX 68 Z S) H → va_S (aa 68 Z) s.heap H locs → lv_has ls 10 [(0, .ref (Z.2.2.1 30)), (1, .int a1), (2, .int a2), (3, .int a3), (4, .int a4), (5, .int a5), (6, .int x6)] → e_8 S x6 → W p l e (rmk 2 45) s m args below meth c H locs 0 0 (Ql below shX 68 Z args s k) (F0 m 8 ls [])) (he_26 : ∀ (S : St) (x6 : Int32) (x7 : Int32) (H : Heap) (locs : List Loc) (ls : Array Slot), va_P Z.1 vwCl (wl shX 68 Z S) H → va_S (aa 68 Z) s.heap H locs → lv_has ls 10 [(0, .ref (Z.2.2.1 30)), (1, .int a1), (2, .int a2), (3, .int a3), (4, .int a4), (5, .int a5), (6, .int x6), (7, .int x7)] → e_26 S x6 x7 → W p l e (rmk 2 45) s m args below meth c H locs 0 0 (Ql below shX 68 Z args s k) (F0 m 26 ls [])) (S : St) (x6 : Int32) (x7 : Int32) (t0 : Int64) (t1 : Int32) (H : Heap) (locs : List Loc) (ls : Array Slot) (hP : va_P Z.1 vwCl (wl shX 68 Z S) H) (hS : va_S (aa 68 Z) s.heap H locs) (hl : lv_has ls 10 [(0, .ref (Z.2.2.1 30)), (1, .int a1), (2, .int a2), (3, .int a3), (4, .int a4), (5, .int a5), (6, .int x6), (7, .int x7)]) (h : q_X3_enough_96 a1 a2 a3 a4 a5 k e_8 e_26 S x6 x7 t0 t1) : W p l e (rmk 2 45) s m args below meth c H locs 0 0 (Ql below shX 68 Z args s k) (F0 m 96 ls [.long t0, .int t1, .ref (Z.2.2.1 31)]) := by
  have g := gokX hi
  have hx := C.1.1
  have hb := C.1.2.1
  unfold q_X3_enough_96 at h
  have hv_1 := h.1
  have h := h.2
  refine s_stJ g C hP hS 31 (by decide) rfl hv_1 dX3_enough_96 (fun H locs hP hS => ?_)
  obtain ⟨S_2, eS_2⟩ : ∃ z_ : St, z_ = sJ S 31 t1.toNatClampNeg t0 := ⟨_, rfl⟩
  rw [← eS_2] at hP
  have h := h S_2 eS_2
  obtain ⟨x7_3, ex7_3⟩ : ∃ y_ : Int32, y_ = x7 + (-1 : Int32) := ⟨_, rfl⟩
  have h := h x7_3 ex7_3
  refine lv_iinc (v := x7_3) (lv' := [(7, .int x7_3), (0, .ref (Z.2.2.1 30)), (1, .int a1), (2, .int a2), (3, .int a3), (4, .int a4), (5, .int a5), (6, .int x6)]) hx hb dX3_enough_97 hl (k := 7) rfl (by rw [ex7_3]; rfl) (by decide) rfl (fun ls hl => ?_)
  refine lv_goto (tgt := 26) hx hb dX3_enough_100 (by decide) ?_
  exact he_26 _ _ _ _ _ _ hP hS (lv_sub hl [1, 2, 3, 4, 5, 6, 7, 0] rfl) h
def q_X3_enough_70 (a1 : Int32) (a2 : Int32) (a3 : Int32) (a4 : Int32) (a5 : Int32) (k : Int64 → St → Prop) (e_8 : St → Int32 → Prop) (e_26 : St → Int32 → Int32 → Prop) (S : St) (x6 : Int32) (x7 : Int32) (x8 : Int64) : Prop := (((a1 + (a3 * x7)) - (a2 * x6)) < (nI 0) → (q_X3_enough_96 a1 a2 a3 a4 a5 k e_8 e_26 S x6 x7 (lN 0) x7)) ∧ (¬ ((a1 + (a3 * x7)) - (a2 * x6)) < (nI 0) → (q_X3_enough_96 a1 a2 a3 a4 a5 k e_8 e_26 S x6 x7 x8 x7))
set_option maxRecDepth 100000 in
set_option maxHeartbeats 4000000 in
theorem b_X3_enough_70 {p : Program} {l : Launch} {e : Env} {s : State} {m : MethodId} {args : Array Value} {below : List Frame} {meth : Method} {c : Code} {Z : ZT} (hi : injZ 68 Z) (C : Cxt (gX Z) p s m meth c args yX3_enough cX3_enough 10 (Option.some .long)) {a1 : Int32} {a2 : Int32} {a3 : Int32} {a4 : Int32} {a5 : Int32} {k : Int64 → St → Prop} {e_8 : St → Int32 → Prop} {e_26 : St → Int32 → Int32 → Prop}  (he_8 : ∀ (S : St) (x6 : Int32) (H : Heap) (locs : List Loc) (ls : Array Slot), va_P Z.1 vwCl (wl shX 68 Z S) H → va_S (aa 68 Z) s.heap H locs → lv_has ls 10 [(0, .ref (Z.2.2.1 30)), (1, .int a1), (2, .int a2), (3, .int a3), (4, .int a4), (5, .int a5), (6, .int x6)] → e_8 S x6 → W p l e (rmk 2 45) s m args below meth c H locs 0 0 (Ql below shX 68 Z args s k) (F0 m 8 ls [])) (he_26 : ∀ (S : St) (x6 : Int32) (x7 : Int32) (H : Heap) (locs : List Loc) (ls : Array Slot), va_P Z.1 vwCl (wl shX 68 Z S) H → va_S (aa 68 Z) s.heap H locs → lv_has ls 10 [(0, .ref (Z.2.2.1 30)), (1, .int a1), (2, .int a2), (3, .int a3), (4, .int a4), (5, .int a5), (6, .int x6), (7, .int x7)] → e_26 S x6 x7 → W p l e (rmk 2 45) s m args below meth c H locs 0 0 (Ql below shX 68 Z args s k) (F0 m 26 ls [])) (S : St) (x6 : Int32) (x7 : Int32) (x8 : Int64) (H : Heap) (locs : List Loc) (ls : Array Slot) (hP : va_P Z.1 vwCl (wl shX 68 Z S) H) (hS : va_S (aa 68 Z) s.heap H locs) (hl : lv_has ls 10 [(0, .ref (Z.2.2.1 30)), (1, .int a1), (2, .int a2), (3, .int a3), (4, .int a4), (5, .int a5), (6, .int x6), (7, .int x7), (8, .long x8)]) (h : q_X3_enough_70 a1 a2 a3 a4 a5 k e_8 e_26 S x6 x7 x8) : W p l e (rmk 2 45) s m args below meth c H locs 0 0 (Ql below shX 68 Z args s k) (F0 m 70 ls []) := by
  have g := gokX hi
  have hx := C.1.1
  have hb := C.1.2.1
  unfold q_X3_enough_70 at h
  refine lv_aload_n hx hb dX3_enough_70 rfl (lv_at hl 0 rfl) ?_
  refine s_gR g C hP 30 0 31 (by decide) rfl rfl cfX3 (by decide) kFL_X3_9 dX3_enough_71 ?_
  refine lv_iload hx hb dX3_enough_74 (lv_at hl 7 rfl) ?_
  refine lv_iload_n hx hb dX3_enough_76 rfl (lv_at hl 1 rfl) ?_
  refine lv_iload_n hx hb dX3_enough_77 rfl (lv_at hl 3 rfl) ?_
  refine lv_iload hx hb dX3_enough_78 (lv_at hl 7 rfl) ?_
  refine lv_imul hx hb dX3_enough_80 ?_
  refine lv_iadd hx hb dX3_enough_81 ?_
  refine lv_iload_n hx hb dX3_enough_82 rfl (lv_at hl 2 rfl) ?_
  refine lv_iload hx hb dX3_enough_83 (lv_at hl 6 rfl) ?_
  refine lv_imul hx hb dX3_enough_85 ?_
  refine lv_isub hx hb dX3_enough_86 ?_
  refine lv_if_lt (tgt := 95) hx hb dX3_enough_87 (by decide) (fun c_1 => ?_) (fun c_1 => ?_)
  · have h := h.1 c_1
    refine lv_lconst (v := (lN 0)) hx hb dX3_enough_95 (by decide) ?_
    exact b_X3_enough_96 hi C he_8 he_26 _ _ _ _ _ _ _ _ hP hS (lv_sub hl [0, 1, 2, 3, 4, 5, 6, 7] rfl) h
  · have h := h.2 c_1
    refine lv_lload hx hb dX3_enough_90 (lv_at hl 8 rfl) ?_
    refine lv_goto (tgt := 96) hx hb dX3_enough_92 (by decide) ?_
    exact b_X3_enough_96 hi C he_8 he_26 _ _ _ _ _ _ _ _ hP hS (lv_sub hl [0, 1, 2, 3, 4, 5, 6, 7] rfl) h
def q_X3_enough_26 (a1 : Int32) (a2 : Int32) (a3 : Int32) (a4 : Int32) (a5 : Int32) (k : Int64 → St → Prop) (e_8 : St → Int32 → Prop) : Nat → St → Int32 → Int32 → Prop := fun n_ => Nat.rec (motive := fun _ => St → Int32 → Int32 → Prop) (fun _ _ _ => False) (fun _ ih => fun S x6 x7 => (x7 < (nI 0) → (∀ x6_2 : Int32, x6_2 = x6 + (nI 1) → (e_8 S x6_2))) ∧ (¬ x7 < (nI 0) → (vp_in x7 100 ∧ (∀ x8_4 : Int64, x8_4 = ((S.2 31 x7.toNatClampNeg) * a4.toInt64) → ((x7 ≤ (nI 0) → (q_X3_enough_70 a1 a2 a3 a4 a5 k e_8 ih S x6 x7 x8_4)) ∧ (¬ x7 ≤ (nI 0) → (vp_in (x7 - (nI 1)) 100 ∧ (∀ x8_7 : Int64, x8_7 = (x8_4 + ((S.2 31 (x7 - (nI 1)).toNatClampNeg) * (((nI 10) - a4)).toInt64)) → (q_X3_enough_70 a1 a2 a3 a4 a5 k e_8 ih S x6 x7 x8_7))))))))) n_
theorem q_X3_enough_26_s (a1 : Int32) (a2 : Int32) (a3 : Int32) (a4 : Int32) (a5 : Int32) (k : Int64 → St → Prop) (e_8 : St → Int32 → Prop) (n_ : Nat) (S : St) (x6 : Int32) (x7 : Int32) : q_X3_enough_26 a1 a2 a3 a4 a5 k e_8 (n_ + 1) S x6 x7 = ((x7 < (nI 0) → (∀ x6_2 : Int32, x6_2 = x6 + (nI 1) → (e_8 S x6_2))) ∧ (¬ x7 < (nI 0) → (vp_in x7 100 ∧ (∀ x8_4 : Int64, x8_4 = ((S.2 31 x7.toNatClampNeg) * a4.toInt64) → ((x7 ≤ (nI 0) → (q_X3_enough_70 a1 a2 a3 a4 a5 k e_8 (q_X3_enough_26 a1 a2 a3 a4 a5 k e_8 n_) S x6 x7 x8_4)) ∧ (¬ x7 ≤ (nI 0) → (vp_in (x7 - (nI 1)) 100 ∧ (∀ x8_7 : Int64, x8_7 = (x8_4 + ((S.2 31 (x7 - (nI 1)).toNatClampNeg) * (((nI 10) - a4)).toInt64)) → (q_X3_enough_70 a1 a2 a3 a4 a5 k e_8 (q_X3_enough_26 a1 a2 a3 a4 a5 k e_8 n_) S x6 x7 x8_7))))))))) := rfl
set_option maxRecDepth 100000 in
set_option maxHeartbeats 4000000 in
theorem b_X3_enough_26 {p : Program} {l : Launch} {e : Env} {s : State} {m : MethodId} {args : Array Value} {below : List Frame} {meth : Method} {c : Code} {Z : ZT} (hi : injZ 68 Z) (C : Cxt (gX Z) p s m meth c args yX3_enough cX3_enough 10 (Option.some .long)) {a1 : Int32} {a2 : Int32} {a3 : Int32} {a4 : Int32} {a5 : Int32} {k : Int64 → St → Prop} {e_8 : St → Int32 → Prop}  (he_8 : ∀ (S : St) (x6 : Int32) (H : Heap) (locs : List Loc) (ls : Array Slot), va_P Z.1 vwCl (wl shX 68 Z S) H → va_S (aa 68 Z) s.heap H locs → lv_has ls 10 [(0, .ref (Z.2.2.1 30)), (1, .int a1), (2, .int a2), (3, .int a3), (4, .int a4), (5, .int a5), (6, .int x6)] → e_8 S x6 → W p l e (rmk 2 45) s m args below meth c H locs 0 0 (Ql below shX 68 Z args s k) (F0 m 8 ls [])) : ∀ (n_ : Nat) (S : St) (x6 : Int32) (x7 : Int32) (H : Heap) (locs : List Loc) (ls : Array Slot), va_P Z.1 vwCl (wl shX 68 Z S) H → va_S (aa 68 Z) s.heap H locs → lv_has ls 10 [(0, .ref (Z.2.2.1 30)), (1, .int a1), (2, .int a2), (3, .int a3), (4, .int a4), (5, .int a5), (6, .int x6), (7, .int x7)] → q_X3_enough_26 a1 a2 a3 a4 a5 k e_8 n_ S x6 x7 → W p l e (rmk 2 45) s m args below meth c H locs 0 0 (Ql below shX 68 Z args s k) (F0 m 26 ls []) := by
  have g := gokX hi
  have hx := C.1.1
  have hb := C.1.2.1
  intro n_
  induction n_ with
  | zero => intro S x6 x7 H locs ls hP hS hl h; exact h.elim
  | succ n_ ih =>
    intro S x6 x7 H locs ls hP hS hl h
    rw [q_X3_enough_26_s] at h
    refine lv_iload hx hb dX3_enough_26 (lv_at hl 7 rfl) ?_
    refine lv_if_lt (tgt := 103) hx hb dX3_enough_28 (by decide) (fun c_1 => ?_) (fun c_1 => ?_)
    · have h := h.1 c_1
      obtain ⟨x6_2, ex6_2⟩ : ∃ y_ : Int32, y_ = x6 + (nI 1) := ⟨_, rfl⟩
      have h := h x6_2 ex6_2
      refine lv_iinc (v := x6_2) (lv' := [(6, .int x6_2), (0, .ref (Z.2.2.1 30)), (1, .int a1), (2, .int a2), (3, .int a3), (4, .int a4), (5, .int a5), (7, .int x7)]) hx hb dX3_enough_103 hl (k := 6) rfl (by rw [ex6_2]; rfl) (by decide) rfl (fun ls hl => ?_)
      refine lv_goto (tgt := 8) hx hb dX3_enough_106 (by decide) ?_
      exact he_8 _ _ _ _ _ hP hS (lv_sub hl [1, 2, 3, 4, 5, 6, 0] rfl) h
    · have h := h.2 c_1
      refine lv_aload_n hx hb dX3_enough_31 rfl (lv_at hl 0 rfl) ?_
      refine s_gR g C hP 30 0 31 (by decide) rfl rfl cfX3 (by decide) kFL_X3_9 dX3_enough_32 ?_
      refine lv_iload hx hb dX3_enough_35 (lv_at hl 7 rfl) ?_
      have hv_3 := h.1
      have h := h.2
      refine s_aJ g C hP 31 (by decide) rfl hv_3 dX3_enough_37 ?_
      refine lv_iload hx hb dX3_enough_38 (lv_at hl 4 rfl) ?_
      refine lv_i2l hx hb dX3_enough_40 rfl ?_
      refine lv_lmul hx hb dX3_enough_41 ?_
      refine lv_topl (fun x8_4 ex8_4 => ?_)
      have h := h x8_4 ex8_4
      refine lv_lstore (lv' := [(8, .long x8_4), (0, .ref (Z.2.2.1 30)), (1, .int a1), (2, .int a2), (3, .int a3), (4, .int a4), (5, .int a5), (6, .int x6), (7, .int x7)]) hx hb dX3_enough_42 hl (by decide) rfl (fun ls hl => ?_)
      refine lv_iload hx hb dX3_enough_44 (lv_at hl 8 rfl) ?_
      refine lv_if_le (tgt := 70) hx hb dX3_enough_46 (by decide) (fun c_5 => ?_) (fun c_5 => ?_)
      · have h := h.1 c_5
        exact b_X3_enough_70 hi C he_8 ih _ _ _ _ _ _ _ hP hS (lv_sub hl [1, 2, 3, 4, 5, 6, 7, 8, 0] rfl) h
      · have h := h.2 c_5
        refine lv_lload hx hb dX3_enough_49 (lv_at hl 0 rfl) ?_
        refine lv_aload_n hx hb dX3_enough_51 rfl (lv_at hl 1 rfl) ?_
        refine s_gR g C hP 30 0 31 (by decide) rfl rfl cfX3 (by decide) kFL_X3_9 dX3_enough_52 ?_
        refine lv_iload hx hb dX3_enough_55 (lv_at hl 8 rfl) ?_
        refine lv_iconst (v := (nI 1)) hx hb dX3_enough_57 (by decide) ?_
        refine lv_isub hx hb dX3_enough_58 ?_
        have hv_6 := h.1
        have h := h.2
        refine s_aJ g C hP 31 (by decide) rfl hv_6 dX3_enough_59 ?_
        refine lv_bipush (v := (nI 10)) hx hb dX3_enough_60 (by decide) ?_
        refine lv_iload hx hb dX3_enough_62 (lv_at hl 5 rfl) ?_
        refine lv_isub hx hb dX3_enough_64 ?_
        refine lv_i2l hx hb dX3_enough_65 rfl ?_
        refine lv_lmul hx hb dX3_enough_66 ?_
        refine lv_ladd hx hb dX3_enough_67 ?_
        refine lv_topl (fun x8_7 ex8_7 => ?_)
        have h := h x8_7 ex8_7
        refine lv_lstore (lv' := [(8, .long x8_7), (0, .ref (Z.2.2.1 30)), (1, .int a1), (2, .int a2), (3, .int a3), (4, .int a4), (5, .int a5), (6, .int x6), (7, .int x7)]) hx hb dX3_enough_68 hl (by decide) rfl (fun ls hl => ?_)
        exact b_X3_enough_70 hi C he_8 ih _ _ _ _ _ _ _ hP hS (lv_sub hl [1, 2, 3, 4, 5, 6, 7, 8, 0] rfl) h
def q_X3_enough_8 (a1 : Int32) (a2 : Int32) (a3 : Int32) (a4 : Int32) (a5 : Int32) (k : Int64 → St → Prop) : Nat → St → Int32 → Prop := fun n_ => Nat.rec (motive := fun _ => St → Int32 → Prop) (fun _ _ => False) (fun _ ih => fun S x6 => (a5 < x6 → (q_X3_enough_109 a1 a2 a3 a4 a5 k S)) ∧ (¬ a5 < x6 → (((nI 100) ≤ x6 → (q_X3_enough_109 a1 a2 a3 a4 a5 k S)) ∧ (¬ (nI 100) ≤ x6 → (∃ f_26, q_X3_enough_26 a1 a2 a3 a4 a5 k ih f_26 S x6 x6))))) n_
theorem q_X3_enough_8_s (a1 : Int32) (a2 : Int32) (a3 : Int32) (a4 : Int32) (a5 : Int32) (k : Int64 → St → Prop) (n_ : Nat) (S : St) (x6 : Int32) : q_X3_enough_8 a1 a2 a3 a4 a5 k (n_ + 1) S x6 = ((a5 < x6 → (q_X3_enough_109 a1 a2 a3 a4 a5 k S)) ∧ (¬ a5 < x6 → (((nI 100) ≤ x6 → (q_X3_enough_109 a1 a2 a3 a4 a5 k S)) ∧ (¬ (nI 100) ≤ x6 → (∃ f_26, q_X3_enough_26 a1 a2 a3 a4 a5 k (q_X3_enough_8 a1 a2 a3 a4 a5 k n_) f_26 S x6 x6))))) := rfl
set_option maxRecDepth 100000 in
set_option maxHeartbeats 4000000 in
theorem b_X3_enough_8 {p : Program} {l : Launch} {e : Env} {s : State} {m : MethodId} {args : Array Value} {below : List Frame} {meth : Method} {c : Code} {Z : ZT} (hi : injZ 68 Z) (C : Cxt (gX Z) p s m meth c args yX3_enough cX3_enough 10 (Option.some .long)) {a1 : Int32} {a2 : Int32} {a3 : Int32} {a4 : Int32} {a5 : Int32} {k : Int64 → St → Prop}   : ∀ (n_ : Nat) (S : St) (x6 : Int32) (H : Heap) (locs : List Loc) (ls : Array Slot), va_P Z.1 vwCl (wl shX 68 Z S) H → va_S (aa 68 Z) s.heap H locs → lv_has ls 10 [(0, .ref (Z.2.2.1 30)), (1, .int a1), (2, .int a2), (3, .int a3), (4, .int a4), (5, .int a5), (6, .int x6)] → q_X3_enough_8 a1 a2 a3 a4 a5 k n_ S x6 → W p l e (rmk 2 45) s m args below meth c H locs 0 0 (Ql below shX 68 Z args s k) (F0 m 8 ls []) := by
  have g := gokX hi
  have hx := C.1.1
  have hb := C.1.2.1
  intro n_
  induction n_ with
  | zero => intro S x6 H locs ls hP hS hl h; exact h.elim
  | succ n_ ih =>
    intro S x6 H locs ls hP hS hl h
    rw [q_X3_enough_8_s] at h
    refine lv_iload hx hb dX3_enough_8 (lv_at hl 6 rfl) ?_
    refine lv_iload hx hb dX3_enough_10 (lv_at hl 5 rfl) ?_
    refine lv_icmp_gt (tgt := 109) hx hb dX3_enough_12 (by decide) (fun c_1 => ?_) (fun c_1 => ?_)
    · have h := h.1 c_1
      exact b_X3_enough_109 hi C  _ _ _ _ hP hS (lv_sub hl [0] rfl) h
    · have h := h.2 c_1
      refine lv_iload hx hb dX3_enough_15 (lv_at hl 6 rfl) ?_
      refine lv_bipush (v := (nI 100)) hx hb dX3_enough_17 (by decide) ?_
      refine lv_icmp_ge (tgt := 109) hx hb dX3_enough_19 (by decide) (fun c_2 => ?_) (fun c_2 => ?_)
      · have h := h.1 c_2
        exact b_X3_enough_109 hi C  _ _ _ _ hP hS (lv_sub hl [0] rfl) h
      · have h := h.2 c_2
        refine lv_iload hx hb dX3_enough_22 (lv_at hl 6 rfl) ?_
        refine lv_istore (lv' := [(7, .int x6), (0, .ref (Z.2.2.1 30)), (1, .int a1), (2, .int a2), (3, .int a3), (4, .int a4), (5, .int a5), (6, .int x6)]) hx hb dX3_enough_24 hl (by decide) rfl (fun ls hl => ?_)
        obtain ⟨f_26, h⟩ := h
        exact b_X3_enough_26 hi C ih f_26 _ _ _ _ _ _ hP hS (lv_sub hl [1, 2, 3, 4, 5, 6, 7, 0] rfl) h
def q_X3_enough (S : St) (a1 : Int32) (a2 : Int32) (a3 : Int32) (a4 : Int32) (a5 : Int32) (k : Int64 → St → Prop) : Prop := q_X3_begin S (nI 0) (fun S_1 => (∃ f_8, q_X3_enough_8 a1 a2 a3 a4 a5 k f_8 S_1 (nI 1)))
set_option maxRecDepth 100000 in
set_option maxHeartbeats 4000000 in
theorem c_X3_enough {l : Launch} {Z : ZT} (hi : injZ 68 Z) (S : St) (a1 : Int32) (a2 : Int32) (a3 : Int32) (a4 : Int32) (a5 : Int32) (k : Int64 → St → Prop) (h : q_X3_enough S a1 a2 a3 a4 a5 k) : Ml l shX 68 Z (gX Z) yX3_enough cX3_enough 10 (Option.some .long) (rmk 2 45) [.ref (Z.2.2.1 30), .int a1, .int a2, .int a3, .int a4, .int a5] S k := by
  have g := gokX hi
  refine e_l (by decide) (Nat.le_of_ble_eq_true rfl) (lv := [(0, .ref (Z.2.2.1 30)), (1, .int a1), (2, .int a2), (3, .int a3), (4, .int a4), (5, .int a5)]) rfl (fun p e s m args below meth c C hP hS ls hl => ?_)
  have hx := C.1.1
  have hb := C.1.2.1
  unfold q_X3_enough at h
  refine lv_aload_n hx hb dX3_enough_0 rfl (lv_at hl 0 rfl) ?_
  refine lv_iconst (v := (nI 0)) hx hb dX3_enough_1 (by decide) ?_
  refine go_v (run_V g C hP hS (c0 := 30) (As := [.int (nI 0)]) (rest := []) (c_X3_begin hi S (nI 0) _ h) cal_X3_begin kML_X3_24 (by decide) rfl cfX3 ⟨rfl, rfl, Nat.le_of_ble_eq_true rfl, Nat.le_of_ble_eq_true rfl⟩ rfl rfl hl.1 (Nat.le_of_ble_eq_true rfl) dX3_enough_2) hS (fun S_1 H locs h hP hS => ?_)
  refine lv_iconst (v := (nI 1)) hx hb dX3_enough_5 (by decide) ?_
  refine lv_istore (lv' := [(6, .int (nI 1)), (0, .ref (Z.2.2.1 30)), (1, .int a1), (2, .int a2), (3, .int a3), (4, .int a4), (5, .int a5)]) hx hb dX3_enough_6 hl (by decide) rfl (fun ls hl => ?_)
  obtain ⟨f_8, h⟩ := h
  exact b_X3_enough_8 hi C  f_8 _ _ _ _ _ hP hS (lv_sub hl [1, 2, 3, 4, 5, 6, 0] rfl) h
def q_X3_drift_36 (a1 : Int32) (a2 : Int32) (k : St → Prop) (e_2 : St → Int32 → Prop) (S : St) (x3 : Int32) (t0 : Int64) : Prop := vp_in x3 100 ∧ (vp_in x3 100 ∧ (∀ S_3 : St, S_3 = sJ S 32 x3.toNatClampNeg (((S.2 31 x3.toNatClampNeg) * (((nI 10) - a2)).toInt64) + (t0 * a2.toInt64)) → (∀ x3_4 : Int32, x3_4 = x3 + (nI 1) → (e_2 S_3 x3_4))))
set_option maxRecDepth 100000 in
set_option maxHeartbeats 4000000 in
theorem b_X3_drift_36 {p : Program} {l : Launch} {e : Env} {s : State} {m : MethodId} {args : Array Value} {below : List Frame} {meth : Method} {c : Code} {Z : ZT} (hi : injZ 68 Z) (C : Cxt (gX Z) p s m meth c args yX3_drift cX3_drift 7 none) {a1 : Int32} {a2 : Int32} {k : St → Prop} {e_2 : St → Int32 → Prop}  (he_2 : ∀ (S : St) (x3 : Int32) (H : Heap) (locs : List Loc) (ls : Array Slot), va_P Z.1 vwCl (wl shX 68 Z S) H → va_S (aa 68 Z) s.heap H locs → lv_has ls 7 [(0, .ref (Z.2.2.1 30)), (1, .int a1), (2, .int a2), (3, .int x3)] → e_2 S x3 → W p l e (rmk 1 40) s m args below meth c H locs 0 0 (Qv below shX 68 Z args s k) (F0 m 2 ls [])) (S : St) (x3 : Int32) (t0 : Int64) (H : Heap) (locs : List Loc) (ls : Array Slot) (hP : va_P Z.1 vwCl (wl shX 68 Z S) H) (hS : va_S (aa 68 Z) s.heap H locs) (hl : lv_has ls 7 [(0, .ref (Z.2.2.1 30)), (1, .int a1), (2, .int a2), (3, .int x3)]) (h : q_X3_drift_36 a1 a2 k e_2 S x3 t0) : W p l e (rmk 1 40) s m args below meth c H locs 0 0 (Qv below shX 68 Z args s k) (F0 m 36 ls [.long t0]) := by
  have g := gokX hi
  have hx := C.1.1
  have hb := C.1.2.1
  unfold q_X3_drift_36 at h
  refine lv_lstore (lv' := [(5, .long t0), (0, .ref (Z.2.2.1 30)), (1, .int a1), (2, .int a2), (3, .int x3)]) hx hb dX3_drift_36 hl (by decide) rfl (fun ls hl => ?_)
  refine lv_aload_n hx hb dX3_drift_38 rfl (lv_at hl 1 rfl) ?_
  refine s_gR g C hP 30 1 32 (by decide) rfl rfl cfX3 (by decide) kFL_X3_15 dX3_drift_39 ?_
  refine lv_iload_n hx hb dX3_drift_42 rfl (lv_at hl 4 rfl) ?_
  refine lv_aload_n hx hb dX3_drift_43 rfl (lv_at hl 1 rfl) ?_
  refine s_gR g C hP 30 0 31 (by decide) rfl rfl cfX3 (by decide) kFL_X3_9 dX3_drift_44 ?_
  refine lv_iload_n hx hb dX3_drift_47 rfl (lv_at hl 4 rfl) ?_
  have hv_1 := h.1
  have h := h.2
  refine s_aJ g C hP 31 (by decide) rfl hv_1 dX3_drift_48 ?_
  refine lv_bipush (v := (nI 10)) hx hb dX3_drift_49 (by decide) ?_
  refine lv_iload_n hx hb dX3_drift_51 rfl (lv_at hl 3 rfl) ?_
  refine lv_isub hx hb dX3_drift_52 ?_
  refine lv_i2l hx hb dX3_drift_53 rfl ?_
  refine lv_lmul hx hb dX3_drift_54 ?_
  refine lv_lload hx hb dX3_drift_55 (lv_at hl 0 rfl) ?_
  refine lv_iload_n hx hb dX3_drift_57 rfl (lv_at hl 3 rfl) ?_
  refine lv_i2l hx hb dX3_drift_58 rfl ?_
  refine lv_lmul hx hb dX3_drift_59 ?_
  refine lv_ladd hx hb dX3_drift_60 ?_
  have hv_2 := h.1
  have h := h.2
  refine s_stJ g C hP hS 32 (by decide) rfl hv_2 dX3_drift_61 (fun H locs hP hS => ?_)
  obtain ⟨S_3, eS_3⟩ : ∃ z_ : St, z_ = sJ S 32 x3.toNatClampNeg (((S.2 31 x3.toNatClampNeg) * (((nI 10) - a2)).toInt64) + (t0 * a2.toInt64)) := ⟨_, rfl⟩
  rw [← eS_3] at hP
  have h := h S_3 eS_3
  obtain ⟨x3_4, ex3_4⟩ : ∃ y_ : Int32, y_ = x3 + (nI 1) := ⟨_, rfl⟩
  have h := h x3_4 ex3_4
  refine lv_iinc (v := x3_4) (lv' := [(3, .int x3_4), (5, .long t0), (0, .ref (Z.2.2.1 30)), (1, .int a1), (2, .int a2)]) hx hb dX3_drift_62 hl (k := 4) rfl (by rw [ex3_4]; rfl) (by decide) rfl (fun ls hl => ?_)
  refine lv_goto (tgt := 2) hx hb dX3_drift_65 (by decide) ?_
  exact he_2 _ _ _ _ _ hP hS (lv_sub hl [2, 3, 4, 0] rfl) h
def q_X3_drift_35 (a1 : Int32) (a2 : Int32) (k : St → Prop) (e_2 : St → Int32 → Prop) (S : St) (x3 : Int32) : Prop := q_X3_drift_36 a1 a2 k e_2 S x3 (lN 0)
set_option maxRecDepth 100000 in
set_option maxHeartbeats 4000000 in
theorem b_X3_drift_35 {p : Program} {l : Launch} {e : Env} {s : State} {m : MethodId} {args : Array Value} {below : List Frame} {meth : Method} {c : Code} {Z : ZT} (hi : injZ 68 Z) (C : Cxt (gX Z) p s m meth c args yX3_drift cX3_drift 7 none) {a1 : Int32} {a2 : Int32} {k : St → Prop} {e_2 : St → Int32 → Prop}  (he_2 : ∀ (S : St) (x3 : Int32) (H : Heap) (locs : List Loc) (ls : Array Slot), va_P Z.1 vwCl (wl shX 68 Z S) H → va_S (aa 68 Z) s.heap H locs → lv_has ls 7 [(0, .ref (Z.2.2.1 30)), (1, .int a1), (2, .int a2), (3, .int x3)] → e_2 S x3 → W p l e (rmk 1 40) s m args below meth c H locs 0 0 (Qv below shX 68 Z args s k) (F0 m 2 ls [])) (S : St) (x3 : Int32) (H : Heap) (locs : List Loc) (ls : Array Slot) (hP : va_P Z.1 vwCl (wl shX 68 Z S) H) (hS : va_S (aa 68 Z) s.heap H locs) (hl : lv_has ls 7 [(0, .ref (Z.2.2.1 30)), (1, .int a1), (2, .int a2), (3, .int x3)]) (h : q_X3_drift_35 a1 a2 k e_2 S x3) : W p l e (rmk 1 40) s m args below meth c H locs 0 0 (Qv below shX 68 Z args s k) (F0 m 35 ls []) := by
  have g := gokX hi
  have hx := C.1.1
  have hb := C.1.2.1
  unfold q_X3_drift_35 at h
  refine lv_lconst (v := (lN 0)) hx hb dX3_drift_35 (by decide) ?_
  exact b_X3_drift_36 hi C he_2 _ _ _ _ _ _ hP hS (lv_sub hl [0, 1, 2, 3] rfl) h
def q_X3_drift_2 (a1 : Int32) (a2 : Int32) (k : St → Prop) : Nat → St → Int32 → Prop := fun n_ => Nat.rec (motive := fun _ => St → Int32 → Prop) (fun _ _ => False) (fun _ ih => fun S x3 => ((nI 100) ≤ x3 → (∀ S_2 : St, S_2 = sG S 31 (va_cpy (S.2 32) (S.2 31) 0 0 (nI 100).toNatClampNeg) → (k S_2))) ∧ (¬ (nI 100) ≤ x3 → (∀ x4_3 : Int32, x4_3 = (x3 - a1) → ((x4_3 < (nI 0) → (q_X3_drift_35 a1 a2 k ih S x3)) ∧ (¬ x4_3 < (nI 0) → (((nI 100) ≤ x4_3 → (q_X3_drift_35 a1 a2 k ih S x3)) ∧ (¬ (nI 100) ≤ x4_3 → (vp_in x4_3 100 ∧ (q_X3_drift_36 a1 a2 k ih S x3 (S.2 31 x4_3.toNatClampNeg)))))))))) n_
theorem q_X3_drift_2_s (a1 : Int32) (a2 : Int32) (k : St → Prop) (n_ : Nat) (S : St) (x3 : Int32) : q_X3_drift_2 a1 a2 k (n_ + 1) S x3 = (((nI 100) ≤ x3 → (∀ S_2 : St, S_2 = sG S 31 (va_cpy (S.2 32) (S.2 31) 0 0 (nI 100).toNatClampNeg) → (k S_2))) ∧ (¬ (nI 100) ≤ x3 → (∀ x4_3 : Int32, x4_3 = (x3 - a1) → ((x4_3 < (nI 0) → (q_X3_drift_35 a1 a2 k (q_X3_drift_2 a1 a2 k n_) S x3)) ∧ (¬ x4_3 < (nI 0) → (((nI 100) ≤ x4_3 → (q_X3_drift_35 a1 a2 k (q_X3_drift_2 a1 a2 k n_) S x3)) ∧ (¬ (nI 100) ≤ x4_3 → (vp_in x4_3 100 ∧ (q_X3_drift_36 a1 a2 k (q_X3_drift_2 a1 a2 k n_) S x3 (S.2 31 x4_3.toNatClampNeg)))))))))) := rfl
set_option maxRecDepth 100000 in
set_option maxHeartbeats 4000000 in
theorem b_X3_drift_2 {p : Program} {l : Launch} {e : Env} {s : State} {m : MethodId} {args : Array Value} {below : List Frame} {meth : Method} {c : Code} {Z : ZT} (hi : injZ 68 Z) (C : Cxt (gX Z) p s m meth c args yX3_drift cX3_drift 7 none) {a1 : Int32} {a2 : Int32} {k : St → Prop}   : ∀ (n_ : Nat) (S : St) (x3 : Int32) (H : Heap) (locs : List Loc) (ls : Array Slot), va_P Z.1 vwCl (wl shX 68 Z S) H → va_S (aa 68 Z) s.heap H locs → lv_has ls 7 [(0, .ref (Z.2.2.1 30)), (1, .int a1), (2, .int a2), (3, .int x3)] → q_X3_drift_2 a1 a2 k n_ S x3 → W p l e (rmk 1 40) s m args below meth c H locs 0 0 (Qv below shX 68 Z args s k) (F0 m 2 ls []) := by
  have g := gokX hi
  have hx := C.1.1
  have hb := C.1.2.1
  intro n_
  induction n_ with
  | zero => intro S x3 H locs ls hP hS hl h; exact h.elim
  | succ n_ ih =>
    intro S x3 H locs ls hP hS hl h
    rw [q_X3_drift_2_s] at h
    refine lv_iload_n hx hb dX3_drift_2 rfl (lv_at hl 3 rfl) ?_
    refine lv_bipush (v := (nI 100)) hx hb dX3_drift_3 (by decide) ?_
    refine lv_icmp_ge (tgt := 68) hx hb dX3_drift_5 (by decide) (fun c_1 => ?_) (fun c_1 => ?_)
    · have h := h.1 c_1
      refine lv_aload_n hx hb dX3_drift_68 rfl (lv_at hl 0 rfl) ?_
      refine s_gR g C hP 30 1 32 (by decide) rfl rfl cfX3 (by decide) kFL_X3_15 dX3_drift_69 ?_
      refine lv_iconst (v := (nI 0)) hx hb dX3_drift_72 (by decide) ?_
      refine lv_aload_n hx hb dX3_drift_73 rfl (lv_at hl 0 rfl) ?_
      refine s_gR g C hP 30 0 31 (by decide) rfl rfl cfX3 (by decide) kFL_X3_9 dX3_drift_74 ?_
      refine lv_iconst (v := (nI 0)) hx hb dX3_drift_77 (by decide) ?_
      refine lv_bipush (v := (nI 100)) hx hb dX3_drift_78 (by decide) ?_
      refine s_cpJ g C hP hS hl.1 kML_X3_32 32 31 (by decide) (by decide) rfl rfl (by decide) (by decide) (by decide) ⟨Nat.le_of_ble_eq_true rfl, Nat.le_of_ble_eq_true rfl⟩ dX3_drift_80 (fun H locs hP hS => ?_)
      obtain ⟨S_2, eS_2⟩ : ∃ z_ : St, z_ = sG S 31 (va_cpy (S.2 32) (S.2 31) 0 0 (nI 100).toNatClampNeg) := ⟨_, rfl⟩
      rw [← eS_2] at hP
      have h := h S_2 eS_2
      exact s_rv C hP hS h dX3_drift_83
    · have h := h.2 c_1
      refine lv_iload_n hx hb dX3_drift_8 rfl (lv_at hl 3 rfl) ?_
      refine lv_iload_n hx hb dX3_drift_9 rfl (lv_at hl 1 rfl) ?_
      refine lv_isub hx hb dX3_drift_10 ?_
      refine lv_topi (fun x4_3 ex4_3 => ?_)
      have h := h x4_3 ex4_3
      refine lv_istore (lv' := [(4, .int x4_3), (0, .ref (Z.2.2.1 30)), (1, .int a1), (2, .int a2), (3, .int x3)]) hx hb dX3_drift_11 hl (by decide) rfl (fun ls hl => ?_)
      refine lv_iload hx hb dX3_drift_13 (lv_at hl 0 rfl) ?_
      refine lv_if_lt (tgt := 35) hx hb dX3_drift_15 (by decide) (fun c_4 => ?_) (fun c_4 => ?_)
      · have h := h.1 c_4
        exact b_X3_drift_35 hi C ih _ _ _ _ _ hP hS (lv_sub hl [1, 2, 3, 4] rfl) h
      · have h := h.2 c_4
        refine lv_iload hx hb dX3_drift_18 (lv_at hl 0 rfl) ?_
        refine lv_bipush (v := (nI 100)) hx hb dX3_drift_20 (by decide) ?_
        refine lv_icmp_ge (tgt := 35) hx hb dX3_drift_22 (by decide) (fun c_5 => ?_) (fun c_5 => ?_)
        · have h := h.1 c_5
          exact b_X3_drift_35 hi C ih _ _ _ _ _ hP hS (lv_sub hl [1, 2, 3, 4] rfl) h
        · have h := h.2 c_5
          refine lv_aload_n hx hb dX3_drift_25 rfl (lv_at hl 1 rfl) ?_
          refine s_gR g C hP 30 0 31 (by decide) rfl rfl cfX3 (by decide) kFL_X3_9 dX3_drift_26 ?_
          refine lv_iload hx hb dX3_drift_29 (lv_at hl 0 rfl) ?_
          have hv_6 := h.1
          have h := h.2
          refine s_aJ g C hP 31 (by decide) rfl hv_6 dX3_drift_31 ?_
          refine lv_goto (tgt := 36) hx hb dX3_drift_32 (by decide) ?_
          exact b_X3_drift_36 hi C ih _ _ _ _ _ _ hP hS (lv_sub hl [1, 2, 3, 4] rfl) h
def q_X3_drift (S : St) (a1 : Int32) (a2 : Int32) (k : St → Prop) : Prop := ∃ f_2, q_X3_drift_2 a1 a2 k f_2 S (nI 0)
set_option maxRecDepth 100000 in
set_option maxHeartbeats 4000000 in
theorem c_X3_drift {l : Launch} {Z : ZT} (hi : injZ 68 Z) (S : St) (a1 : Int32) (a2 : Int32) (k : St → Prop) (h : q_X3_drift S a1 a2 k) : Mv l shX 68 Z (gX Z) yX3_drift cX3_drift 7 none (rmk 1 40) [.ref (Z.2.2.1 30), .int a1, .int a2] S k := by
  have g := gokX hi
  refine e_v (by decide) (Nat.le_of_ble_eq_true rfl) (lv := [(0, .ref (Z.2.2.1 30)), (1, .int a1), (2, .int a2)]) rfl (fun p e s m args below meth c C hP hS ls hl => ?_)
  have hx := C.1.1
  have hb := C.1.2.1
  unfold q_X3_drift at h
  refine lv_iconst (v := (nI 0)) hx hb dX3_drift_0 (by decide) ?_
  refine lv_istore_n (lv' := [(3, .int (nI 0)), (0, .ref (Z.2.2.1 30)), (1, .int a1), (2, .int a2)]) hx hb dX3_drift_1 rfl hl (by decide) rfl (fun ls hl => ?_)
  obtain ⟨f_2, h⟩ := h
  exact b_X3_drift_2 hi C  f_2 _ _ _ _ _ hP hS (lv_sub hl [1, 2, 3, 0] rfl) h
