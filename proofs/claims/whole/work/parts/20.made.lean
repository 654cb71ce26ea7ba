/-! ===== the made world of the class, as the picture ===== -/
def adX (h0 : Nat) (qs : Nat → Nat) (c : Nat) : Nat := [h0, (qs 0), (qs 1), (qs 2), (qs 3), (qs 4), (qs 5), (qs 6), (qs 7), (qs 8), (qs 9), (qs 10), (qs 11), (qs 12), (qs 13), (qs 14), (qs 15), (qs 16), (qs 17), (qs 18), (qs 19), (qs 20), (qs 21), (qs 43), (qs 44), (qs 45), (qs 46), (qs 47), (qs 48), (qs 49), (qs 50), (qs 51), (qs 52), (qs 22), (qs 23), (qs 24), (qs 25), (qs 26), (qs 27), (qs 28), (qs 29), (qs 30), (qs 31), (qs 32), (qs 33), (qs 34), (qs 35), (qs 36), (qs 37), (qs 38), (qs 39), (qs 40), (qs 41), (qs 42), (qs 53), (qs 54), (qs 55), (qs 56), (qs 57), (qs 58), (qs 59), (qs 60), (qs 61), (qs 62), (qs 63), (qs 64), (qs 65), (qs 66)].getD c 0
def plX : List Nat := [0, 1, 2, 3, 4, 5, 6, 7, 8, 9, 10, 11, 12, 13, 14, 15, 16, 17, 18, 19, 20, 21, 22, 44, 45, 46, 47, 48, 49, 50, 51, 52, 53, 23, 24, 25, 26, 27, 28, 29, 30, 31, 32, 33, 34, 35, 36, 37, 38, 39, 40, 41, 42, 43, 54, 55, 56, 57, 58, 59, 60, 61, 62, 63, 64, 65, 66, 67]
def S0X : St := (fun c k => if c = 4 then (if k = 5 then 30 else 0) else 0, fun _ _ => 0)
def S0M : St := (fun c k => if c = 0 then (if k = 6 then 30 else 0) else 0, fun _ _ => 0)
theorem arr_q {cA : ClassId} {n : Nat} {f g : Nat → Option Nat} (h : ∀ j, j < n → f j = g j) : vp_cell cA (n, .inr (.inr (.inr (.inr f)))) = vp_cell cA (n, .inr (.inr (.inr (.inr g)))) := by
  rw [vp_cell_q, vp_cell_q]
  have e : (fun j : Fin n => va_rf (f j.val)) = fun j : Fin n => va_rf (g j.val) := funext fun j => by rw [h j.val j.isLt]
  unfold arrV
  rw [e]
set_option maxRecDepth 100000 in
set_option maxHeartbeats 4000000 in
theorem mkPX {D : va_G} {cy : Nat → ClassId} {adS : Nat → Nat} {h0 : Nat} {qs : Nat → Nat} {H : Heap} (hP : va_P D vwCl (wf_X8 cy h0 qs) H) : ∀ k, k < 68 → va_at D vwCl (adX h0 qs k, cel cy (adX h0 qs) S0X k (shX k)) H := by
  intro k hk
  match k, hk with
  | 0, _ => exact hP 0 _ rfl
  | 1, _ => exact hP 1 _ rfl
  | 2, _ => exact hP 2 _ rfl
  | 3, _ => exact hP 3 _ rfl
  | 4, _ => exact hP 4 _ rfl
  | 5, _ => exact (hP 5 _ rfl).trans (congrArg some (arr_q (n := 6) (fun j hj => (match j, hj with
      | 0, _ => rfl
      | 1, _ => rfl
      | 2, _ => rfl
      | 3, _ => rfl
      | 4, _ => rfl
      | 5, _ => rfl
      | j + 6, h => absurd h (by omega)))))
  | 6, _ => exact (hP 6 _ rfl).trans (congrArg some (arr_q (n := 4) (fun j hj => (match j, hj with
      | 0, _ => rfl
      | 1, _ => rfl
      | 2, _ => rfl
      | 3, _ => rfl
      | j + 4, h => absurd h (by omega)))))
  | 7, _ => exact hP 7 _ rfl
  | 8, _ => exact hP 8 _ rfl
  | 9, _ => exact hP 9 _ rfl
  | 10, _ => exact hP 10 _ rfl
  | 11, _ => exact hP 11 _ rfl
  | 12, _ => exact hP 12 _ rfl
  | 13, _ => exact hP 13 _ rfl
  | 14, _ => exact hP 14 _ rfl
  | 15, _ => exact hP 15 _ rfl
  | 16, _ => exact hP 16 _ rfl
  | 17, _ => exact hP 17 _ rfl
  | 18, _ => exact hP 18 _ rfl
  | 19, _ => exact hP 19 _ rfl
  | 20, _ => exact hP 20 _ rfl
  | 21, _ => exact hP 21 _ rfl
  | 22, _ => exact hP 22 _ rfl
  | 23, _ => exact (hP 44 _ rfl).trans (congrArg some (arr_q (n := 2) (fun j hj => (match j, hj with
      | 0, _ => rfl
      | 1, _ => rfl
      | j + 2, h => absurd h (by omega)))))
  | 24, _ => exact hP 45 _ rfl
  | 25, _ => exact hP 46 _ rfl
  | 26, _ => exact hP 47 _ rfl
  | 27, _ => exact hP 48 _ rfl
  | 28, _ => exact hP 49 _ rfl
  | 29, _ => exact hP 50 _ rfl
  | 30, _ => exact hP 51 _ rfl
  | 31, _ => exact hP 52 _ rfl
  | 32, _ => exact hP 53 _ rfl
  | 33, _ => exact hP 23 _ rfl
  | 34, _ => exact hP 24 _ rfl
  | 35, _ => exact hP 25 _ rfl
  | 36, _ => exact hP 26 _ rfl
  | 37, _ => exact hP 27 _ rfl
  | 38, _ => exact hP 28 _ rfl
  | 39, _ => exact hP 29 _ rfl
  | 40, _ => exact hP 30 _ rfl
  | 41, _ => exact hP 31 _ rfl
  | 42, _ => exact hP 32 _ rfl
  | 43, _ => exact hP 33 _ rfl
  | 44, _ => exact hP 34 _ rfl
  | 45, _ => exact hP 35 _ rfl
  | 46, _ => exact hP 36 _ rfl
  | 47, _ => exact hP 37 _ rfl
  | 48, _ => exact hP 38 _ rfl
  | 49, _ => exact hP 39 _ rfl
  | 50, _ => exact hP 40 _ rfl
  | 51, _ => exact hP 41 _ rfl
  | 52, _ => exact hP 42 _ rfl
  | 53, _ => exact hP 43 _ rfl
  | 54, _ => exact hP 54 _ rfl
  | 55, _ => exact hP 55 _ rfl
  | 56, _ => exact hP 56 _ rfl
  | 57, _ => exact hP 57 _ rfl
  | 58, _ => exact hP 58 _ rfl
  | 59, _ => exact hP 59 _ rfl
  | 60, _ => exact hP 60 _ rfl
  | 61, _ => exact hP 61 _ rfl
  | 62, _ => exact hP 62 _ rfl
  | 63, _ => exact hP 63 _ rfl
  | 64, _ => exact hP 64 _ rfl
  | 65, _ => exact hP 65 _ rfl
  | 66, _ => exact hP 66 _ rfl
  | 67, _ => exact hP 67 _ rfl
  | k + 68, h => exact absurd h (by omega)
theorem mkPX_P {D : va_G} {cy : Nat → ClassId} {adS : Nat → Nat} {h0 : Nat} {qs : Nat → Nat} {H : Heap} (hP : va_P D vwCl (wf_X8 cy h0 qs) H) : va_P D vwCl (wl shX 68 (D, cy, adX h0 qs, adS) S0X) H := by
  intro k q hk
  have hk1 : k < 68 := by
    have := (List.getElem?_eq_some_iff.mp hk).1
    simpa [wl] using this
  rw [wl_get hk1] at hk
  cases hk
  exact mkPX (adS := adS) hP k hk1
set_option maxRecDepth 100000 in
set_option maxHeartbeats 4000000 in
theorem mkDX {cy : Nat → ClassId} {h0 : Nat} {qs : Nat → Nat} : ∀ k, k < 68 → ∃ e, (wf_X8 cy h0 qs)[plX.getD k 0]? = some (adX h0 qs k, e) := by
  intro k hk
  match k, hk with
  | 0, _ => exact ⟨_, rfl⟩
  | 1, _ => exact ⟨_, rfl⟩
  | 2, _ => exact ⟨_, rfl⟩
  | 3, _ => exact ⟨_, rfl⟩
  | 4, _ => exact ⟨_, rfl⟩
  | 5, _ => exact ⟨_, rfl⟩
  | 6, _ => exact ⟨_, rfl⟩
  | 7, _ => exact ⟨_, rfl⟩
  | 8, _ => exact ⟨_, rfl⟩
  | 9, _ => exact ⟨_, rfl⟩
  | 10, _ => exact ⟨_, rfl⟩
  | 11, _ => exact ⟨_, rfl⟩
  | 12, _ => exact ⟨_, rfl⟩
  | 13, _ => exact ⟨_, rfl⟩
  | 14, _ => exact ⟨_, rfl⟩
  | 15, _ => exact ⟨_, rfl⟩
  | 16, _ => exact ⟨_, rfl⟩
  | 17, _ => exact ⟨_, rfl⟩
  | 18, _ => exact ⟨_, rfl⟩
  | 19, _ => exact ⟨_, rfl⟩
  | 20, _ => exact ⟨_, rfl⟩
  | 21, _ => exact ⟨_, rfl⟩
  | 22, _ => exact ⟨_, rfl⟩
  | 23, _ => exact ⟨_, rfl⟩
  | 24, _ => exact ⟨_, rfl⟩
  | 25, _ => exact ⟨_, rfl⟩
  | 26, _ => exact ⟨_, rfl⟩
  | 27, _ => exact ⟨_, rfl⟩
  | 28, _ => exact ⟨_, rfl⟩
  | 29, _ => exact ⟨_, rfl⟩
  | 30, _ => exact ⟨_, rfl⟩
  | 31, _ => exact ⟨_, rfl⟩
  | 32, _ => exact ⟨_, rfl⟩
  | 33, _ => exact ⟨_, rfl⟩
  | 34, _ => exact ⟨_, rfl⟩
  | 35, _ => exact ⟨_, rfl⟩
  | 36, _ => exact ⟨_, rfl⟩
  | 37, _ => exact ⟨_, rfl⟩
  | 38, _ => exact ⟨_, rfl⟩
  | 39, _ => exact ⟨_, rfl⟩
  | 40, _ => exact ⟨_, rfl⟩
  | 41, _ => exact ⟨_, rfl⟩
  | 42, _ => exact ⟨_, rfl⟩
  | 43, _ => exact ⟨_, rfl⟩
  | 44, _ => exact ⟨_, rfl⟩
  | 45, _ => exact ⟨_, rfl⟩
  | 46, _ => exact ⟨_, rfl⟩
  | 47, _ => exact ⟨_, rfl⟩
  | 48, _ => exact ⟨_, rfl⟩
  | 49, _ => exact ⟨_, rfl⟩
  | 50, _ => exact ⟨_, rfl⟩
  | 51, _ => exact ⟨_, rfl⟩
  | 52, _ => exact ⟨_, rfl⟩
  | 53, _ => exact ⟨_, rfl⟩
  | 54, _ => exact ⟨_, rfl⟩
  | 55, _ => exact ⟨_, rfl⟩
  | 56, _ => exact ⟨_, rfl⟩
  | 57, _ => exact ⟨_, rfl⟩
  | 58, _ => exact ⟨_, rfl⟩
  | 59, _ => exact ⟨_, rfl⟩
  | 60, _ => exact ⟨_, rfl⟩
  | 61, _ => exact ⟨_, rfl⟩
  | 62, _ => exact ⟨_, rfl⟩
  | 63, _ => exact ⟨_, rfl⟩
  | 64, _ => exact ⟨_, rfl⟩
  | 65, _ => exact ⟨_, rfl⟩
  | 66, _ => exact ⟨_, rfl⟩
  | 67, _ => exact ⟨_, rfl⟩
  | k + 68, h => exact absurd h (by omega)
theorem plX_inj : ∀ i, i < 68 → ∀ j, j < 68 → plX.getD i 0 = plX.getD j 0 → i = j := by decide +kernel
theorem mkIX {D : va_G} {cy : Nat → ClassId} {adS : Nat → Nat} {h0 : Nat} {qs : Nat → Nat} {A : Nat → Prop} (hD : va_D A (wf_X8 cy h0 qs)) : injZ 68 (D, cy, adX h0 qs, adS) ∧ ∀ c, c < 68 → A (adX h0 qs c) := by
  refine ⟨fun i j hi hj h => ?_, fun c hc => ?_⟩
  · obtain ⟨e1, h1⟩ := mkDX (cy := cy) (h0 := h0) (qs := qs) i hi
    obtain ⟨e2, h2⟩ := mkDX (cy := cy) (h0 := h0) (qs := qs) j hj
    exact plX_inj i hi j hj (hD.1 _ _ _ _ h1 h2 h)
  · obtain ⟨e1, h1⟩ := mkDX (cy := cy) (h0 := h0) (qs := qs) c hc
    exact hD.2 _ _ h1
/-! ===== the reference's constructor ===== -/
def wf_X9 (cy : Nat → ClassId) (h0 : Nat) (qs : Nat → Nat) : va_W := [(h0, .inr (9, [.ref (qs 0), .int 0, .ref (qs 1), .int 0, .ref (qs 2), .int 0, .int (nI 30), .int 0, .int 0, .int 0, .ref (qs 3), .int 0, .int 0, .long 0, .int 0, .int 0, .int 0, .int 0, .ref (qs 4), .ref (qs 5), .ref (qs 6), .ref (qs 7), .ref (qs 8), .int 0])), ((qs 0), .inl (cy 0, 96, .inl (fun _ => 0))), ((qs 1), .inl (cy 0, 30, .inl (fun _ => 0))), ((qs 2), .inl (cy 0, 20, .inl (fun _ => 0))), ((qs 3), .inl (cy 0, 200, .inl (fun _ => 0))), ((qs 4), .inl (cy 0, 70, .inl (fun _ => 0))), ((qs 5), .inl (cy 0, 1197, .inl (fun _ => 0))), ((qs 6), .inl (cy 0, 1197, .inl (fun _ => 0))), ((qs 7), .inl (cy 0, 2394, .inl (fun _ => 0))), ((qs 8), .inl (cy 2, 2, .inl (fun _ => 0)))]
def adM (h0 : Nat) (qs : Nat → Nat) (c : Nat) : Nat := match c with
  | 0 => h0
  | c + 1 => qs c
theorem mkPM {D : va_G} {cy : Nat → ClassId} {adS : Nat → Nat} {h0 : Nat} {qs : Nat → Nat} {H : Heap} (hP : va_P D vwCl (wf_X9 cy h0 qs) H) : va_P D vwCl (wl shM 10 (D, cy, adM h0 qs, adS) S0M) H := by
  intro k q hk
  have hk1 : k < 10 := by
    have := (List.getElem?_eq_some_iff.mp hk).1
    simpa [wl] using this
  rw [wl_get hk1] at hk
  cases hk
  match k, hk1 with
  | 0, _ => exact hP 0 _ rfl
  | 1, _ => exact hP 1 _ rfl
  | 2, _ => exact hP 2 _ rfl
  | 3, _ => exact hP 3 _ rfl
  | 4, _ => exact hP 4 _ rfl
  | 5, _ => exact hP 5 _ rfl
  | 6, _ => exact hP 6 _ rfl
  | 7, _ => exact hP 7 _ rfl
  | 8, _ => exact hP 8 _ rfl
  | 9, _ => exact hP 9 _ rfl
  | k + 10, h => exact absurd h (by omega)
theorem mkIM {D : va_G} {cy : Nat → ClassId} {adS : Nat → Nat} {h0 : Nat} {qs : Nat → Nat} {A : Nat → Prop} (hD : va_D A (wf_X9 cy h0 qs)) : injZ 10 (D, cy, adM h0 qs, adS) ∧ ∀ c, c < 10 → A (adM h0 qs c) := by
  have key : ∀ k, k < 10 → ∃ e, (wf_X9 cy h0 qs)[k]? = some (adM h0 qs k, e) := by
    intro k hk
    match k, hk with
    | 0, _ => exact ⟨_, rfl⟩
    | 1, _ => exact ⟨_, rfl⟩
    | 2, _ => exact ⟨_, rfl⟩
    | 3, _ => exact ⟨_, rfl⟩
    | 4, _ => exact ⟨_, rfl⟩
    | 5, _ => exact ⟨_, rfl⟩
    | 6, _ => exact ⟨_, rfl⟩
    | 7, _ => exact ⟨_, rfl⟩
    | 8, _ => exact ⟨_, rfl⟩
    | 9, _ => exact ⟨_, rfl⟩
    | k + 10, h => exact absurd h (by omega)
  refine ⟨fun i j hi hj h => ?_, fun c hc => ?_⟩
  · obtain ⟨e1, h1⟩ := key i hi
    obtain ⟨e2, h2⟩ := key j hj
    exact hD.1 _ _ _ _ h1 h2 h
  · obtain ⟨e1, h1⟩ := key c hc
    exact hD.2 _ _ h1
/-! ===== calls from outside of a side ===== -/
section XC
variable {p : Program} {l : Launch} {e : Env} {R : Room} {s : State} {m : MethodId} {args : Array Value} {below : List Frame} {meth : Method} {c : Code} {H : Heap} {locs : List Loc} {cells slots : Nat} {Q : State → Prop}
variable {cc : ByteArray} {pc nL index : Nat} {ls : Array Slot} {rest st0 As : List Value} {G : State → Prop} {sh : Nat → Dsc} {N : Nat} {Z : ZT} {S : St} {own : String} {Ts : List Cond} {A0 : Nat → Prop}
variable {y2 : MethodName} {cc2 : ByteArray} {nL2 n2 c0 ci n : Nat} {ret2 : Option FieldType} {rm2 : Room} {fl : List Nat} {T : u_T} {ty : Nat → FieldType} {wo : va_W}
theorem x_V {Qc : Array Value → State → Outcome → State → Prop} (g : GOK N Z G) (F : CallFix p m c cc nL s args Ts own) (hT : ∀ w ∈ BIG, w ∈ Ts) (hK : va_K Z.1 vwCl (tysG Z.2.1) s) (hP : va_P Z.1 vwCl (wl sh N Z S) H) (hG : ∀ U : State, U.heap = H → s.WarmedH U.vm → G U) (hM : Met l y2 (wy y2 cc2 nL2 ret2) rm2 (Pd sh N Z G (.ref (Z.2.2.1 c0) :: As) S) Qc 0 0 (aa N Z))
    (cv : CalV y2 cc2 nL2 ret2 n2) (hlk : Cond.methodLink own index y2 ∈ BIG) (hc : c0 < N) (hs : sh c0 = .inl (ci, fl)) (cf : ClsF ci y2.cls T n ty) (hrm : Rms rm2 R nL2) (hn : As.length = n2) (hst : st0 = As.reverse ++ .ref (Z.2.2.1 c0) :: rest) (hl : ls.size = nL) (hw : (rest.map fun v => v.category).sum ≤ 8) (hcs : cells ≤ R.cells ∧ slots ≤ R.slots) (hdg : decode cc pc = .ok (.invokevirtual index, 3)) :
    va_Run p l e R s m args below meth c H locs cells slots 0 0 (F0 m pc ls st0) rest (Qc (Value.ref (Z.2.2.1 c0) :: As).toArray) (aa N Z) := by
  obtain ⟨hx, hb, hml, ho, hts⟩ := F
  obtain ⟨a1, a2, a3, a4, a5⟩ := cv
  obtain ⟨r1, r2, r3, r4⟩ := hrm
  have hin : ∀ w ∈ BIG, w.before args s = true := fun w h => hts w (hT w h)
  have hgd : GoodIn Ts (wy y2 cc2 nL2 ret2) := by
    intro w hw
    rcases List.mem_cons.mp hw with rfl | hw
    · exact ⟨hT _ a1, good_of_word (List.mem_filter.mp a1).2⟩
    · exact ⟨hT _ hw, good_of_word (List.mem_filter.mp hw).2⟩
  have hB : CallB R s args own index y2 cc2 nL2 ret2 (wy y2 cc2 nL2 ret2) rm2 0 0 n2 := callB_of n2 hts hgd rfl r1 r2 (hin _ a4) (hin _ hlk) a5 ⟨r3, r4⟩
  exact va_runV (C := y2.cls) ⟨hx, hb, hml, ho, hts⟩ hM ⟨hB, hin _ a2, hin _ a3⟩ ⟨fun a U gg mk h => ⟨h.1, h.2.1, g.2.2.2 U gg mk a h.2.2⟩, va_recv hK hP cf.1 (by rw [wl_get hc, hs]; rfl), fun U hU hW => ⟨rfl, by rw [hU]; exact hP, hG U hU hW⟩⟩ rfl hn hl hst (lv_room hw) hdg hcs
theorem x_i {k : Int32 → St → Prop} {a : Array Value} (hr : va_Run p l e R s m args below meth c H locs cells slots 0 0 (F0 m pc ls st0) rest (va_Qi k (Bd sh N Z) (aa N Z) a) (aa N Z)) (hS : va_S A0 s.heap H locs) (hA : ∀ q, aa N Z q → A0 q) (hPo : va_P Z.1 vwCl wo H) (hdis : ∀ (k : Nat) (q : Nat × va_E), wo[k]? = some q → ¬ aa N Z q.1)
    (kk : ∀ (r : Int32) (S : St) (H : Heap) (locs : List Loc), k r S → va_P Z.1 vwCl (wl sh N Z S) H → va_P Z.1 vwCl wo H → va_S A0 s.heap H locs → W p l e R s m args below meth c H locs cells slots Q (F0 m (pc + 3) ls (.int r :: rest))) : W p l e R s m args below meth c H locs cells slots Q (F0 m pc ls st0) :=
  va_calli hr hS (fun q _ h => hA q h) hA (fun r u t H1 locs1 ht _ hp hB _ hk1 hS1 => kk r u H1 locs1 hp (by unfold Bd at hB; rw [ht] at hB; exact hB) (hPo.kept (fun k q hk => hk1 q.1 (hPo k q hk).lt (hdis k q hk))) hS1)
theorem x_l {k : Int64 → St → Prop} {a : Array Value} (hr : va_Run p l e R s m args below meth c H locs cells slots 0 0 (F0 m pc ls st0) rest (va_Ql k (Bd sh N Z) (aa N Z) a) (aa N Z)) (hS : va_S A0 s.heap H locs) (hA : ∀ q, aa N Z q → A0 q) (hPo : va_P Z.1 vwCl wo H) (hdis : ∀ (k : Nat) (q : Nat × va_E), wo[k]? = some q → ¬ aa N Z q.1)
    (kk : ∀ (r : Int64) (S : St) (H : Heap) (locs : List Loc), k r S → va_P Z.1 vwCl (wl sh N Z S) H → va_P Z.1 vwCl wo H → va_S A0 s.heap H locs → W p l e R s m args below meth c H locs cells slots Q (F0 m (pc + 3) ls (.long r :: rest))) : W p l e R s m args below meth c H locs cells slots Q (F0 m pc ls st0) :=
  va_calll hr hS (fun q _ h => hA q h) hA (fun r u t H1 locs1 ht _ hp hB _ hk1 hS1 => kk r u H1 locs1 hp (by unfold Bd at hB; rw [ht] at hB; exact hB) (hPo.kept (fun k q hk => hk1 q.1 (hPo k q hk).lt (hdis k q hk))) hS1)
theorem x_v {k : St → Prop} {a : Array Value} (hr : va_Run p l e R s m args below meth c H locs cells slots 0 0 (F0 m pc ls st0) rest (va_Qv k (Bd sh N Z) (aa N Z) a) (aa N Z)) (hS : va_S A0 s.heap H locs) (hA : ∀ q, aa N Z q → A0 q)
    (kk : ∀ (S : St) (H : Heap) (locs : List Loc), k S → va_P Z.1 vwCl (wl sh N Z S) H → va_S A0 s.heap H locs → W p l e R s m args below meth c H locs cells slots Q (F0 m (pc + 3) ls rest)) : W p l e R s m args below meth c H locs cells slots Q (F0 m pc ls st0) :=
  va_callv hr hS (fun q _ h => hA q h) hA (fun u t H1 locs1 ht _ hp hB _ hk1 hS1 => kk u H1 locs1 hp (by unfold Bd at hB; rw [ht] at hB; exact hB) hS1)
end XC
def BM (D : va_G) (cy : Nat → ClassId) (adS : Nat → Nat) (A : Nat → Prop) (h0 : Nat) (u : (Nat → Nat) × St) (t : State) : Prop := u.1 0 = h0 ∧ injZ 10 (D, cy, u.1, adS) ∧ (∀ c, c < 10 → A (u.1 c)) ∧ va_P D vwCl (wl shM 10 (D, cy, u.1, adS) u.2) t.heap
set_option maxRecDepth 100000 in
set_option maxHeartbeats 4000000 in
theorem c_X9_init {l : Launch} (D : va_G) (cy : Nat → ClassId) (adS : Nat → Nat) (h0 sz : Nat) (k : St → Prop) (h : q_X9_begin S0M k) : Met l yX9_init (wy yX9_init cX9_init 1 none) ({ frames := 3, cells := 9, slots := 5206, locals := 64 }) (Pn D cy h0 sz (.inr (9, [.null, .int 0, .null, .int 0, .null, .int 0, .int 0, .int 0, .int 0, .int 0, .null, .int 0, .int 0, .long 0, .int 0, .int 0, .int 0, .int 0, .null, .null, .null, .null, .null, .int 0]))) (va_Qv (fun u : (Nat → Nat) × St => k u.2) (BM D cy adS (va_A [(h0, .inr (9, [.null, .int 0, .null, .int 0, .null, .int 0, .int 0, .int 0, .int 0, .int 0, .null, .int 0, .int 0, .long 0, .int 0, .int 0, .int 0, .int 0, .null, .null, .null, .null, .null, .int 0]))] sz) h0) (va_A [(h0, .inr (9, [.null, .int 0, .null, .int 0, .null, .int 0, .int 0, .int 0, .int 0, .int 0, .null, .int 0, .int 0, .long 0, .int 0, .int 0, .int 0, .int 0, .null, .null, .null, .null, .null, .int 0]))] sz)) 9 5206 (va_A [(h0, .inr (9, [.null, .int 0, .null, .int 0, .null, .int 0, .int 0, .int 0, .int 0, .int 0, .null, .int 0, .int 0, .long 0, .int 0, .int 0, .int 0, .int 0, .null, .null, .null, .null, .null, .int 0]))] sz) := by
  refine Met.ofW (cc := cX9_init) (maxL := 1) (ret := none) (by decide) rfl ?_
  intro p e s m args below meth c s₁ B hml hv
  obtain ⟨rfl, hsz, hP, hG⟩ := hv
  subst hsz
  rw [lg_entry_eq]
  have C : CI D cy p s m meth c _ yX9_init cX9_init 1 := ⟨⟨B.exec, B.bytes, hml, findClass_of_methodNamed B.named, atoms_spec (ws := wy yX9_init cX9_init 1 none) B.pre⟩, B.returns, B.notSynchronized, (name_of_methodNamed B.named B.method).1.trans rfl, hG⟩
  have hD : va_D (va_A [(h0, .inr (9, [.null, .int 0, .null, .int 0, .null, .int 0, .int 0, .int 0, .int 0, .int 0, .null, .int 0, .int 0, .long 0, .int 0, .int 0, .int 0, .int 0, .null, .null, .null, .null, .null, .int 0]))] s.heap.size) [(h0, .inr (9, [.null, .int 0, .null, .int 0, .null, .int 0, .int 0, .int 0, .int 0, .int 0, .null, .int 0, .int 0, .long 0, .int 0, .int 0, .int 0, .int 0, .null, .null, .null, .null, .null, .int 0]))] := va_D.one.self
  have hA : ∀ q, s.heap.size ≤ q → va_A [(h0, .inr (9, [.null, .int 0, .null, .int 0, .null, .int 0, .int 0, .int 0, .int 0, .int 0, .null, .int 0, .int 0, .long 0, .int 0, .int 0, .int 0, .int 0, .null, .null, .null, .null, .null, .int 0]))] s.heap.size q := fun q h => Or.inr h
  have hS : va_S (va_A [(h0, .inr (9, [.null, .int 0, .null, .int 0, .null, .int 0, .int 0, .int 0, .int 0, .int 0, .null, .int 0, .int 0, .long 0, .int 0, .int 0, .int 0, .int 0, .null, .null, .null, .null, .null, .int 0]))] s.heap.size) s.heap s.heap [] := va_S.rf
  have hl := lv_entry [.ref h0] (n := 1) (Nat.le_of_ble_eq_true rfl)
  generalize (lg_sl ([.ref h0]) ++ List.replicate (1 - (lg_sl ([.ref h0])).length) Slot.unset).toArray = ls at hl ⊢
  have hl : lv_has ls 1 [(0, .ref h0)] := hl
  generalize hAe : va_A [(h0, .inr (9, [.null, .int 0, .null, .int 0, .null, .int 0, .int 0, .int 0, .int 0, .int 0, .null, .int 0, .int 0, .long 0, .int 0, .int 0, .int 0, .int 0, .null, .null, .null, .null, .null, .int 0]))] s.heap.size = A at hD hA hS ⊢
  have hx := C.1.1
  have hb := C.1.2.1
  refine lv_aload_n hx hb dX9_init_0 rfl (lv_at hl 0 rfl) ?_
  refine n_obj C hl.1 kML_X9_1 ⟨Nat.le_of_ble_eq_true rfl, Nat.le_of_ble_eq_true rfl⟩ dX9_init_1 ?_
  refine lv_aload_n hx hb dX9_init_4 rfl (lv_at hl 0 rfl) ?_
  refine lv_bipush (v := (nI 96)) hx hb dX9_init_5 (by decide) ?_
  refine n_I C hA hP hD hS 96 (by decide) (by decide) (by decide) ⟨Nat.le_of_ble_eq_true rfl, Nat.le_of_ble_eq_true rfl⟩ dX9_init_7 (fun q1 H hP hD hS => ?_)
  have hP : va_P D vwCl [(h0, .inr (9, [.null, .int 0, .null, .int 0, .null, .int 0, .int 0, .int 0, .int 0, .int 0, .null, .int 0, .int 0, .long 0, .int 0, .int 0, .int 0, .int 0, .null, .null, .null, .null, .null, .int 0])), (q1, .inl (cy 0, 96, .inl (fun _ => 0)))] H := hP
  have hD : va_D A [(h0, .inr (9, [.null, .int 0, .null, .int 0, .null, .int 0, .int 0, .int 0, .int 0, .int 0, .null, .int 0, .int 0, .long 0, .int 0, .int 0, .int 0, .int 0, .null, .null, .null, .null, .null, .int 0])), (q1, .inl (cy 0, 96, .inl (fun _ => 0)))] := hD
  refine n_putF C hP hD hS 0 0 rfl cfX9 (by decide) rfl rfl rfl rfl (Nat.le_of_ble_eq_true rfl) kFL_X9_7 dX9_init_9 (fun H locs hP hD hS => ?_)
  have hP : va_P D vwCl [(h0, .inr (9, [.ref q1, .int 0, .null, .int 0, .null, .int 0, .int 0, .int 0, .int 0, .int 0, .null, .int 0, .int 0, .long 0, .int 0, .int 0, .int 0, .int 0, .null, .null, .null, .null, .null, .int 0])), (q1, .inl (cy 0, 96, .inl (fun _ => 0)))] H := hP
  have hD : va_D A [(h0, .inr (9, [.ref q1, .int 0, .null, .int 0, .null, .int 0, .int 0, .int 0, .int 0, .int 0, .null, .int 0, .int 0, .long 0, .int 0, .int 0, .int 0, .int 0, .null, .null, .null, .null, .null, .int 0])), (q1, .inl (cy 0, 96, .inl (fun _ => 0)))] := hD
  refine lv_aload_n hx hb dX9_init_12 rfl (lv_at hl 0 rfl) ?_
  refine lv_bipush (v := (nI 30)) hx hb dX9_init_13 (by decide) ?_
  refine n_I C hA hP hD hS 30 (by decide) (by decide) (by decide) ⟨Nat.le_of_ble_eq_true rfl, Nat.le_of_ble_eq_true rfl⟩ dX9_init_15 (fun q2 H hP hD hS => ?_)
  have hP : va_P D vwCl [(h0, .inr (9, [.ref q1, .int 0, .null, .int 0, .null, .int 0, .int 0, .int 0, .int 0, .int 0, .null, .int 0, .int 0, .long 0, .int 0, .int 0, .int 0, .int 0, .null, .null, .null, .null, .null, .int 0])), (q1, .inl (cy 0, 96, .inl (fun _ => 0))), (q2, .inl (cy 0, 30, .inl (fun _ => 0)))] H := hP
  have hD : va_D A [(h0, .inr (9, [.ref q1, .int 0, .null, .int 0, .null, .int 0, .int 0, .int 0, .int 0, .int 0, .null, .int 0, .int 0, .long 0, .int 0, .int 0, .int 0, .int 0, .null, .null, .null, .null, .null, .int 0])), (q1, .inl (cy 0, 96, .inl (fun _ => 0))), (q2, .inl (cy 0, 30, .inl (fun _ => 0)))] := hD
  refine n_putF C hP hD hS 0 2 rfl cfX9 (by decide) rfl rfl rfl rfl (Nat.le_of_ble_eq_true rfl) kFL_X9_13 dX9_init_17 (fun H locs hP hD hS => ?_)
  have hP : va_P D vwCl [(h0, .inr (9, [.ref q1, .int 0, .ref q2, .int 0, .null, .int 0, .int 0, .int 0, .int 0, .int 0, .null, .int 0, .int 0, .long 0, .int 0, .int 0, .int 0, .int 0, .null, .null, .null, .null, .null, .int 0])), (q1, .inl (cy 0, 96, .inl (fun _ => 0))), (q2, .inl (cy 0, 30, .inl (fun _ => 0)))] H := hP
  have hD : va_D A [(h0, .inr (9, [.ref q1, .int 0, .ref q2, .int 0, .null, .int 0, .int 0, .int 0, .int 0, .int 0, .null, .int 0, .int 0, .long 0, .int 0, .int 0, .int 0, .int 0, .null, .null, .null, .null, .null, .int 0])), (q1, .inl (cy 0, 96, .inl (fun _ => 0))), (q2, .inl (cy 0, 30, .inl (fun _ => 0)))] := hD
  refine lv_aload_n hx hb dX9_init_20 rfl (lv_at hl 0 rfl) ?_
  refine lv_bipush (v := (nI 20)) hx hb dX9_init_21 (by decide) ?_
  refine n_I C hA hP hD hS 20 (by decide) (by decide) (by decide) ⟨Nat.le_of_ble_eq_true rfl, Nat.le_of_ble_eq_true rfl⟩ dX9_init_23 (fun q3 H hP hD hS => ?_)
  have hP : va_P D vwCl [(h0, .inr (9, [.ref q1, .int 0, .ref q2, .int 0, .null, .int 0, .int 0, .int 0, .int 0, .int 0, .null, .int 0, .int 0, .long 0, .int 0, .int 0, .int 0, .int 0, .null, .null, .null, .null, .null, .int 0])), (q1, .inl (cy 0, 96, .inl (fun _ => 0))), (q2, .inl (cy 0, 30, .inl (fun _ => 0))), (q3, .inl (cy 0, 20, .inl (fun _ => 0)))] H := hP
  have hD : va_D A [(h0, .inr (9, [.ref q1, .int 0, .ref q2, .int 0, .null, .int 0, .int 0, .int 0, .int 0, .int 0, .null, .int 0, .int 0, .long 0, .int 0, .int 0, .int 0, .int 0, .null, .null, .null, .null, .null, .int 0])), (q1, .inl (cy 0, 96, .inl (fun _ => 0))), (q2, .inl (cy 0, 30, .inl (fun _ => 0))), (q3, .inl (cy 0, 20, .inl (fun _ => 0)))] := hD
  refine n_putF C hP hD hS 0 4 rfl cfX9 (by decide) rfl rfl rfl rfl (Nat.le_of_ble_eq_true rfl) kFL_X9_16 dX9_init_25 (fun H locs hP hD hS => ?_)
  have hP : va_P D vwCl [(h0, .inr (9, [.ref q1, .int 0, .ref q2, .int 0, .ref q3, .int 0, .int 0, .int 0, .int 0, .int 0, .null, .int 0, .int 0, .long 0, .int 0, .int 0, .int 0, .int 0, .null, .null, .null, .null, .null, .int 0])), (q1, .inl (cy 0, 96, .inl (fun _ => 0))), (q2, .inl (cy 0, 30, .inl (fun _ => 0))), (q3, .inl (cy 0, 20, .inl (fun _ => 0)))] H := hP
  have hD : va_D A [(h0, .inr (9, [.ref q1, .int 0, .ref q2, .int 0, .ref q3, .int 0, .int 0, .int 0, .int 0, .int 0, .null, .int 0, .int 0, .long 0, .int 0, .int 0, .int 0, .int 0, .null, .null, .null, .null, .null, .int 0])), (q1, .inl (cy 0, 96, .inl (fun _ => 0))), (q2, .inl (cy 0, 30, .inl (fun _ => 0))), (q3, .inl (cy 0, 20, .inl (fun _ => 0)))] := hD
  refine lv_aload_n hx hb dX9_init_28 rfl (lv_at hl 0 rfl) ?_
  refine lv_bipush (v := (nI 30)) hx hb dX9_init_29 (by decide) ?_
  refine n_put C hP hD hS 0 6 rfl cfX9 (by decide) rfl rfl rfl (Nat.le_of_ble_eq_true rfl) kFL_X9_19 dX9_init_31 (fun H locs hP hD hS => ?_)
  have hP : va_P D vwCl [(h0, .inr (9, [.ref q1, .int 0, .ref q2, .int 0, .ref q3, .int 0, .int (nI 30), .int 0, .int 0, .int 0, .null, .int 0, .int 0, .long 0, .int 0, .int 0, .int 0, .int 0, .null, .null, .null, .null, .null, .int 0])), (q1, .inl (cy 0, 96, .inl (fun _ => 0))), (q2, .inl (cy 0, 30, .inl (fun _ => 0))), (q3, .inl (cy 0, 20, .inl (fun _ => 0)))] H := hP
  have hD : va_D A [(h0, .inr (9, [.ref q1, .int 0, .ref q2, .int 0, .ref q3, .int 0, .int (nI 30), .int 0, .int 0, .int 0, .null, .int 0, .int 0, .long 0, .int 0, .int 0, .int 0, .int 0, .null, .null, .null, .null, .null, .int 0])), (q1, .inl (cy 0, 96, .inl (fun _ => 0))), (q2, .inl (cy 0, 30, .inl (fun _ => 0))), (q3, .inl (cy 0, 20, .inl (fun _ => 0)))] := hD
  refine lv_aload_n hx hb dX9_init_34 rfl (lv_at hl 0 rfl) ?_
  refine lv_sipush (v := (nI 200)) hx hb dX9_init_35 (by decide) ?_
  refine n_I C hA hP hD hS 200 (by decide) (by decide) (by decide) ⟨Nat.le_of_ble_eq_true rfl, Nat.le_of_ble_eq_true rfl⟩ dX9_init_38 (fun q4 H hP hD hS => ?_)
  have hP : va_P D vwCl [(h0, .inr (9, [.ref q1, .int 0, .ref q2, .int 0, .ref q3, .int 0, .int (nI 30), .int 0, .int 0, .int 0, .null, .int 0, .int 0, .long 0, .int 0, .int 0, .int 0, .int 0, .null, .null, .null, .null, .null, .int 0])), (q1, .inl (cy 0, 96, .inl (fun _ => 0))), (q2, .inl (cy 0, 30, .inl (fun _ => 0))), (q3, .inl (cy 0, 20, .inl (fun _ => 0))), (q4, .inl (cy 0, 200, .inl (fun _ => 0)))] H := hP
  have hD : va_D A [(h0, .inr (9, [.ref q1, .int 0, .ref q2, .int 0, .ref q3, .int 0, .int (nI 30), .int 0, .int 0, .int 0, .null, .int 0, .int 0, .long 0, .int 0, .int 0, .int 0, .int 0, .null, .null, .null, .null, .null, .int 0])), (q1, .inl (cy 0, 96, .inl (fun _ => 0))), (q2, .inl (cy 0, 30, .inl (fun _ => 0))), (q3, .inl (cy 0, 20, .inl (fun _ => 0))), (q4, .inl (cy 0, 200, .inl (fun _ => 0)))] := hD
  refine n_putF C hP hD hS 0 10 rfl cfX9 (by decide) rfl rfl rfl rfl (Nat.le_of_ble_eq_true rfl) kFL_X9_23 dX9_init_40 (fun H locs hP hD hS => ?_)
  have hP : va_P D vwCl [(h0, .inr (9, [.ref q1, .int 0, .ref q2, .int 0, .ref q3, .int 0, .int (nI 30), .int 0, .int 0, .int 0, .ref q4, .int 0, .int 0, .long 0, .int 0, .int 0, .int 0, .int 0, .null, .null, .null, .null, .null, .int 0])), (q1, .inl (cy 0, 96, .inl (fun _ => 0))), (q2, .inl (cy 0, 30, .inl (fun _ => 0))), (q3, .inl (cy 0, 20, .inl (fun _ => 0))), (q4, .inl (cy 0, 200, .inl (fun _ => 0)))] H := hP
  have hD : va_D A [(h0, .inr (9, [.ref q1, .int 0, .ref q2, .int 0, .ref q3, .int 0, .int (nI 30), .int 0, .int 0, .int 0, .ref q4, .int 0, .int 0, .long 0, .int 0, .int 0, .int 0, .int 0, .null, .null, .null, .null, .null, .int 0])), (q1, .inl (cy 0, 96, .inl (fun _ => 0))), (q2, .inl (cy 0, 30, .inl (fun _ => 0))), (q3, .inl (cy 0, 20, .inl (fun _ => 0))), (q4, .inl (cy 0, 200, .inl (fun _ => 0)))] := hD
  refine lv_aload_n hx hb dX9_init_43 rfl (lv_at hl 0 rfl) ?_
  refine lv_bipush (v := (nI 70)) hx hb dX9_init_44 (by decide) ?_
  refine n_I C hA hP hD hS 70 (by decide) (by decide) (by decide) ⟨Nat.le_of_ble_eq_true rfl, Nat.le_of_ble_eq_true rfl⟩ dX9_init_46 (fun q5 H hP hD hS => ?_)
  have hP : va_P D vwCl [(h0, .inr (9, [.ref q1, .int 0, .ref q2, .int 0, .ref q3, .int 0, .int (nI 30), .int 0, .int 0, .int 0, .ref q4, .int 0, .int 0, .long 0, .int 0, .int 0, .int 0, .int 0, .null, .null, .null, .null, .null, .int 0])), (q1, .inl (cy 0, 96, .inl (fun _ => 0))), (q2, .inl (cy 0, 30, .inl (fun _ => 0))), (q3, .inl (cy 0, 20, .inl (fun _ => 0))), (q4, .inl (cy 0, 200, .inl (fun _ => 0))), (q5, .inl (cy 0, 70, .inl (fun _ => 0)))] H := hP
  have hD : va_D A [(h0, .inr (9, [.ref q1, .int 0, .ref q2, .int 0, .ref q3, .int 0, .int (nI 30), .int 0, .int 0, .int 0, .ref q4, .int 0, .int 0, .long 0, .int 0, .int 0, .int 0, .int 0, .null, .null, .null, .null, .null, .int 0])), (q1, .inl (cy 0, 96, .inl (fun _ => 0))), (q2, .inl (cy 0, 30, .inl (fun _ => 0))), (q3, .inl (cy 0, 20, .inl (fun _ => 0))), (q4, .inl (cy 0, 200, .inl (fun _ => 0))), (q5, .inl (cy 0, 70, .inl (fun _ => 0)))] := hD
  refine n_putF C hP hD hS 0 18 rfl cfX9 (by decide) rfl rfl rfl rfl (Nat.le_of_ble_eq_true rfl) kFL_X9_26 dX9_init_48 (fun H locs hP hD hS => ?_)
  have hP : va_P D vwCl [(h0, .inr (9, [.ref q1, .int 0, .ref q2, .int 0, .ref q3, .int 0, .int (nI 30), .int 0, .int 0, .int 0, .ref q4, .int 0, .int 0, .long 0, .int 0, .int 0, .int 0, .int 0, .ref q5, .null, .null, .null, .null, .int 0])), (q1, .inl (cy 0, 96, .inl (fun _ => 0))), (q2, .inl (cy 0, 30, .inl (fun _ => 0))), (q3, .inl (cy 0, 20, .inl (fun _ => 0))), (q4, .inl (cy 0, 200, .inl (fun _ => 0))), (q5, .inl (cy 0, 70, .inl (fun _ => 0)))] H := hP
  have hD : va_D A [(h0, .inr (9, [.ref q1, .int 0, .ref q2, .int 0, .ref q3, .int 0, .int (nI 30), .int 0, .int 0, .int 0, .ref q4, .int 0, .int 0, .long 0, .int 0, .int 0, .int 0, .int 0, .ref q5, .null, .null, .null, .null, .int 0])), (q1, .inl (cy 0, 96, .inl (fun _ => 0))), (q2, .inl (cy 0, 30, .inl (fun _ => 0))), (q3, .inl (cy 0, 20, .inl (fun _ => 0))), (q4, .inl (cy 0, 200, .inl (fun _ => 0))), (q5, .inl (cy 0, 70, .inl (fun _ => 0)))] := hD
  refine lv_aload_n hx hb dX9_init_51 rfl (lv_at hl 0 rfl) ?_
  refine lv_sipush (v := (nI 1197)) hx hb dX9_init_52 (by decide) ?_
  refine n_I C hA hP hD hS 1197 (by decide) (by decide) (by decide) ⟨Nat.le_of_ble_eq_true rfl, Nat.le_of_ble_eq_true rfl⟩ dX9_init_55 (fun q6 H hP hD hS => ?_)
  have hP : va_P D vwCl [(h0, .inr (9, [.ref q1, .int 0, .ref q2, .int 0, .ref q3, .int 0, .int (nI 30), .int 0, .int 0, .int 0, .ref q4, .int 0, .int 0, .long 0, .int 0, .int 0, .int 0, .int 0, .ref q5, .null, .null, .null, .null, .int 0])), (q1, .inl (cy 0, 96, .inl (fun _ => 0))), (q2, .inl (cy 0, 30, .inl (fun _ => 0))), (q3, .inl (cy 0, 20, .inl (fun _ => 0))), (q4, .inl (cy 0, 200, .inl (fun _ => 0))), (q5, .inl (cy 0, 70, .inl (fun _ => 0))), (q6, .inl (cy 0, 1197, .inl (fun _ => 0)))] H := hP
  have hD : va_D A [(h0, .inr (9, [.ref q1, .int 0, .ref q2, .int 0, .ref q3, .int 0, .int (nI 30), .int 0, .int 0, .int 0, .ref q4, .int 0, .int 0, .long 0, .int 0, .int 0, .int 0, .int 0, .ref q5, .null, .null, .null, .null, .int 0])), (q1, .inl (cy 0, 96, .inl (fun _ => 0))), (q2, .inl (cy 0, 30, .inl (fun _ => 0))), (q3, .inl (cy 0, 20, .inl (fun _ => 0))), (q4, .inl (cy 0, 200, .inl (fun _ => 0))), (q5, .inl (cy 0, 70, .inl (fun _ => 0))), (q6, .inl (cy 0, 1197, .inl (fun _ => 0)))] := hD
  refine n_putF C hP hD hS 0 19 rfl cfX9 (by decide) rfl rfl rfl rfl (Nat.le_of_ble_eq_true rfl) kFL_X9_29 dX9_init_57 (fun H locs hP hD hS => ?_)
  have hP : va_P D vwCl [(h0, .inr (9, [.ref q1, .int 0, .ref q2, .int 0, .ref q3, .int 0, .int (nI 30), .int 0, .int 0, .int 0, .ref q4, .int 0, .int 0, .long 0, .int 0, .int 0, .int 0, .int 0, .ref q5, .ref q6, .null, .null, .null, .int 0])), (q1, .inl (cy 0, 96, .inl (fun _ => 0))), (q2, .inl (cy 0, 30, .inl (fun _ => 0))), (q3, .inl (cy 0, 20, .inl (fun _ => 0))), (q4, .inl (cy 0, 200, .inl (fun _ => 0))), (q5, .inl (cy 0, 70, .inl (fun _ => 0))), (q6, .inl (cy 0, 1197, .inl (fun _ => 0)))] H := hP
  have hD : va_D A [(h0, .inr (9, [.ref q1, .int 0, .ref q2, .int 0, .ref q3, .int 0, .int (nI 30), .int 0, .int 0, .int 0, .ref q4, .int 0, .int 0, .long 0, .int 0, .int 0, .int 0, .int 0, .ref q5, .ref q6, .null, .null, .null, .int 0])), (q1, .inl (cy 0, 96, .inl (fun _ => 0))), (q2, .inl (cy 0, 30, .inl (fun _ => 0))), (q3, .inl (cy 0, 20, .inl (fun _ => 0))), (q4, .inl (cy 0, 200, .inl (fun _ => 0))), (q5, .inl (cy 0, 70, .inl (fun _ => 0))), (q6, .inl (cy 0, 1197, .inl (fun _ => 0)))] := hD
  refine lv_aload_n hx hb dX9_init_60 rfl (lv_at hl 0 rfl) ?_
  refine lv_sipush (v := (nI 1197)) hx hb dX9_init_61 (by decide) ?_
  refine n_I C hA hP hD hS 1197 (by decide) (by decide) (by decide) ⟨Nat.le_of_ble_eq_true rfl, Nat.le_of_ble_eq_true rfl⟩ dX9_init_64 (fun q7 H hP hD hS => ?_)
  have hP : va_P D vwCl [(h0, .inr (9, [.ref q1, .int 0, .ref q2, .int 0, .ref q3, .int 0, .int (nI 30), .int 0, .int 0, .int 0, .ref q4, .int 0, .int 0, .long 0, .int 0, .int 0, .int 0, .int 0, .ref q5, .ref q6, .null, .null, .null, .int 0])), (q1, .inl (cy 0, 96, .inl (fun _ => 0))), (q2, .inl (cy 0, 30, .inl (fun _ => 0))), (q3, .inl (cy 0, 20, .inl (fun _ => 0))), (q4, .inl (cy 0, 200, .inl (fun _ => 0))), (q5, .inl (cy 0, 70, .inl (fun _ => 0))), (q6, .inl (cy 0, 1197, .inl (fun _ => 0))), (q7, .inl (cy 0, 1197, .inl (fun _ => 0)))] H := hP
  have hD : va_D A [(h0, .inr (9, [.ref q1, .int 0, .ref q2, .int 0, .ref q3, .int 0, .int (nI 30), .int 0, .int 0, .int 0, .ref q4, .int 0, .int 0, .long 0, .int 0, .int 0, .int 0, .int 0, .ref q5, .ref q6, .null, .null, .null, .int 0])), (q1, .inl (cy 0, 96, .inl (fun _ => 0))), (q2, .inl (cy 0, 30, .inl (fun _ => 0))), (q3, .inl (cy 0, 20, .inl (fun _ => 0))), (q4, .inl (cy 0, 200, .inl (fun _ => 0))), (q5, .inl (cy 0, 70, .inl (fun _ => 0))), (q6, .inl (cy 0, 1197, .inl (fun _ => 0))), (q7, .inl (cy 0, 1197, .inl (fun _ => 0)))] := hD
  refine n_putF C hP hD hS 0 20 rfl cfX9 (by decide) rfl rfl rfl rfl (Nat.le_of_ble_eq_true rfl) kFL_X9_32 dX9_init_66 (fun H locs hP hD hS => ?_)
  have hP : va_P D vwCl [(h0, .inr (9, [.ref q1, .int 0, .ref q2, .int 0, .ref q3, .int 0, .int (nI 30), .int 0, .int 0, .int 0, .ref q4, .int 0, .int 0, .long 0, .int 0, .int 0, .int 0, .int 0, .ref q5, .ref q6, .ref q7, .null, .null, .int 0])), (q1, .inl (cy 0, 96, .inl (fun _ => 0))), (q2, .inl (cy 0, 30, .inl (fun _ => 0))), (q3, .inl (cy 0, 20, .inl (fun _ => 0))), (q4, .inl (cy 0, 200, .inl (fun _ => 0))), (q5, .inl (cy 0, 70, .inl (fun _ => 0))), (q6, .inl (cy 0, 1197, .inl (fun _ => 0))), (q7, .inl (cy 0, 1197, .inl (fun _ => 0)))] H := hP
  have hD : va_D A [(h0, .inr (9, [.ref q1, .int 0, .ref q2, .int 0, .ref q3, .int 0, .int (nI 30), .int 0, .int 0, .int 0, .ref q4, .int 0, .int 0, .long 0, .int 0, .int 0, .int 0, .int 0, .ref q5, .ref q6, .ref q7, .null, .null, .int 0])), (q1, .inl (cy 0, 96, .inl (fun _ => 0))), (q2, .inl (cy 0, 30, .inl (fun _ => 0))), (q3, .inl (cy 0, 20, .inl (fun _ => 0))), (q4, .inl (cy 0, 200, .inl (fun _ => 0))), (q5, .inl (cy 0, 70, .inl (fun _ => 0))), (q6, .inl (cy 0, 1197, .inl (fun _ => 0))), (q7, .inl (cy 0, 1197, .inl (fun _ => 0)))] := hD
  refine lv_aload_n hx hb dX9_init_69 rfl (lv_at hl 0 rfl) ?_
  refine lv_sipush (v := (nI 2394)) hx hb dX9_init_70 (by decide) ?_
  refine n_I C hA hP hD hS 2394 (by decide) (by decide) (by decide) ⟨Nat.le_of_ble_eq_true rfl, Nat.le_of_ble_eq_true rfl⟩ dX9_init_73 (fun q8 H hP hD hS => ?_)
  have hP : va_P D vwCl [(h0, .inr (9, [.ref q1, .int 0, .ref q2, .int 0, .ref q3, .int 0, .int (nI 30), .int 0, .int 0, .int 0, .ref q4, .int 0, .int 0, .long 0, .int 0, .int 0, .int 0, .int 0, .ref q5, .ref q6, .ref q7, .null, .null, .int 0])), (q1, .inl (cy 0, 96, .inl (fun _ => 0))), (q2, .inl (cy 0, 30, .inl (fun _ => 0))), (q3, .inl (cy 0, 20, .inl (fun _ => 0))), (q4, .inl (cy 0, 200, .inl (fun _ => 0))), (q5, .inl (cy 0, 70, .inl (fun _ => 0))), (q6, .inl (cy 0, 1197, .inl (fun _ => 0))), (q7, .inl (cy 0, 1197, .inl (fun _ => 0))), (q8, .inl (cy 0, 2394, .inl (fun _ => 0)))] H := hP
  have hD : va_D A [(h0, .inr (9, [.ref q1, .int 0, .ref q2, .int 0, .ref q3, .int 0, .int (nI 30), .int 0, .int 0, .int 0, .ref q4, .int 0, .int 0, .long 0, .int 0, .int 0, .int 0, .int 0, .ref q5, .ref q6, .ref q7, .null, .null, .int 0])), (q1, .inl (cy 0, 96, .inl (fun _ => 0))), (q2, .inl (cy 0, 30, .inl (fun _ => 0))), (q3, .inl (cy 0, 20, .inl (fun _ => 0))), (q4, .inl (cy 0, 200, .inl (fun _ => 0))), (q5, .inl (cy 0, 70, .inl (fun _ => 0))), (q6, .inl (cy 0, 1197, .inl (fun _ => 0))), (q7, .inl (cy 0, 1197, .inl (fun _ => 0))), (q8, .inl (cy 0, 2394, .inl (fun _ => 0)))] := hD
  refine n_putF C hP hD hS 0 21 rfl cfX9 (by decide) rfl rfl rfl rfl (Nat.le_of_ble_eq_true rfl) kFL_X9_35 dX9_init_75 (fun H locs hP hD hS => ?_)
  have hP : va_P D vwCl [(h0, .inr (9, [.ref q1, .int 0, .ref q2, .int 0, .ref q3, .int 0, .int (nI 30), .int 0, .int 0, .int 0, .ref q4, .int 0, .int 0, .long 0, .int 0, .int 0, .int 0, .int 0, .ref q5, .ref q6, .ref q7, .ref q8, .null, .int 0])), (q1, .inl (cy 0, 96, .inl (fun _ => 0))), (q2, .inl (cy 0, 30, .inl (fun _ => 0))), (q3, .inl (cy 0, 20, .inl (fun _ => 0))), (q4, .inl (cy 0, 200, .inl (fun _ => 0))), (q5, .inl (cy 0, 70, .inl (fun _ => 0))), (q6, .inl (cy 0, 1197, .inl (fun _ => 0))), (q7, .inl (cy 0, 1197, .inl (fun _ => 0))), (q8, .inl (cy 0, 2394, .inl (fun _ => 0)))] H := hP
  have hD : va_D A [(h0, .inr (9, [.ref q1, .int 0, .ref q2, .int 0, .ref q3, .int 0, .int (nI 30), .int 0, .int 0, .int 0, .ref q4, .int 0, .int 0, .long 0, .int 0, .int 0, .int 0, .int 0, .ref q5, .ref q6, .ref q7, .ref q8, .null, .int 0])), (q1, .inl (cy 0, 96, .inl (fun _ => 0))), (q2, .inl (cy 0, 30, .inl (fun _ => 0))), (q3, .inl (cy 0, 20, .inl (fun _ => 0))), (q4, .inl (cy 0, 200, .inl (fun _ => 0))), (q5, .inl (cy 0, 70, .inl (fun _ => 0))), (q6, .inl (cy 0, 1197, .inl (fun _ => 0))), (q7, .inl (cy 0, 1197, .inl (fun _ => 0))), (q8, .inl (cy 0, 2394, .inl (fun _ => 0)))] := hD
  refine lv_aload_n hx hb dX9_init_78 rfl (lv_at hl 0 rfl) ?_
  refine lv_iconst (v := (nI 2)) hx hb dX9_init_79 (by decide) ?_
  refine n_Z C hA hP hD hS 2 (by decide) (by decide) (by decide) ⟨Nat.le_of_ble_eq_true rfl, Nat.le_of_ble_eq_true rfl⟩ dX9_init_80 (fun q9 H hP hD hS => ?_)
  have hP : va_P D vwCl [(h0, .inr (9, [.ref q1, .int 0, .ref q2, .int 0, .ref q3, .int 0, .int (nI 30), .int 0, .int 0, .int 0, .ref q4, .int 0, .int 0, .long 0, .int 0, .int 0, .int 0, .int 0, .ref q5, .ref q6, .ref q7, .ref q8, .null, .int 0])), (q1, .inl (cy 0, 96, .inl (fun _ => 0))), (q2, .inl (cy 0, 30, .inl (fun _ => 0))), (q3, .inl (cy 0, 20, .inl (fun _ => 0))), (q4, .inl (cy 0, 200, .inl (fun _ => 0))), (q5, .inl (cy 0, 70, .inl (fun _ => 0))), (q6, .inl (cy 0, 1197, .inl (fun _ => 0))), (q7, .inl (cy 0, 1197, .inl (fun _ => 0))), (q8, .inl (cy 0, 2394, .inl (fun _ => 0))), (q9, .inl (cy 2, 2, .inl (fun _ => 0)))] H := hP
  have hD : va_D A [(h0, .inr (9, [.ref q1, .int 0, .ref q2, .int 0, .ref q3, .int 0, .int (nI 30), .int 0, .int 0, .int 0, .ref q4, .int 0, .int 0, .long 0, .int 0, .int 0, .int 0, .int 0, .ref q5, .ref q6, .ref q7, .ref q8, .null, .int 0])), (q1, .inl (cy 0, 96, .inl (fun _ => 0))), (q2, .inl (cy 0, 30, .inl (fun _ => 0))), (q3, .inl (cy 0, 20, .inl (fun _ => 0))), (q4, .inl (cy 0, 200, .inl (fun _ => 0))), (q5, .inl (cy 0, 70, .inl (fun _ => 0))), (q6, .inl (cy 0, 1197, .inl (fun _ => 0))), (q7, .inl (cy 0, 1197, .inl (fun _ => 0))), (q8, .inl (cy 0, 2394, .inl (fun _ => 0))), (q9, .inl (cy 2, 2, .inl (fun _ => 0)))] := hD
  refine n_putF C hP hD hS 0 22 rfl cfX9 (by decide) rfl rfl rfl rfl (Nat.le_of_ble_eq_true rfl) kFL_X9_38 dX9_init_82 (fun H locs hP hD hS => ?_)
  have hP : va_P D vwCl [(h0, .inr (9, [.ref q1, .int 0, .ref q2, .int 0, .ref q3, .int 0, .int (nI 30), .int 0, .int 0, .int 0, .ref q4, .int 0, .int 0, .long 0, .int 0, .int 0, .int 0, .int 0, .ref q5, .ref q6, .ref q7, .ref q8, .ref q9, .int 0])), (q1, .inl (cy 0, 96, .inl (fun _ => 0))), (q2, .inl (cy 0, 30, .inl (fun _ => 0))), (q3, .inl (cy 0, 20, .inl (fun _ => 0))), (q4, .inl (cy 0, 200, .inl (fun _ => 0))), (q5, .inl (cy 0, 70, .inl (fun _ => 0))), (q6, .inl (cy 0, 1197, .inl (fun _ => 0))), (q7, .inl (cy 0, 1197, .inl (fun _ => 0))), (q8, .inl (cy 0, 2394, .inl (fun _ => 0))), (q9, .inl (cy 2, 2, .inl (fun _ => 0)))] H := hP
  have hD : va_D A [(h0, .inr (9, [.ref q1, .int 0, .ref q2, .int 0, .ref q3, .int 0, .int (nI 30), .int 0, .int 0, .int 0, .ref q4, .int 0, .int 0, .long 0, .int 0, .int 0, .int 0, .int 0, .ref q5, .ref q6, .ref q7, .ref q8, .ref q9, .int 0])), (q1, .inl (cy 0, 96, .inl (fun _ => 0))), (q2, .inl (cy 0, 30, .inl (fun _ => 0))), (q3, .inl (cy 0, 20, .inl (fun _ => 0))), (q4, .inl (cy 0, 200, .inl (fun _ => 0))), (q5, .inl (cy 0, 70, .inl (fun _ => 0))), (q6, .inl (cy 0, 1197, .inl (fun _ => 0))), (q7, .inl (cy 0, 1197, .inl (fun _ => 0))), (q8, .inl (cy 0, 2394, .inl (fun _ => 0))), (q9, .inl (cy 2, 2, .inl (fun _ => 0)))] := hD
  have hPM := mkPM (adS := adS) (qs := fun i => [q1, q2, q3, q4, q5, q6, q7, q8, q9].getD i 0) (h0 := h0) hP
  have hIM := mkIM (D := D) (adS := adS) (qs := fun i => [q1, q2, q3, q4, q5, q6, q7, q8, q9].getD i 0) (h0 := h0) (cy := cy) hD
  obtain ⟨Z, eZ⟩ : ∃ Z : ZT, Z = (D, cy, adM h0 (fun i => [q1, q2, q3, q4, q5, q6, q7, q8, q9].getD i 0), adS) := ⟨_, rfl⟩
  have hi : injZ 10 Z := by rw [eZ]; exact hIM.1
  have hAA : ∀ q, aa 10 Z q → A q := fun q hq => by
    obtain ⟨c, hc, he⟩ := hq
    rw [← he, eZ]
    exact hIM.2 c hc
  have hP : va_P Z.1 vwCl (wl shM 10 Z S0M) H := by rw [eZ]; exact hPM
  have hK : va_K Z.1 vwCl (tysG Z.2.1) s := by rw [eZ]; exact hG.1
  have e0 : Z.2.2.1 0 = h0 := by rw [eZ]; rfl
  refine lv_aload_n hx hb dX9_init_85 rfl (lv_at hl 0 rfl) ?_
  refine x_v (x_V (gokM hi) (c0 := 0) (As := []) (rest := []) C.1 (fun w h => List.mem_cons_of_mem _ h) hK hP (fun U hU hW => va_K.moved hW.alike hK) (c_X9_begin hi S0M k h) cal_X9_begin kML_X9_42 (by decide) rfl cfX9 ⟨rfl, rfl, Nat.le_of_ble_eq_true rfl, Nat.le_of_ble_eq_true rfl⟩ rfl (by rw [e0]; rfl) hl.1 (Nat.le_of_ble_eq_true rfl) ⟨Nat.le_of_ble_eq_true rfl, Nat.le_of_ble_eq_true rfl⟩ dX9_init_86) hS hAA (fun S H locs h hP hS => ?_)
  refine W.vret hx hb C.2.1 (fun t ht hW => ⟨⟨(Z.2.2.1, S), rfl, h, e0, ?_, fun c hc => hAA _ ⟨c, hc, rfl⟩, ?_⟩, hS.F ht⟩) hS.2.2 dX9_init_89 C.2.2.1
  · have := hi
    rw [eZ] at this ⊢
    exact this
  · rw [ht]
    rw [eZ] at hP ⊢
    exact hP
