/-! ===== strings, tables, what only the reader of texts needs ===== -/
section TX
variable {p : Program} {l : Launch} {e : Env} {R : Room} {s : State} {m : MethodId} {args : Array Value} {below : List Frame} {meth : Method} {c : Code} {H : Heap} {locs : List Loc} {Q : State → Prop}
variable {cc : ByteArray} {pc nL index i : Nat} {ls : Array Slot} {rest st0 As : List Value} {y : MethodName} {ret : Option FieldType} {Z : ZT} {S : St}
variable {y2 : MethodName} {cc2 : ByteArray} {nL2 n2 : Nat} {ret2 : Option FieldType} {rm2 : Room}
theorem s_sv (C : Cxt (gX Z) p s m meth c args y cc nL ret) (hS : va_S (aa 68 Z) s.heap H locs) (h9 : i < 9) (hlk : Cond.fieldLink y.cls index RJ0 "value" "[B" ∈ BIG) (hdg : decode cc pc = .ok (.getfield index, 3))
    (kk : W p l e R s m args below meth c H locs 0 0 Q (F0 m (pc + 3) ls (.ref (Z.2.2.2 (20 + i)) :: rest))) : W p l e R s m args below meth c H locs 0 0 Q (F0 m pc ls (.ref (Z.2.2.2 (10 + i)) :: rest)) := by
  obtain ⟨⟨hx, hb, hml, ho, hts⟩, hr, hlo, hg⟩ := C
  exact vk_getf hx hb (hg.2.2.2.2.2.2.1.1 i h9).2.2.1 hS ho (hts _ (List.mem_cons_of_mem _ hlk)) (fun _ h => h) hdg kk
theorem s_sc (C : Cxt (gX Z) p s m meth c args y cc nL ret) (hS : va_S (aa 68 Z) s.heap H locs) (h9 : i < 9) (hlk : Cond.fieldLink y.cls index RJ0 "coder" "B" ∈ BIG) (hdg : decode cc pc = .ok (.getfield index, 3))
    (kk : W p l e R s m args below meth c H locs 0 0 Q (F0 m (pc + 3) ls (.int (0 : Int32) :: rest))) : W p l e R s m args below meth c H locs 0 0 Q (F0 m pc ls (.ref (Z.2.2.2 (10 + i)) :: rest)) := by
  obtain ⟨⟨hx, hb, hml, ho, hts⟩, hr, hlo, hg⟩ := C
  exact vk_getf hx hb (hg.2.2.2.2.2.2.1.1 i h9).2.1 hS ho (hts _ (List.mem_cons_of_mem _ hlk)) (fun _ h => h) hdg kk
theorem s_sl (C : Cxt (gX Z) p s m meth c args y cc nL ret) (hS : va_S (aa 68 Z) s.heap H locs) (h9 : i < 9) (hdg : decode cc pc = .ok (.arraylength, 1))
    (kk : W p l e R s m args below meth c H locs 0 0 Q (F0 m (pc + 1) ls (.int (nI (txL.getD i 0)) :: rest))) : W p l e R s m args below meth c H locs 0 0 Q (F0 m pc ls (.ref (Z.2.2.2 (20 + i)) :: rest)) := by
  obtain ⟨⟨hx, hb, hml, ho, hts⟩, hr, hlo, hg⟩ := C
  exact va_tlen hx hb (hg.2.2.2.2.2.2.1.1 i h9).2.2.2 hS rfl hdg kk
theorem s_sb (C : Cxt (gX Z) p s m meth c args y cc nL ret) (hS : va_S (aa 68 Z) s.heap H locs) (h9 : i < 9) {x : Int32} (hin : vp_in x (txL.getD i 0)) (hdg : decode cc pc = .ok (.baload, 1))
    (kk : W p l e R s m args below meth c H locs 0 0 Q (F0 m (pc + 1) ls (.int ((txB.getD i []).getD x.toNatClampNeg 0) :: rest))) : W p l e R s m args below meth c H locs 0 0 Q (F0 m pc ls (.int x :: .ref (Z.2.2.2 (20 + i)) :: rest)) := by
  obtain ⟨⟨hx, hb, hml, ho, hts⟩, hr, hlo, hg⟩ := C
  exact va_tb hx hb (hg.2.2.2.2.2.2.1.1 i h9).2.2.2 hS hin rfl hdg kk
theorem s_cs (C : Cxt (gX Z) p s m meth c args y cc nL ret) (hS : va_S (aa 68 Z) s.heap H locs) (hlk : Cond.fieldLink y.cls index RJ0 "COMPACT_STRINGS" "Z" ∈ BIG) (hdg : decode cc pc = .ok (.getstatic index, 3))
    (kk : W p l e R s m args below meth c H locs 0 0 Q (F0 m (pc + 3) ls (.int (1 : Int32) :: rest))) : W p l e R s m args below meth c H locs 0 0 Q (F0 m pc ls rest) := by
  obtain ⟨⟨hx, hb, hml, ho, hts⟩, hr, hlo, hg⟩ := C
  exact va_gets hx hb hg.2.2.2.2.2.1 hS ho (hts _ (List.mem_cons_of_mem _ hlk)) (fun _ h => h) hdg kk
theorem s_fmt (C : Cxt (gX Z) p s m meth c args y cc nL ret) (hS : va_S (aa 68 Z) s.heap H locs) (hlk : Cond.fieldLink y.cls index RJ3 "SIOOBE_FORMATTER" "Ljava/util/function/BiFunction;" ∈ BIG) (hdg : decode cc pc = .ok (.getstatic index, 3))
    (k1 : W p l e R s m args below meth c H locs 0 0 Q (F0 m (pc + 3) ls (.null :: rest))) (k2 : ∀ t : Nat, W p l e R s m args below meth c H locs 0 0 Q (F0 m (pc + 3) ls (.ref t :: rest))) : W p l e R s m args below meth c H locs 0 0 Q (F0 m pc ls rest) := by
  obtain ⟨⟨hx, hb, hml, ho, hts⟩, hr, hlo, hg⟩ := C
  rcases hg.2.2.2.2.2.2.2.2 with h | ⟨t, h⟩
  · exact va_gets hx hb h hS ho (hts _ (List.mem_cons_of_mem _ hlk)) (fun _ h => h) hdg k1
  · exact va_gets hx hb h hS ho (hts _ (List.mem_cons_of_mem _ hlk)) (fun _ h => h) hdg (k2 t)
theorem s_gt {f : String} {n : Nat} {tb : List Int32} {own host : String} (C : Cxt (gX Z) p s m meth c args y cc nL ret) (hS : va_S (aa 68 Z) s.heap H locs) (ht : tabX Z s f i n tb) (hlk : va_Nw (.fieldLinkNest y.cls index RX8 f "[I" host) s) (hdg : decode cc pc = .ok (.getstatic index, 3))
    (kk : W p l e R s m args below meth c H locs 0 0 Q (F0 m (pc + 3) ls (.ref (Z.2.2.2 i) :: rest))) : W p l e R s m args below meth c H locs 0 0 Q (F0 m pc ls rest) := by
  obtain ⟨⟨hx, hb, hml, ho, hts⟩, hr, hlo, hg⟩ := C
  exact va_getsN hx hb ht.1 hS ho (va_Nw.use rfl hlk) (fun _ h => h) hdg kk
theorem s_ta {f : String} {n : Nat} {tb : List Int32} {x : Int32} (C : Cxt (gX Z) p s m meth c args y cc nL ret) (hS : va_S (aa 68 Z) s.heap H locs) (ht : tabX Z s f i n tb) (hin : vp_in x n) (hdg : decode cc pc = .ok (.iaload, 1))
    (kk : W p l e R s m args below meth c H locs 0 0 Q (F0 m (pc + 1) ls (.int (tb.getD x.toNatClampNeg 0) :: rest))) : W p l e R s m args below meth c H locs 0 0 Q (F0 m pc ls (.int x :: .ref (Z.2.2.2 i) :: rest)) := by
  obtain ⟨⟨hx, hb, hml, ho, hts⟩, hr, hlo, hg⟩ := C
  exact va_ti hx hb ht.2 hS hin rfl hdg kk
theorem s_ldc (C : Cxt (gX Z) p s m meth c args y cc nL ret) (hy : y.cls = RX7) (h9 : i < 9) (hix : txI.getD i 0 = index) (hdg : decode cc pc = .ok (.ldc index, 2))
    (kk : W p l e R s m args below meth c H locs 0 0 Q (F0 m (pc + 2) ls (.ref (Z.2.2.2 (10 + i)) :: rest))) : W p l e R s m args below meth c H locs 0 0 Q (F0 m pc ls rest) := by
  obtain ⟨⟨hx, hb, hml, ho, hts⟩, hr, hlo, hg⟩ := C
  rw [hy] at ho
  subst hix
  exact va_ldcS hx hb ho (hg.2.2.2.2.2.2.2.1 i h9) hdg kk
theorem s_rc {k : Int32 → St → Prop} {v : Int32} (C : Cxt (gX Z) p s m meth c args y cc nL (some .char)) (hP : va_P Z.1 vwCl (wl shX 68 Z S) H) (hS : va_S (aa 68 Z) s.heap H locs) (hn : narrow .char (.int v) = .int v) (hk : k v S) (hdg : decode cc pc = .ok (.ireturn, 1)) : W p l e R s m args below meth c H locs 0 0 (Qi below shX 68 Z args s k) (F0 m pc ls [.int v]) := by
  obtain ⟨⟨hx, hb, hml, ho, hts⟩, hr, hlo, hg⟩ := C
  exact W.zret hx hb hr hn (fun t ht hW => ⟨⟨v, S, rfl, hk, by unfold Bd; rw [ht]; exact hP⟩, hS.F ht⟩) hS.2.2 hdg hlo
theorem s_rb {k : Int32 → St → Prop} {v : Int32} (C : Cxt (gX Z) p s m meth c args y cc nL (some .byte)) (hP : va_P Z.1 vwCl (wl shX 68 Z S) H) (hS : va_S (aa 68 Z) s.heap H locs) (hn : narrow .byte (.int v) = .int v) (hk : k v S) (hdg : decode cc pc = .ok (.ireturn, 1)) : W p l e R s m args below meth c H locs 0 0 (Qi below shX 68 Z args s k) (F0 m pc ls [.int v]) := by
  obtain ⟨⟨hx, hb, hml, ho, hts⟩, hr, hlo, hg⟩ := C
  exact W.zret hx hb hr hn (fun t ht hW => ⟨⟨v, S, rfl, hk, by unfold Bd; rw [ht]; exact hP⟩, hS.F ht⟩) hS.2.2 hdg hlo
/-- a method that answers one of the words -/
def Bs (Z : ZT) (S : St) (u : Nat) (a : Nat) (t : State) : Prop := a = Z.2.2.2 (10 + u) ∧ va_P Z.1 vwCl (wl shX 68 Z S) t.heap
def Mr (l : Launch) (Z : ZT) (y : MethodName) (cc : ByteArray) (nL : Nat) (ret : Option FieldType) (rm : Room) (av : List Value) (S : St) (k : Nat → Prop) : Prop :=
  Met l y (wy y cc nL ret) rm (Pd shX 68 Z (gX Z) av S) (va_Qr (fun u : Nat => u < 9 ∧ k u) (Bs Z S) (aa 68 Z)) 0 0 (aa 68 Z)
abbrev Qr (below : List Frame) (Z : ZT) (S : St) (args : Array Value) (s : State) (k : Nat → Prop) : State → Prop := MQ below (va_Qr (fun u : Nat => u < 9 ∧ k u) (Bs Z S) (aa 68 Z)) args s 0 0 (aa 68 Z)
theorem s_rs {k : Nat → Prop} {C0 : String} (C : Cxt (gX Z) p s m meth c args y cc nL (some (.object C0))) (hP : va_P Z.1 vwCl (wl shX 68 Z S) H) (hS : va_S (aa 68 Z) s.heap H locs) (h9 : i < 9) (hk : k i) (hdg : decode cc pc = .ok (.areturn, 1)) : W p l e R s m args below meth c H locs 0 0 (Qr below Z S args s k) (F0 m pc ls [.ref (Z.2.2.2 (10 + i))]) := by
  obtain ⟨⟨hx, hb, hml, ho, hts⟩, hr, hlo, hg⟩ := C
  exact W.aret hx hb hr (Or.inl ⟨_, rfl⟩) (Or.inr ⟨_, rfl⟩) (fun t ht hW => ⟨⟨i, _, rfl, ⟨h9, hk⟩, rfl, by rw [ht]; exact hP⟩, hS.F ht⟩) hS.2.2 hdg hlo
theorem e_r {k : Nat → Prop} {rm : Room} {av : List Value} (hy : plainName y.cls = true) {lv : List (Nat × Value)} (hn : (lg_sl av).length ≤ nL) (hlv : lv_args 0 av = lv)
    (body : ∀ (p : Program) (e : Env) (s : State) (m : MethodId) (args : Array Value) (below : List Frame) (meth : Method) (c : Code), Cxt (gX Z) p s m meth c args y cc nL ret → va_P Z.1 vwCl (wl shX 68 Z S) s.heap → va_S (aa 68 Z) s.heap s.heap [] → ∀ ls : Array Slot, lv_has ls nL lv →
      W p l e rm s m args below meth c s.heap [] 0 0 (Qr below Z S args s k) (F0 m 0 ls [])) : Mr l Z y cc nL ret rm av S k := by
  refine Met.ofW (cc := cc) (maxL := nL) (ret := ret) hy rfl ?_
  intro p e s m args below meth c s₁ B hml hv
  obtain ⟨rfl, hP, hG⟩ := hv
  rw [lg_entry_eq]
  refine body p e s m _ below meth c ⟨⟨B.exec, B.bytes, hml, findClass_of_methodNamed B.named, atoms_spec (ws := wy y cc nL ret) B.pre⟩, B.returns, B.notSynchronized, hG⟩ hP va_S.rf _ ?_
  rw [← hlv]
  exact lv_entry av hn
theorem go_r {k : Nat → Prop} {a : Array Value} (hr : va_Run p l e R s m args below meth c H locs 0 0 0 0 (F0 m pc ls st0) rest (va_Qr (fun u : Nat => u < 9 ∧ k u) (Bs Z S) (aa 68 Z) a) (aa 68 Z)) (hS : va_S (aa 68 Z) s.heap H locs)
    (kk : ∀ (u : Nat) (H : Heap) (locs : List Loc), u < 9 → k u → va_P Z.1 vwCl (wl shX 68 Z S) H → va_S (aa 68 Z) s.heap H locs → W p l e R s m args below meth c H locs 0 0 Q (F0 m (pc + 3) ls (.ref (Z.2.2.2 (10 + u)) :: rest))) : W p l e R s m args below meth c H locs 0 0 Q (F0 m pc ls st0) :=
  va_callr hr hS (fun _ _ h => h) (fun _ h => h) (fun u ra t H1 locs1 ht _ hp hB _ _ hS1 => by
    obtain ⟨e1, hB⟩ := hB
    rw [ht] at hB
    rw [e1]
    exact kk u H1 locs1 hp.1 hp.2 hB hS1)
theorem go_vp {k : Prop} {sh : Nat → Dsc} {N : Nat} {a : Array Value} (hr : va_Run p l e R s m args below meth c H locs 0 0 0 0 (F0 m pc ls st0) rest (va_Qv (fun S' => S' = S ∧ k) (Bd sh N Z) (aa N Z) a) (aa N Z)) (hS : va_S (aa N Z) s.heap H locs)
    (kk : ∀ (H : Heap) (locs : List Loc), k → va_P Z.1 vwCl (wl sh N Z S) H → va_S (aa N Z) s.heap H locs → W p l e R s m args below meth c H locs 0 0 Q (F0 m (pc + 3) ls rest)) : W p l e R s m args below meth c H locs 0 0 Q (F0 m pc ls st0) :=
  go_v hr hS (fun S1 H locs h hP hS => by obtain ⟨e1, h⟩ := h; rw [e1] at hP; exact kk H locs h hP hS)
theorem run_VS {Qc : Array Value → State → Outcome → State → Prop} (hi : injZ 68 Z) (C : Cxt (gX Z) p s m meth c args y cc nL ret) (hP : va_P Z.1 vwCl (wl shX 68 Z S) H) (hS : va_S (aa 68 Z) s.heap H locs) (hM : Met l y2 (wy y2 cc2 nL2 ret2) rm2 (Pd shX 68 Z (gX Z) (.ref (Z.2.2.2 (10 + i)) :: As) S) Qc 0 0 (aa 68 Z))
    (cv : CalV y2 cc2 nL2 ret2 n2) (hlk : Cond.methodLink y.cls index y2 ∈ BIG) (h9 : i < 9) (hcl : y2.cls = "java/lang/String") (hrm : Rms rm2 R nL2) (hn : As.length = n2) (hst : st0 = As.reverse ++ .ref (Z.2.2.2 (10 + i)) :: rest) (hl : ls.size = nL) (hw : (rest.map fun v => v.category).sum ≤ 8) (hdg : decode cc pc = .ok (.invokevirtual index, 3)) :
    va_Run p l e R s m args below meth c H locs 0 0 0 0 (F0 m pc ls st0) rest (Qc (Value.ref (Z.2.2.2 (10 + i)) :: As).toArray) (aa 68 Z) := by
  obtain ⟨⟨hx, hb, hml, ho, hts⟩, hr, hlo, hg⟩ := C
  obtain ⟨a1, a2, a3, a4, a5⟩ := cv
  obtain ⟨r1, r2, r3, r4⟩ := hrm
  have hin : ∀ w ∈ BIG, w.before args s = true := fun w h => hts w (List.mem_cons_of_mem _ h)
  have hB : CallB R s args y.cls index y2 cc2 nL2 ret2 (wy y2 cc2 nL2 ret2) rm2 0 0 n2 := callB_of n2 hts (good_wy a1) rfl r1 r2 (hin _ a4) (hin _ hlk) a5 ⟨r3, r4⟩
  have hp := preS_of (gokX hi) (av := .ref (Z.2.2.2 (10 + i)) :: As) hg hP hS
  exact va_runV (C := y2.cls) ⟨hx, hb, hml, ho, hts⟩ hM ⟨hB, hin _ a2, hin _ a3⟩ ⟨hp.1, by rw [hcl]; have hv := vk_recv (adK := fun i => Z.2.2.2 (10 + i)) hg.2.2.2.2.2.2.1 h9 hS; exact hv, hp.2⟩ rfl hn hl hst (lv_room hw) hdg ⟨Nat.zero_le _, Nat.zero_le _⟩
end TX
theorem lkOut {x a b o1 o2 df : Int} (h1 : x ≠ a) (h2 : x ≠ b) : Op.lookupswitch.offset [(a, o1), (b, o2)] df x = df := by
  rw [Op.lookupswitch.offset_cons, if_neg (Ne.symm h1), Op.lookupswitch.offset_cons, if_neg (Ne.symm h2)]
  rfl
