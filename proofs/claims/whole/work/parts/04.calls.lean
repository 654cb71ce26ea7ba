/-! ===== contracts of methods of one side, over the whole picture; calls ===== -/
def Bd (sh : Nat → Dsc) (N : Nat) (Z : ZT) (S : St) (t : State) : Prop := va_P Z.1 vwCl (wl sh N Z S) t.heap
def Pd (sh : Nat → Dsc) (N : Nat) (Z : ZT) (G : State → Prop) (av : List Value) (S : St) : Array Value → State → Prop := va_Pc av (fun U => va_P Z.1 vwCl (wl sh N Z S) U.heap ∧ G U)
def wy (y : MethodName) (cc : ByteArray) (nL : Nat) (ret : Option FieldType) : List Cond := .code y cc nL ret :: BIG
def Mi (l : Launch) (sh : Nat → Dsc) (N : Nat) (Z : ZT) (G : State → Prop) (y : MethodName) (cc : ByteArray) (nL : Nat) (ret : Option FieldType) (rm : Room) (av : List Value) (S : St) (k : Int32 → St → Prop) : Prop :=
  Met l y (wy y cc nL ret) rm (Pd sh N Z G av S) (va_Qi k (Bd sh N Z) (aa N Z)) 0 0 (aa N Z)
def Ml (l : Launch) (sh : Nat → Dsc) (N : Nat) (Z : ZT) (G : State → Prop) (y : MethodName) (cc : ByteArray) (nL : Nat) (ret : Option FieldType) (rm : Room) (av : List Value) (S : St) (k : Int64 → St → Prop) : Prop :=
  Met l y (wy y cc nL ret) rm (Pd sh N Z G av S) (va_Ql k (Bd sh N Z) (aa N Z)) 0 0 (aa N Z)
def Mv (l : Launch) (sh : Nat → Dsc) (N : Nat) (Z : ZT) (G : State → Prop) (y : MethodName) (cc : ByteArray) (nL : Nat) (ret : Option FieldType) (rm : Room) (av : List Value) (S : St) (k : St → Prop) : Prop :=
  Met l y (wy y cc nL ret) rm (Pd sh N Z G av S) (va_Qv k (Bd sh N Z) (aa N Z)) 0 0 (aa N Z)
abbrev Qi (below : List Frame) (sh : Nat → Dsc) (N : Nat) (Z : ZT) (args : Array Value) (s : State) (k : Int32 → St → Prop) : State → Prop := MQ below (va_Qi k (Bd sh N Z) (aa N Z)) args s 0 0 (aa N Z)
abbrev Ql (below : List Frame) (sh : Nat → Dsc) (N : Nat) (Z : ZT) (args : Array Value) (s : State) (k : Int64 → St → Prop) : State → Prop := MQ below (va_Ql k (Bd sh N Z) (aa N Z)) args s 0 0 (aa N Z)
abbrev Qv (below : List Frame) (sh : Nat → Dsc) (N : Nat) (Z : ZT) (args : Array Value) (s : State) (k : St → Prop) : State → Prop := MQ below (va_Qv k (Bd sh N Z) (aa N Z)) args s 0 0 (aa N Z)
abbrev rmk (f l : Nat) : Room := { frames := f, cells := 0, slots := 0, locals := l }
section EN
variable {l : Launch} {sh : Nat → Dsc} {N : Nat} {Z : ZT} {G : State → Prop} {y : MethodName} {cc : ByteArray} {nL : Nat} {ret : Option FieldType} {rm : Room} {av : List Value} {S : St}
theorem e_i {k : Int32 → St → Prop} (hy : plainName y.cls = true) {lv : List (Nat × Value)} (hn : (lg_sl av).length ≤ nL) (hlv : lv_args 0 av = lv)
    (body : ∀ (p : Program) (e : Env) (s : State) (m : MethodId) (args : Array Value) (below : List Frame) (meth : Method) (c : Code), Cxt G p s m meth c args y cc nL ret → va_P Z.1 vwCl (wl sh N Z S) s.heap → va_S (aa N Z) s.heap s.heap [] → ∀ ls : Array Slot, lv_has ls nL lv →
      W p l e rm s m args below meth c s.heap [] 0 0 (Qi below sh N Z args s k) (F0 m 0 ls [])) : Mi l sh N Z G y cc nL ret rm av S k := by
  refine Met.ofW (cc := cc) (maxL := nL) (ret := ret) hy rfl ?_
  intro p e s m args below meth c s₁ B hml hv
  obtain ⟨rfl, hP, hG⟩ := hv
  rw [lg_entry_eq]
  refine body p e s m _ below meth c ⟨⟨B.exec, B.bytes, hml, findClass_of_methodNamed B.named, atoms_spec (ws := wy y cc nL ret) B.pre⟩, B.returns, B.notSynchronized, hG⟩ hP va_S.rf _ ?_
  rw [← hlv]
  exact lv_entry av hn
theorem e_l {k : Int64 → St → Prop} (hy : plainName y.cls = true) {lv : List (Nat × Value)} (hn : (lg_sl av).length ≤ nL) (hlv : lv_args 0 av = lv)
    (body : ∀ (p : Program) (e : Env) (s : State) (m : MethodId) (args : Array Value) (below : List Frame) (meth : Method) (c : Code), Cxt G p s m meth c args y cc nL ret → va_P Z.1 vwCl (wl sh N Z S) s.heap → va_S (aa N Z) s.heap s.heap [] → ∀ ls : Array Slot, lv_has ls nL lv →
      W p l e rm s m args below meth c s.heap [] 0 0 (Ql below sh N Z args s k) (F0 m 0 ls [])) : Ml l sh N Z G y cc nL ret rm av S k := by
  refine Met.ofW (cc := cc) (maxL := nL) (ret := ret) hy rfl ?_
  intro p e s m args below meth c s₁ B hml hv
  obtain ⟨rfl, hP, hG⟩ := hv
  rw [lg_entry_eq]
  refine body p e s m _ below meth c ⟨⟨B.exec, B.bytes, hml, findClass_of_methodNamed B.named, atoms_spec (ws := wy y cc nL ret) B.pre⟩, B.returns, B.notSynchronized, hG⟩ hP va_S.rf _ ?_
  rw [← hlv]
  exact lv_entry av hn
theorem e_v {k : St → Prop} (hy : plainName y.cls = true) {lv : List (Nat × Value)} (hn : (lg_sl av).length ≤ nL) (hlv : lv_args 0 av = lv)
    (body : ∀ (p : Program) (e : Env) (s : State) (m : MethodId) (args : Array Value) (below : List Frame) (meth : Method) (c : Code), Cxt G p s m meth c args y cc nL ret → va_P Z.1 vwCl (wl sh N Z S) s.heap → va_S (aa N Z) s.heap s.heap [] → ∀ ls : Array Slot, lv_has ls nL lv →
      W p l e rm s m args below meth c s.heap [] 0 0 (Qv below sh N Z args s k) (F0 m 0 ls [])) : Mv l sh N Z G y cc nL ret rm av S k := by
  refine Met.ofW (cc := cc) (maxL := nL) (ret := ret) hy rfl ?_
  intro p e s m args below meth c s₁ B hml hv
  obtain ⟨rfl, hP, hG⟩ := hv
  rw [lg_entry_eq]
  refine body p e s m _ below meth c ⟨⟨B.exec, B.bytes, hml, findClass_of_methodNamed B.named, atoms_spec (ws := wy y cc nL ret) B.pre⟩, B.returns, B.notSynchronized, hG⟩ hP va_S.rf _ ?_
  rw [← hlv]
  exact lv_entry av hn
end EN
/-- what a callee brings: its code, how it is found -/
def CalV (y : MethodName) (cc : ByteArray) (nL : Nat) (ret : Option FieldType) (n : Nat) : Prop :=
  Cond.code y cc nL ret ∈ BIG ∧ Cond.instanceMethod y ∈ BIG ∧ Cond.selects y.cls y y ∈ BIG ∧ Cond.initialized y.cls ∈ BIG ∧ (y.cls ≠ "java/lang/invoke/MethodHandle" ∧ y.cls ≠ "java/lang/invoke/VarHandle" ∧ (parseMethodDescriptor y.desc).map (fun d => d.parameters.length) = some n)
def CalS (y : MethodName) (cc : ByteArray) (nL : Nat) (ret : Option FieldType) (n : Nat) : Prop :=
  Cond.code y cc nL ret ∈ BIG ∧ Cond.static y ∈ BIG ∧ Cond.initialized y.cls ∈ BIG ∧ (y.cls ≠ "java/lang/invoke/MethodHandle" ∧ y.cls ≠ "java/lang/invoke/VarHandle" ∧ (parseMethodDescriptor y.desc).map (fun d => d.parameters.length) = some n)
def Rms (rm2 R : Room) (nL2 : Nat) : Prop := rm2.cells = 0 ∧ rm2.slots = 0 ∧ rm2.frames + 1 ≤ R.frames ∧ 8 + (nL2 + 11) + rm2.locals ≤ R.locals
theorem good_wy {y y2 : MethodName} {cc cc2 : ByteArray} {nL nL2 : Nat} {ret ret2 : Option FieldType} (h : Cond.code y2 cc2 nL2 ret2 ∈ BIG) : GoodIn (.code y cc nL ret :: BIG) (wy y2 cc2 nL2 ret2) := by
  intro w hw
  rcases List.mem_cons.mp hw with rfl | hw
  · exact ⟨List.mem_cons_of_mem _ h, good_of_word (List.mem_filter.mp h).2⟩
  · exact ⟨List.mem_cons_of_mem _ hw, good_of_word (List.mem_filter.mp hw).2⟩
section CA
variable {p : Program} {l : Launch} {e : Env} {R : Room} {s : State} {m : MethodId} {args : Array Value} {below : List Frame} {meth : Method} {c : Code} {H : Heap} {locs : List Loc} {Q : State → Prop}
variable {cc : ByteArray} {pc nL index : Nat} {ls : Array Slot} {rest st0 As : List Value} {G : State → Prop} {y : MethodName} {ret : Option FieldType} {sh : Nat → Dsc} {N : Nat} {Z : ZT} {S : St}
variable {y2 : MethodName} {cc2 : ByteArray} {nL2 n2 c0 ci n : Nat} {ret2 : Option FieldType} {rm2 : Room} {fl : List Nat} {T : u_T} {ty : Nat → FieldType}
/-! returns -/
theorem s_ri {k : Int32 → St → Prop} {v : Int32} (C : Cxt G p s m meth c args y cc nL (some .int)) (hP : va_P Z.1 vwCl (wl sh N Z S) H) (hS : va_S (aa N Z) s.heap H locs) (hk : k v S) (hdg : decode cc pc = .ok (.ireturn, 1)) : W p l e R s m args below meth c H locs 0 0 (Qi below sh N Z args s k) (F0 m pc ls [.int v]) := by
  obtain ⟨⟨hx, hb, hml, ho, hts⟩, hr, hlo, hg⟩ := C
  exact W.iret hx hb hr (fun t ht hW => ⟨⟨v, S, rfl, hk, by unfold Bd; rw [ht]; exact hP⟩, hS.F ht⟩) hS.2.2 hdg hlo
theorem s_rz {k : Int32 → St → Prop} {v : Int32} (C : Cxt G p s m meth c args y cc nL (some .boolean)) (hP : va_P Z.1 vwCl (wl sh N Z S) H) (hS : va_S (aa N Z) s.heap H locs) (hn : narrow .boolean (.int v) = .int v) (hk : k v S) (hdg : decode cc pc = .ok (.ireturn, 1)) : W p l e R s m args below meth c H locs 0 0 (Qi below sh N Z args s k) (F0 m pc ls [.int v]) := by
  obtain ⟨⟨hx, hb, hml, ho, hts⟩, hr, hlo, hg⟩ := C
  exact W.zret hx hb hr hn (fun t ht hW => ⟨⟨v, S, rfl, hk, by unfold Bd; rw [ht]; exact hP⟩, hS.F ht⟩) hS.2.2 hdg hlo
theorem s_rl {k : Int64 → St → Prop} {v : Int64} (C : Cxt G p s m meth c args y cc nL (some .long)) (hP : va_P Z.1 vwCl (wl sh N Z S) H) (hS : va_S (aa N Z) s.heap H locs) (hk : k v S) (hdg : decode cc pc = .ok (.lreturn, 1)) : W p l e R s m args below meth c H locs 0 0 (Ql below sh N Z args s k) (F0 m pc ls [.long v]) := by
  obtain ⟨⟨hx, hb, hml, ho, hts⟩, hr, hlo, hg⟩ := C
  exact W.lret hx hb hr (fun t ht hW => ⟨⟨v, S, rfl, hk, by unfold Bd; rw [ht]; exact hP⟩, hS.F ht⟩) hS.2.2 hdg hlo
theorem s_rv {k : St → Prop} (C : Cxt G p s m meth c args y cc nL none) (hP : va_P Z.1 vwCl (wl sh N Z S) H) (hS : va_S (aa N Z) s.heap H locs) (hk : k S) (hdg : decode cc pc = .ok (.return_, 1)) : W p l e R s m args below meth c H locs 0 0 (Qv below sh N Z args s k) (F0 m pc ls []) := by
  obtain ⟨⟨hx, hb, hml, ho, hts⟩, hr, hlo, hg⟩ := C
  exact W.vret hx hb hr (fun t ht hW => ⟨⟨S, rfl, hk, by unfold Bd; rw [ht]; exact hP⟩, hS.F ht⟩) hS.2.2 hdg hlo
/-! calls -/
theorem preS_of (g : GOK N Z G) {av : List Value} (hg : G s) (hP : va_P Z.1 vwCl (wl sh N Z S) H) (hS : va_S (aa N Z) s.heap H locs) : PreS s H (Pd sh N Z G av S) av :=
  ⟨fun a U gg mk h => ⟨h.1, h.2.1, g.2.2.2 U gg mk a h.2.2⟩, fun U hU hW => ⟨rfl, by rw [hU]; exact hP, g.2.2.1 s U H locs hg hS hU hW⟩⟩
theorem run_V {Qc : Array Value → State → Outcome → State → Prop} (g : GOK N Z G) (C : Cxt G p s m meth c args y cc nL ret) (hP : va_P Z.1 vwCl (wl sh N Z S) H) (hS : va_S (aa N Z) s.heap H locs) (hM : Met l y2 (wy y2 cc2 nL2 ret2) rm2 (Pd sh N Z G (.ref (Z.2.2.1 c0) :: As) S) Qc 0 0 (aa N Z))
    (cv : CalV y2 cc2 nL2 ret2 n2) (hlk : Cond.methodLink y.cls index y2 ∈ BIG) (hc : c0 < N) (hs : sh c0 = .inl (ci, fl)) (cf : ClsF ci y2.cls T n ty) (hrm : Rms rm2 R nL2) (hn : As.length = n2) (hst : st0 = As.reverse ++ .ref (Z.2.2.1 c0) :: rest) (hl : ls.size = nL) (hw : (rest.map fun v => v.category).sum ≤ 8) (hdg : decode cc pc = .ok (.invokevirtual index, 3)) :
    va_Run p l e R s m args below meth c H locs 0 0 0 0 (F0 m pc ls st0) rest (Qc (Value.ref (Z.2.2.1 c0) :: As).toArray) (aa N Z) := by
  obtain ⟨⟨hx, hb, hml, ho, hts⟩, hr, hlo, hg⟩ := C
  obtain ⟨a1, a2, a3, a4, a5⟩ := cv
  obtain ⟨r1, r2, r3, r4⟩ := hrm
  have hin : ∀ w ∈ BIG, w.before args s = true := fun w h => hts w (List.mem_cons_of_mem _ h)
  have hB : CallB R s args y.cls index y2 cc2 nL2 ret2 (wy y2 cc2 nL2 ret2) rm2 0 0 n2 := callB_of n2 hts (good_wy a1) rfl r1 r2 (hin _ a4) (hin _ hlk) a5 ⟨r3, r4⟩
  have hp := preS_of g (av := .ref (Z.2.2.1 c0) :: As) hg hP hS
  exact va_runV (C := y2.cls) ⟨hx, hb, hml, ho, hts⟩ hM ⟨hB, hin _ a2, hin _ a3⟩ ⟨hp.1, va_recv (g.1 _ hg) hP cf.1 (by rw [wl_get hc, hs]; rfl), hp.2⟩ rfl hn hl hst (lv_room hw) hdg ⟨Nat.zero_le _, Nat.zero_le _⟩
theorem run_S {Qc : Array Value → State → Outcome → State → Prop} (g : GOK N Z G) (C : Cxt G p s m meth c args y cc nL ret) (hP : va_P Z.1 vwCl (wl sh N Z S) H) (hS : va_S (aa N Z) s.heap H locs) (hM : Met l y2 (wy y2 cc2 nL2 ret2) rm2 (Pd sh N Z G As S) Qc 0 0 (aa N Z))
    (cv : CalS y2 cc2 nL2 ret2 n2) (hlk : Cond.methodLink y.cls index y2 ∈ BIG) (hrm : Rms rm2 R nL2) (hn : As.length = n2) (hst : st0 = As.reverse ++ rest) (hl : ls.size = nL) (hw : (rest.map fun v => v.category).sum ≤ 8) (hdg : decode cc pc = .ok (.invokestatic index, 3)) :
    va_Run p l e R s m args below meth c H locs 0 0 0 0 (F0 m pc ls st0) rest (Qc As.toArray) (aa N Z) := by
  obtain ⟨⟨hx, hb, hml, ho, hts⟩, hr, hlo, hg⟩ := C
  obtain ⟨a1, a2, a4, a5⟩ := cv
  obtain ⟨r1, r2, r3, r4⟩ := hrm
  have hin : ∀ w ∈ BIG, w.before args s = true := fun w h => hts w (List.mem_cons_of_mem _ h)
  have hB : CallB R s args y.cls index y2 cc2 nL2 ret2 (wy y2 cc2 nL2 ret2) rm2 0 0 n2 := callB_of n2 hts (good_wy a1) rfl r1 r2 (hin _ a4) (hin _ hlk) a5 ⟨r3, r4⟩
  exact va_runS ⟨hx, hb, hml, ho, hts⟩ hM ⟨hB, hin _ a2⟩ (preS_of g hg hP hS) rfl hn hl hst (lv_room hw) hdg ⟨Nat.zero_le _, Nat.zero_le _⟩
theorem run_SN {Qc : Array Value → State → Outcome → State → Prop} {host : String} (g : GOK N Z G) (C : Cxt G p s m meth c args y cc nL ret) (hP : va_P Z.1 vwCl (wl sh N Z S) H) (hS : va_S (aa N Z) s.heap H locs) (hM : Met l y2 (wy y2 cc2 nL2 ret2) rm2 (Pd sh N Z G As S) Qc 0 0 (aa N Z))
    (cv : CalS y2 cc2 nL2 ret2 n2) (hlk : va_Nw (.methodLinkNest y.cls index y2 host) s) (hrm : Rms rm2 R nL2) (hn : As.length = n2) (hst : st0 = As.reverse ++ rest) (hl : ls.size = nL) (hw : (rest.map fun v => v.category).sum ≤ 8) (hdg : decode cc pc = .ok (.invokestatic index, 3)) :
    va_Run p l e R s m args below meth c H locs 0 0 0 0 (F0 m pc ls st0) rest (Qc As.toArray) (aa N Z) := by
  obtain ⟨⟨hx, hb, hml, ho, hts⟩, hr, hlo, hg⟩ := C
  obtain ⟨a1, a2, a4, a5⟩ := cv
  obtain ⟨r1, r2, r3, r4⟩ := hrm
  have hin : ∀ w ∈ BIG, w.before args s = true := fun w h => hts w (List.mem_cons_of_mem _ h)
  exact va_runSN ⟨hx, hb, hml, ho, hts⟩ hM ⟨va_cnB n2 hts (good_wy a1) rfl r1 r2 hlk (hin _ a4) a5 ⟨r3, r4⟩, hin _ a2, trivial⟩ (preS_of g hg hP hS) rfl hn hl hst (lv_room hw) hdg ⟨Nat.zero_le _, Nat.zero_le _⟩
theorem go_i {k : Int32 → St → Prop} {a : Array Value} (hr : va_Run p l e R s m args below meth c H locs 0 0 0 0 (F0 m pc ls st0) rest (va_Qi k (Bd sh N Z) (aa N Z) a) (aa N Z)) (hS : va_S (aa N Z) s.heap H locs)
    (kk : ∀ (r : Int32) (S : St) (H : Heap) (locs : List Loc), k r S → va_P Z.1 vwCl (wl sh N Z S) H → va_S (aa N Z) s.heap H locs → W p l e R s m args below meth c H locs 0 0 Q (F0 m (pc + 3) ls (.int r :: rest))) : W p l e R s m args below meth c H locs 0 0 Q (F0 m pc ls st0) :=
  va_calli hr hS (fun _ _ h => h) (fun _ h => h) (fun r u t H1 locs1 ht _ hp hB _ _ hS1 => kk r u H1 locs1 hp (by unfold Bd at hB; rw [ht] at hB; exact hB) hS1)
theorem go_l {k : Int64 → St → Prop} {a : Array Value} (hr : va_Run p l e R s m args below meth c H locs 0 0 0 0 (F0 m pc ls st0) rest (va_Ql k (Bd sh N Z) (aa N Z) a) (aa N Z)) (hS : va_S (aa N Z) s.heap H locs)
    (kk : ∀ (r : Int64) (S : St) (H : Heap) (locs : List Loc), k r S → va_P Z.1 vwCl (wl sh N Z S) H → va_S (aa N Z) s.heap H locs → W p l e R s m args below meth c H locs 0 0 Q (F0 m (pc + 3) ls (.long r :: rest))) : W p l e R s m args below meth c H locs 0 0 Q (F0 m pc ls st0) :=
  va_calll hr hS (fun _ _ h => h) (fun _ h => h) (fun r u t H1 locs1 ht _ hp hB _ _ hS1 => kk r u H1 locs1 hp (by unfold Bd at hB; rw [ht] at hB; exact hB) hS1)
theorem go_v {k : St → Prop} {a : Array Value} (hr : va_Run p l e R s m args below meth c H locs 0 0 0 0 (F0 m pc ls st0) rest (va_Qv k (Bd sh N Z) (aa N Z) a) (aa N Z)) (hS : va_S (aa N Z) s.heap H locs)
    (kk : ∀ (S : St) (H : Heap) (locs : List Loc), k S → va_P Z.1 vwCl (wl sh N Z S) H → va_S (aa N Z) s.heap H locs → W p l e R s m args below meth c H locs 0 0 Q (F0 m (pc + 3) ls rest)) : W p l e R s m args below meth c H locs 0 0 Q (F0 m pc ls st0) :=
  va_callv hr hS (fun _ _ h => h) (fun _ h => h) (fun u t H1 locs1 ht _ hp hB _ _ hS1 => kk u H1 locs1 hp (by unfold Bd at hB; rw [ht] at hB; exact hB) hS1)
theorem go_ip {k : Int32 → Prop} {a : Array Value} (hr : va_Run p l e R s m args below meth c H locs 0 0 0 0 (F0 m pc ls st0) rest (va_Qi (fun r S' => S' = S ∧ k r) (Bd sh N Z) (aa N Z) a) (aa N Z)) (hS : va_S (aa N Z) s.heap H locs)
    (kk : ∀ (r : Int32) (H : Heap) (locs : List Loc), k r → va_P Z.1 vwCl (wl sh N Z S) H → va_S (aa N Z) s.heap H locs → W p l e R s m args below meth c H locs 0 0 Q (F0 m (pc + 3) ls (.int r :: rest))) : W p l e R s m args below meth c H locs 0 0 Q (F0 m pc ls st0) :=
  go_i hr hS (fun r S1 H locs h hP hS => by obtain ⟨e1, h⟩ := h; rw [e1] at hP; exact kk r H locs h hP hS)
theorem go_lp {k : Int64 → Prop} {a : Array Value} (hr : va_Run p l e R s m args below meth c H locs 0 0 0 0 (F0 m pc ls st0) rest (va_Ql (fun r S' => S' = S ∧ k r) (Bd sh N Z) (aa N Z) a) (aa N Z)) (hS : va_S (aa N Z) s.heap H locs)
    (kk : ∀ (r : Int64) (H : Heap) (locs : List Loc), k r → va_P Z.1 vwCl (wl sh N Z S) H → va_S (aa N Z) s.heap H locs → W p l e R s m args below meth c H locs 0 0 Q (F0 m (pc + 3) ls (.long r :: rest))) : W p l e R s m args below meth c H locs 0 0 Q (F0 m pc ls st0) :=
  go_l hr hS (fun r S1 H locs h hP hS => by obtain ⟨e1, h⟩ := h; rw [e1] at hP; exact kk r H locs h hP hS)
/-! Math.min, Math.max, System.arraycopy -/
theorem s_max (C : Cxt G p s m meth c args y cc nL ret) (hl : ls.size = nL) (hlk : Cond.methodLink y.cls index yJ9_max_7cf53 ∈ BIG) (hR : 1 ≤ R.frames ∧ (rest.map fun v => v.category).sum + 13 ≤ R.locals) {x1 x2 : Int32} (hdg : decode cc pc = .ok (.invokestatic index, 3))
    (kk : W p l e R s m args below meth c H locs 0 0 Q (F0 m (pc + 3) ls (.int (if x1 < x2 then x2 else x1) :: rest))) : W p l e R s m args below meth c H locs 0 0 Q (F0 m pc ls (.int x2 :: .int x1 :: rest)) := by
  obtain ⟨⟨hx, hb, hml, ho, hts⟩, hr, hlo, hg⟩ := C
  have hin : ∀ w ∈ BIG, w.before args s = true := fun w h => hts w (List.mem_cons_of_mem _ h)
  exact va_mmax hx hb (hml.trans hl.symm) ho (hin _ hlk) (hin _ kST_J9_max_7cf53) (hin _ kIN_J9) (hin _ kCD_J9_max_7cf53) hR.1 hR.2 (Nat.zero_le _) (Nat.zero_le _) hdg kk
theorem s_min (C : Cxt G p s m meth c args y cc nL ret) (hl : ls.size = nL) (hlk : Cond.methodLink y.cls index yJ9_min_7cf53 ∈ BIG) (hR : 1 ≤ R.frames ∧ (rest.map fun v => v.category).sum + 13 ≤ R.locals) {x1 x2 : Int32} (hdg : decode cc pc = .ok (.invokestatic index, 3))
    (kk : W p l e R s m args below meth c H locs 0 0 Q (F0 m (pc + 3) ls (.int (if x2 < x1 then x2 else x1) :: rest))) : W p l e R s m args below meth c H locs 0 0 Q (F0 m pc ls (.int x2 :: .int x1 :: rest)) := by
  obtain ⟨⟨hx, hb, hml, ho, hts⟩, hr, hlo, hg⟩ := C
  have hin : ∀ w ∈ BIG, w.before args s = true := fun w h => hts w (List.mem_cons_of_mem _ h)
  exact va_mmin hx hb (hml.trans hl.symm) ho (hin _ hlk) (hin _ kST_J9_min_7cf53) (hin _ kIN_J9) (hin _ kCD_J9_min_7cf53) hR.1 hR.2 (Nat.zero_le _) (Nat.zero_le _) hdg kk
theorem s_cpI (g : GOK N Z G) (C : Cxt G p s m meth c args y cc nL ret) (hP : va_P Z.1 vwCl (wl sh N Z S) H) (hS : va_S (aa N Z) s.heap H locs) (hl : ls.size = nL) (hlk : Cond.methodLink y.cls index arraycopyName ∈ BIG) (cs cd : Nat) {ns nd bs bd : Nat} (hcs : cs < N) (hcd : cd < N) (hss : sh cs = .inr (0, ns, bs)) (hsd : sh cd = .inr (0, nd, bd)) {k : Int32}
    (h3 : ¬ k < 0) (h4 : k.toNatClampNeg ≤ ns) (h5 : k.toNatClampNeg ≤ nd) (hR : 1 ≤ R.frames ∧ (rest.map fun v => v.category).sum + (nativeFrameWords "java/lang/System" "arraycopy" 5 + 11) ≤ R.locals) (hdg : decode cc pc = .ok (.invokestatic index, 3))
    (kk : ∀ (H : Heap) (locs : List Loc), va_P Z.1 vwCl (wl sh N Z (sF S cd (va_cpy (S.1 cs) (S.1 cd) 0 0 k.toNatClampNeg))) H → va_S (aa N Z) s.heap H locs → W p l e R s m args below meth c H locs 0 0 Q (F0 m (pc + 3) ls rest)) : W p l e R s m args below meth c H locs 0 0 Q (F0 m pc ls (.int k :: .int 0 :: .ref (Z.2.2.1 cd) :: .int 0 :: .ref (Z.2.2.1 cs) :: rest)) := by
  obtain ⟨⟨hx, hb, hml, ho, hts⟩, hr, hlo, hg⟩ := C
  have hin : ∀ w ∈ BIG, w.before args s = true := fun w h => hts w (List.mem_cons_of_mem _ h)
  have h0 : (0 : Int32).toNatClampNeg = 0 := rfl
  refine va_copyi hx hb (hml.trans hl.symm) ho (hin _ hlk) (hin _ kNA_arraycopyName) (hin _ kST_arraycopyName) (hin _ kIN_J10) (g.1 _ hg) hP (wl_D g.2.1) hS cs cd 0 0 (f := S.1 cs) (g := S.1 cd) (ty := .int) (by rw [wl_get hcs, hss]; rfl) (by rw [wl_get hcd, hsd]; rfl) rfl rfl rfl (by decide) (by decide) h3 (by rw [h0, Nat.zero_add]; exact h4) (by rw [h0, Nat.zero_add]; exact h5) (fun _ _ => rfl) hR.1 hR.2 hdg (fun H1 locs1 hP1 _ hS1 => kk H1 locs1 ?_ hS1)
  rw [h0, wl_set (S' := sF S cd (va_cpy (S.1 cs) (S.1 cd) 0 0 k.toNatClampNeg)) hcd (by rw [hsd]; simp [cel, acl, sF, va_up]) (fun j h => sF_1 j h) (fun j h => sF_2 j h)] at hP1
  exact hP1
theorem s_cpJ (g : GOK N Z G) (C : Cxt G p s m meth c args y cc nL ret) (hP : va_P Z.1 vwCl (wl sh N Z S) H) (hS : va_S (aa N Z) s.heap H locs) (hl : ls.size = nL) (hlk : Cond.methodLink y.cls index arraycopyName ∈ BIG) (cs cd : Nat) {ns nd bs bd : Nat} (hcs : cs < N) (hcd : cd < N) (hss : sh cs = .inr (1, ns, bs)) (hsd : sh cd = .inr (1, nd, bd)) {k : Int32}
    (h3 : ¬ k < 0) (h4 : k.toNatClampNeg ≤ ns) (h5 : k.toNatClampNeg ≤ nd) (hR : 1 ≤ R.frames ∧ (rest.map fun v => v.category).sum + (nativeFrameWords "java/lang/System" "arraycopy" 5 + 11) ≤ R.locals) (hdg : decode cc pc = .ok (.invokestatic index, 3))
    (kk : ∀ (H : Heap) (locs : List Loc), va_P Z.1 vwCl (wl sh N Z (sG S cd (va_cpy (S.2 cs) (S.2 cd) 0 0 k.toNatClampNeg))) H → va_S (aa N Z) s.heap H locs → W p l e R s m args below meth c H locs 0 0 Q (F0 m (pc + 3) ls rest)) : W p l e R s m args below meth c H locs 0 0 Q (F0 m pc ls (.int k :: .int 0 :: .ref (Z.2.2.1 cd) :: .int 0 :: .ref (Z.2.2.1 cs) :: rest)) := by
  obtain ⟨⟨hx, hb, hml, ho, hts⟩, hr, hlo, hg⟩ := C
  have hin : ∀ w ∈ BIG, w.before args s = true := fun w h => hts w (List.mem_cons_of_mem _ h)
  have h0 : (0 : Int32).toNatClampNeg = 0 := rfl
  refine va_copyl hx hb (hml.trans hl.symm) ho (hin _ hlk) (hin _ kNA_arraycopyName) (hin _ kST_arraycopyName) (hin _ kIN_J10) (g.1 _ hg) hP (wl_D g.2.1) hS cs cd 1 1 (f := S.2 cs) (g := S.2 cd) (ty := .long) (by rw [wl_get hcs, hss]; rfl) (by rw [wl_get hcd, hsd]; rfl) rfl rfl rfl (by decide) (by decide) h3 (by rw [h0, Nat.zero_add]; exact h4) (by rw [h0, Nat.zero_add]; exact h5) (fun _ _ => rfl) hR.1 hR.2 hdg (fun H1 locs1 hP1 _ hS1 => kk H1 locs1 ?_ hS1)
  rw [h0, wl_set (S' := sG S cd (va_cpy (S.2 cs) (S.2 cd) 0 0 k.toNatClampNeg)) hcd (by rw [hsd]; simp [cel, acl, sG, va_up]) (fun j h => sG_1 j h) (fun j h => sG_2 j h)] at hP1
  exact hP1
end CA
