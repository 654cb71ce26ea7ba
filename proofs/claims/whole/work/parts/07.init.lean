/-! ===== constructors: worlds as lists that grow ===== -/
def gI (D : va_G) (cy : Nat → ClassId) (U : State) : Prop := va_K D vwCl (tysG cy) U ∧ (∀ w ∈ nestX, va_Nw w U) ∧ va_AO "FishingKites$Day" U ∧ va_AO "FishingKites$Kite" U ∧ va_AO "FishingKites$Shoal" U
theorem gI.warm {D : va_G} {cy : Nat → ClassId} {s U : State} (h : gI D cy s) (hW : s.WarmedH U.vm) : gI D cy U :=
  ⟨va_K.moved hW.alike h.1, nest_warm hW h.2.1, h.2.2.1.moved hW.alike, h.2.2.2.1.moved hW.alike, h.2.2.2.2.moved hW.alike⟩
theorem gI.call {D : va_G} {cy : Nat → ClassId} {U : State} (h : gI D cy U) (g : JFrame) (mk : MethodId) (a : Array Value) : gI D cy (State.calling U g mk a) := by
  have e : U.vm.Alike (State.calling U g mk a).vm := Vm.Alike.refl U.vm
  exact ⟨va_K.moved e h.1, nest_same (s := U) rfl h.2.1, va_AO.moved e h.2.2.1, va_AO.moved e h.2.2.2.1, va_AO.moved e h.2.2.2.2⟩
def CI (D : va_G) (cy : Nat → ClassId) (p : Program) (s : State) (m : MethodId) (meth : Method) (c : Code) (args : Array Value) (y : MethodName) (cc : ByteArray) (nL : Nat) : Prop :=
  CallFix p m c cc nL s args (.code y cc nL none :: BIG) y.cls ∧ meth.sig.returnType = none ∧ meth.locks = false ∧ meth.name = "<init>" ∧ gI D cy s
def Pn (D : va_G) (cy : Nat → ClassId) (h0 sz : Nat) (e0 : va_E) : Array Value → State → Prop := va_Pc [.ref h0] (fun U => U.heap.size = sz ∧ va_P D vwCl [(h0, e0)] U.heap ∧ gI D cy U)
def Bn (D : va_G) (A : Nat → Prop) (wf : (Nat → Nat) → va_W) (qs : Nat → Nat) (t : State) : Prop := va_P D vwCl (wf qs) t.heap ∧ va_D A (wf qs)
def Mn (l : Launch) (D : va_G) (cy : Nat → ClassId) (y : MethodName) (cc : ByteArray) (nL : Nat) (rm : Room) (h0 sz : Nat) (e0 : va_E) (wf : (Nat → Nat) → va_W) (mc ms : Nat) : Prop :=
  Met l y (wy y cc nL none) rm (Pn D cy h0 sz e0) (va_Qv (fun _ : Nat → Nat => True) (Bn D (va_A [(h0, e0)] sz) wf) (va_A [(h0, e0)] sz)) mc ms (va_A [(h0, e0)] sz)
theorem va_D.one {a : Nat} {e0 : va_E} : va_D (fun _ => True) [(a, e0)] := by
  refine ⟨fun i j p q h1 h2 _ => ?_, fun _ _ _ => trivial⟩
  have a1 := (List.getElem?_eq_some_iff.mp h1).1
  have a2 := (List.getElem?_eq_some_iff.mp h2).1
  simp at a1 a2
  omega
section IN
variable {l : Launch} {D : va_G} {cy : Nat → ClassId} {y : MethodName} {cc : ByteArray} {nL : Nat} {rm : Room} {h0 sz : Nat} {e0 : va_E} {wf : (Nat → Nat) → va_W} {mc ms : Nat}
theorem e_n (hy : plainName y.cls = true) (hyn : y.name = "<init>") (hn : 1 ≤ nL)
    (body : ∀ (p : Program) (e : Env) (s : State) (m : MethodId) (args : Array Value) (below : List Frame) (meth : Method) (c : Code) (A : Nat → Prop), CI D cy p s m meth c args y cc nL → (∀ q, s.heap.size ≤ q → A q) → va_P D vwCl [(h0, e0)] s.heap → va_D A [(h0, e0)] → va_S A s.heap s.heap [] → ∀ ls : Array Slot, lv_has ls nL [(0, .ref h0)] →
      W p l e rm s m args below meth c s.heap [] 0 0 (MQ below (va_Qv (fun _ : Nat → Nat => True) (Bn D A wf) A) args s mc ms A) (F0 m 0 ls [])) : Mn l D cy y cc nL rm h0 sz e0 wf mc ms := by
  refine Met.ofW (cc := cc) (maxL := nL) (ret := none) hy rfl ?_
  intro p e s m args below meth c s₁ B hml hv
  obtain ⟨rfl, hsz, hP, hG⟩ := hv
  subst hsz
  rw [lg_entry_eq]
  exact body p e s m _ below meth c (va_A [(h0, e0)] s.heap.size) ⟨⟨B.exec, B.bytes, hml, findClass_of_methodNamed B.named, atoms_spec (ws := wy y cc nL none) B.pre⟩, B.returns, B.notSynchronized, (name_of_methodNamed B.named B.method).1.trans hyn, hG⟩ (fun q h => Or.inr h) hP (va_D.one.self) va_S.rf _ (lv_entry [.ref h0] hn)
end IN
theorem cyEq {D : va_G} {cy : Nat → ClassId} {s : State} {cA : ClassId} {ty : FieldType} (i : Nat) (hK : va_K D vwCl (tysG cy) s) (hK1 : va_K D vwCl (tysG cy ++ [(cA, ty)]) s) (hi : (tysG cy)[i]? = some (cy i, ty)) : cA = cy i := by
  have a := (hK.2 i _ hi).2
  have b := (hK1.2 6 (cA, ty) rfl).2
  cases ty with
  | object C =>
    obtain ⟨_, _, _, _, _, a4⟩ := a
    obtain ⟨_, _, _, _, _, b4⟩ := b
    exact Option.some.inj (b4.symm.trans a4)
  | _ => exact Option.some.inj ((show s.vm.findClass _ = some cA from b).symm.trans a)
section NW
variable {p : Program} {l : Launch} {e : Env} {R : Room} {s : State} {m : MethodId} {args : Array Value} {below : List Frame} {meth : Method} {c : Code} {H : Heap} {locs : List Loc} {cells slots : Nat} {Q : State → Prop}
variable {cc : ByteArray} {pc nL index : Nat} {ls : Array Slot} {rest : List Value} {y : MethodName} {D : va_G} {cy : Nat → ClassId} {A : Nat → Prop} {ws : va_W}
theorem n_I (C : CI D cy p s m meth c args y cc nL) (hA : ∀ q, s.heap.size ≤ q → A q) (hP : va_P D vwCl ws H) (hD : va_D A ws) (hS : va_S A s.heap H locs) {n : Int32} (N' : Nat) (hn : ¬ n < 0) (hN : n.toNatClampNeg = N') (hby : N' * componentBytes .int ≤ 536870912) (hR : cells + 1 ≤ R.cells ∧ slots + N' ≤ R.slots) (hdg : decode cc pc = .ok (.newarray .int, 2))
    (kk : ∀ (q : Nat) (H : Heap), va_P D vwCl (ws ++ [(q, .inl (cy 0, N', .inl (fun _ => 0)))]) H → va_D A (ws ++ [(q, .inl (cy 0, N', .inl (fun _ => 0)))]) → va_S A s.heap H locs → W p l e R s m args below meth c H locs (cells + 1) (slots + N') Q (F0 m (pc + 2) ls (.ref q :: rest))) : W p l e R s m args below meth c H locs cells slots Q (F0 m pc ls (.int n :: rest)) := by
  obtain ⟨⟨hx, hb, hml, ho, hts⟩, hr, hlo, hin, hg⟩ := C
  refine va_newa (atype := .int) (ty := .int) (a0 := (N', .inl (fun _ => 0))) hx hb (hts _ (List.mem_cons_of_mem _ kAC_int)) rfl hg.1 hP hD hS hA (fun cA => rfl) hn hN hby hR.1 hR.2 hdg (fun q cA H1 hK1 hP1 hD1 hS1 => ?_)
  have ec := cyEq 0 hg.1 hK1 rfl
  subst ec
  exact kk q H1 hP1 hD1 hS1
theorem n_J (C : CI D cy p s m meth c args y cc nL) (hA : ∀ q, s.heap.size ≤ q → A q) (hP : va_P D vwCl ws H) (hD : va_D A ws) (hS : va_S A s.heap H locs) {n : Int32} (N' : Nat) (hn : ¬ n < 0) (hN : n.toNatClampNeg = N') (hby : N' * componentBytes .long ≤ 536870912) (hR : cells + 1 ≤ R.cells ∧ slots + N' ≤ R.slots) (hdg : decode cc pc = .ok (.newarray .long, 2))
    (kk : ∀ (q : Nat) (H : Heap), va_P D vwCl (ws ++ [(q, .inl (cy 1, N', .inr (.inl (fun _ => 0))))]) H → va_D A (ws ++ [(q, .inl (cy 1, N', .inr (.inl (fun _ => 0))))]) → va_S A s.heap H locs → W p l e R s m args below meth c H locs (cells + 1) (slots + N') Q (F0 m (pc + 2) ls (.ref q :: rest))) : W p l e R s m args below meth c H locs cells slots Q (F0 m pc ls (.int n :: rest)) := by
  obtain ⟨⟨hx, hb, hml, ho, hts⟩, hr, hlo, hin, hg⟩ := C
  refine va_newa (atype := .long) (ty := .long) (a0 := (N', .inr (.inl (fun _ => 0)))) hx hb (hts _ (List.mem_cons_of_mem _ kAC_long)) rfl hg.1 hP hD hS hA (fun cA => rfl) hn hN hby hR.1 hR.2 hdg (fun q cA H1 hK1 hP1 hD1 hS1 => ?_)
  have ec := cyEq 1 hg.1 hK1 rfl
  subst ec
  exact kk q H1 hP1 hD1 hS1
theorem n_Z (C : CI D cy p s m meth c args y cc nL) (hA : ∀ q, s.heap.size ≤ q → A q) (hP : va_P D vwCl ws H) (hD : va_D A ws) (hS : va_S A s.heap H locs) {n : Int32} (N' : Nat) (hn : ¬ n < 0) (hN : n.toNatClampNeg = N') (hby : N' * componentBytes .boolean ≤ 536870912) (hR : cells + 1 ≤ R.cells ∧ slots + N' ≤ R.slots) (hdg : decode cc pc = .ok (.newarray .boolean, 2))
    (kk : ∀ (q : Nat) (H : Heap), va_P D vwCl (ws ++ [(q, .inl (cy 2, N', .inl (fun _ => 0)))]) H → va_D A (ws ++ [(q, .inl (cy 2, N', .inl (fun _ => 0)))]) → va_S A s.heap H locs → W p l e R s m args below meth c H locs (cells + 1) (slots + N') Q (F0 m (pc + 2) ls (.ref q :: rest))) : W p l e R s m args below meth c H locs cells slots Q (F0 m pc ls (.int n :: rest)) := by
  obtain ⟨⟨hx, hb, hml, ho, hts⟩, hr, hlo, hin, hg⟩ := C
  refine va_newa (atype := .boolean) (ty := .boolean) (a0 := (N', .inl (fun _ => 0))) hx hb (hts _ (List.mem_cons_of_mem _ kAC_boolean)) rfl hg.1 hP hD hS hA (fun cA => rfl) hn hN hby hR.1 hR.2 hdg (fun q cA H1 hK1 hP1 hD1 hS1 => ?_)
  have ec := cyEq 2 hg.1 hK1 rfl
  subst ec
  exact kk q H1 hP1 hD1 hS1
theorem n_Q (C : CI D cy p s m meth c args y cc nL) (hA : ∀ q, s.heap.size ≤ q → A q) (hP : va_P D vwCl ws H) (hD : va_D A ws) (hS : va_S A s.heap H locs) {n : Int32} (t N' : Nat) {Cn : String} (ht : (tysG cy)[t]? = some (cy t, .object Cn)) (hao : va_AO Cn s) (hlk : Cond.classLink y.cls index Cn ∈ BIG) (hn : ¬ n < 0) (hN : n.toNatClampNeg = N') (hby : N' * 4 ≤ 536870912) (hR : cells + 1 ≤ R.cells ∧ slots + N' ≤ R.slots) (hdg : decode cc pc = .ok (.anewarray index, 3))
    (kk : ∀ (q : Nat) (H : Heap), va_P D vwCl (ws ++ [(q, .inl (cy t, N', .inr (.inr (.inr (.inr (fun _ => none))))))]) H → va_D A (ws ++ [(q, .inl (cy t, N', .inr (.inr (.inr (.inr (fun _ => none))))))]) → va_S A s.heap H locs → W p l e R s m args below meth c H locs (cells + 1) (slots + N') Q (F0 m (pc + 3) ls (.ref q :: rest))) : W p l e R s m args below meth c H locs cells slots Q (F0 m pc ls (.int n :: rest)) := by
  obtain ⟨⟨hx, hb, hml, ho, hts⟩, hr, hlo, hin, hg⟩ := C
  refine va_newq hx hb ho (hts _ (List.mem_cons_of_mem _ hlk)) hao hg.1 hP hD hS hA hn hN hby hR.1 hR.2 hdg (fun q cA H1 hK1 hP1 hD1 hS1 => ?_)
  have ec := cyEq t hg.1 hK1 ht
  subst ec
  exact kk q H1 hP1 hD1 hS1
theorem n_new (C : CI D cy p s m meth c args y cc nL) (hA : ∀ q, s.heap.size ≤ q → A q) (hP : va_P D vwCl ws H) (hD : va_D A ws) (hS : va_S A s.heap H locs) {ci N' : Nat} {Cn : String} {T : u_T} {ty : Nat → FieldType} (fs : List Value) (cf : ClsF ci Cn T N' ty) (hfs : ∀ j, j < N' → defaultValue (ty j) = vp_V fs j) (hlk : Cond.classLink y.cls index Cn ∈ BIG) (hin : Cond.instantiable Cn N' ∈ BIG) (hini : Cond.initialized Cn ∈ BIG) (hR : cells + 1 ≤ R.cells ∧ slots + N' ≤ R.slots) (hdg : decode cc pc = .ok (.new index, 3))
    (kk : ∀ (q : Nat) (H : Heap), va_P D vwCl (ws ++ [(q, .inr (ci, fs))]) H → va_D A (ws ++ [(q, .inr (ci, fs))]) → va_S A s.heap H locs → W p l e R s m args below meth c H locs (cells + 1) (slots + N') Q (F0 m (pc + 3) ls (.ref q :: rest))) : W p l e R s m args below meth c H locs cells slots Q (F0 m pc ls rest) := by
  obtain ⟨⟨hx, hb, hml, ho, hts⟩, hr, hlo, hnm, hg⟩ := C
  exact va_new hx hb hts (fun w h => List.mem_cons_of_mem _ (cf.2.1 w h)) ty cf.2.2.1 ho (hts _ (List.mem_cons_of_mem _ hlk)) (hts _ (List.mem_cons_of_mem _ hin)) (hts _ (List.mem_cons_of_mem _ hini)) hg.1 hP hD hS hA cf.1 hfs hR.1 hR.2 hdg kk
theorem n_putF (C : CI D cy p s m meth c args y cc nL) (hP : va_P D vwCl ws H) (hD : va_D A ws) (hS : va_S A s.heap H locs) (q0 k : Nat) {a ci n : Nat} {fs : List Value} {Cn : String} {T : u_T} {ty : Nat → FieldType} {v : Value} (he : ws[q0]? = some (a, .inr (ci, fs))) (cf : ClsF ci Cn T n ty) (hk : k < n) (hfin : (T k).2.2.2 = true) (hdc : (T k).1 = y.cls) (hn : narrow (ty k) v = v) (hfit : fits (ty k) v = true) (hl : k < fs.length) (hlk : Cond.fieldLink y.cls index (T k).1 (T k).2.1 (T k).2.2.1 ∈ BIG) (hdg : decode cc pc = .ok (.putfield index, 3))
    (kk : ∀ (H : Heap) (locs : List Loc), va_P D vwCl (ws.set q0 (a, .inr (ci, fs.set k v))) H → va_D A (ws.set q0 (a, .inr (ci, fs.set k v))) → va_S A s.heap H locs → W p l e R s m args below meth c H locs cells slots Q (F0 m (pc + 3) ls rest)) : W p l e R s m args below meth c H locs cells slots Q (F0 m pc ls (v :: .ref a :: rest)) := by
  obtain ⟨⟨hx, hb, hml, ho, hts⟩, hr, hlo, hnm, hg⟩ := C
  exact va_putF hx hb hts (fun w h => List.mem_cons_of_mem _ (cf.2.1 w h)) ty cf.2.2.1 cf.2.2.2 ho hg.1 hP hD hS q0 he cf.1 k hk (hts _ (List.mem_cons_of_mem _ hlk)) (fun _ h => h) hfin hnm hdc (cf.2.2.1 k hk) hn hfit hl hdg kk
theorem n_put (C : CI D cy p s m meth c args y cc nL) (hP : va_P D vwCl ws H) (hD : va_D A ws) (hS : va_S A s.heap H locs) (q0 k : Nat) {a ci n : Nat} {fs : List Value} {Cn : String} {T : u_T} {ty : Nat → FieldType} {v : Value} (he : ws[q0]? = some (a, .inr (ci, fs))) (cf : ClsF ci Cn T n ty) (hk : k < n) (hfin : (T k).2.2.2 = false) (hn : narrow (ty k) v = v) (hfit : fits (ty k) v = true) (hl : k < fs.length) (hlk : Cond.fieldLink y.cls index (T k).1 (T k).2.1 (T k).2.2.1 ∈ BIG) (hdg : decode cc pc = .ok (.putfield index, 3))
    (kk : ∀ (H : Heap) (locs : List Loc), va_P D vwCl (ws.set q0 (a, .inr (ci, fs.set k v))) H → va_D A (ws.set q0 (a, .inr (ci, fs.set k v))) → va_S A s.heap H locs → W p l e R s m args below meth c H locs cells slots Q (F0 m (pc + 3) ls rest)) : W p l e R s m args below meth c H locs cells slots Q (F0 m pc ls (v :: .ref a :: rest)) := by
  obtain ⟨⟨hx, hb, hml, ho, hts⟩, hr, hlo, hnm, hg⟩ := C
  exact va_put hx hb hts (fun w h => List.mem_cons_of_mem _ (cf.2.1 w h)) ty cf.2.2.1 cf.2.2.2 ho hg.1 hP hD hS q0 he cf.1 k hk (hts _ (List.mem_cons_of_mem _ hlk)) (fun _ h => h) hfin (cf.2.2.1 k hk) hn hfit hl hdg kk
theorem n_get (C : CI D cy p s m meth c args y cc nL) (hP : va_P D vwCl ws H) (q0 k : Nat) {a ci n : Nat} {fs : List Value} {Cn : String} {T : u_T} {ty : Nat → FieldType} {v : Value} (he : ws[q0]? = some (a, .inr (ci, fs))) (cf : ClsF ci Cn T n ty) (hk : k < n) (hv : fs[k]? = some v) (hlk : Cond.fieldLink y.cls index (T k).1 (T k).2.1 (T k).2.2.1 ∈ BIG) (hdg : decode cc pc = .ok (.getfield index, 3))
    (kk : W p l e R s m args below meth c H locs cells slots Q (F0 m (pc + 3) ls (v :: rest))) : W p l e R s m args below meth c H locs cells slots Q (F0 m pc ls (.ref a :: rest)) := by
  obtain ⟨⟨hx, hb, hml, ho, hts⟩, hr, hlo, hnm, hg⟩ := C
  exact va_get hx hb hts (fun w h => List.mem_cons_of_mem _ (cf.2.1 w h)) ho hg.1 hP q0 he cf.1 k hk (hts _ (List.mem_cons_of_mem _ hlk)) (fun _ h => h) hv hdg kk
theorem n_ast (C : CI D cy p s m meth c args y cc nL) (hP : va_P D vwCl ws H) (hD : va_D A ws) (hS : va_S A s.heap H locs) (q0 t qk ci : Nat) {a n v : Nat} {vs : List Value} {f : Nat → Option Nat} {r : vw_C} (ha : ws[q0]? = some (a, .inl (cy t, n, .inr (.inr (.inr (.inr f)))))) (ht : (tysG cy)[t]? = some (cy t, .object r.1)) (hv : ws[qk]? = some (v, .inr (ci, vs))) (hc : vwCl[ci]? = some r) {i : Int32} (hin : vp_in i n) (hdg : decode cc pc = .ok (.aastore, 1))
    (kk : ∀ (H : Heap) (locs : List Loc), va_P D vwCl (ws.set q0 (a, .inl (cy t, n, .inr (.inr (.inr (.inr (va_up f i.toNatClampNeg (some v)))))))) H → va_D A (ws.set q0 (a, .inl (cy t, n, .inr (.inr (.inr (.inr (va_up f i.toNatClampNeg (some v)))))))) → va_S A s.heap H locs → W p l e R s m args below meth c H locs cells slots Q (F0 m (pc + 1) ls rest)) : W p l e R s m args below meth c H locs cells slots Q (F0 m pc ls (.ref v :: .int i :: .ref a :: rest)) := by
  obtain ⟨⟨hx, hb, hml, ho, hts⟩, hr, hlo, hnm, hg⟩ := C
  exact va_astq hx hb hg.1 hP hD hS q0 t qk ci ha ht hv hc hin hdg kk
theorem n_obj (C : CI D cy p s m meth c args y cc nL) (hl : ls.size = nL) {a : Nat} (hlk : Cond.methodLink y.cls index objectInit ∈ BIG) (hR : 1 ≤ R.frames ∧ (rest.map fun v => v.category).sum + 12 ≤ R.locals) (hdg : decode cc pc = .ok (.invokespecial index, 3))
    (kk : W p l e R s m args below meth c H locs cells slots Q (F0 m (pc + 3) ls rest)) : W p l e R s m args below meth c H locs cells slots Q (F0 m pc ls (.ref a :: rest)) := by
  obtain ⟨⟨hx, hb, hml, ho, hts⟩, hr, hlo, hnm, hg⟩ := C
  have hin : ∀ w ∈ BIG, w.before args s = true := fun w h => hts w (List.mem_cons_of_mem _ h)
  exact W.objInit hx hb ho (hin _ hlk) (hin _ kIM_objectInit) (hin _ kCD_objectInit) rfl (by rw [hml]; exact hl) rfl hdg hR.1 (by show 2 * 0 + _ + 12 ≤ _; omega) kk
theorem n_ret {wf : (Nat → Nat) → va_W} (C : CI D cy p s m meth c args y cc nL) (qs : Nat → Nat) (hP : va_P D vwCl (wf qs) H) (hD : va_D A (wf qs)) (hS : va_S A s.heap H locs) (hdg : decode cc pc = .ok (.return_, 1)) : W p l e R s m args below meth c H locs cells slots (MQ below (va_Qv (fun _ : Nat → Nat => True) (Bn D A wf) A) args s cells slots A) (F0 m pc ls []) := by
  obtain ⟨⟨hx, hb, hml, ho, hts⟩, hr, hlo, hnm, hg⟩ := C
  exact W.vret hx hb hr (fun t ht hW => ⟨⟨qs, rfl, trivial, by rw [ht]; exact hP, hD⟩, hS.F ht⟩) hS.2.2 hdg hlo
/-- a constructor is called on the cell at place q0 -/
theorem n_call {wf : (Nat → Nat) → va_W} {y2 : MethodName} {cc2 : ByteArray} {nL2 mc ms a : Nat} {rm2 : Room} {e0 : va_E} {wr : va_W} (C : CI D cy p s m meth c args y cc nL) (hA : ∀ q, s.heap.size ≤ q → A q) (hP : va_P D vwCl ws H) (hD : va_D A ws) (hS : va_S A s.heap H locs) (hl : ls.size = nL) (q0 : Nat) (isR : List Nat)
    (hM : Mn l D cy y2 cc2 nL2 rm2 a H.size e0 wf mc ms) (hq : ws[q0]? = some (a, e0)) (hR : isR.map (fun i => ws[i]?) = wr.map some) (hnd : va_nd isR = true) (hdis : ∀ i ∈ isR, i ∉ [q0])
    (hcd : Cond.code y2 cc2 nL2 none ∈ BIG) (him : Cond.instanceMethod y2 ∈ BIG) (hini : Cond.initialized y2.cls ∈ BIG) (hy1 : y2.name = "<init>") (hd : y2.cls ≠ "java/lang/invoke/MethodHandle" ∧ y2.cls ≠ "java/lang/invoke/VarHandle" ∧ (parseMethodDescriptor y2.desc).map (fun d => d.parameters.length) = some 0)
    (hlk : Cond.methodLink y.cls index y2 ∈ BIG ∨ ∃ host, va_Nw (.methodLinkNest y.cls index y2 host) s)
    (hrm : rm2.cells = mc ∧ rm2.slots = ms ∧ rm2.frames + 1 ≤ R.frames ∧ 8 + (nL2 + 11) + rm2.locals ≤ R.locals) (hcs : cells + mc ≤ R.cells ∧ slots + ms ≤ R.slots) (hw : (rest.map fun v => v.category).sum ≤ 8) (hdg : decode cc pc = .ok (.invokespecial index, 3))
    (kk : ∀ (qs : Nat → Nat) (H : Heap) (locs : List Loc), va_P D vwCl (wr ++ wf qs) H → va_D A (wr ++ wf qs) → va_S A s.heap H locs → W p l e R s m args below meth c H locs (cells + mc) (slots + ms) Q (F0 m (pc + 3) ls rest)) : W p l e R s m args below meth c H locs cells slots Q (F0 m pc ls (.ref a :: rest)) := by
  obtain ⟨⟨hx, hb, hml, ho, hts⟩, hr, hlo, hnm, hg⟩ := C
  have hin : ∀ w ∈ BIG, w.before args s = true := fun w h => hts w (List.mem_cons_of_mem _ h)
  obtain ⟨r1, r2, r3, r4⟩ := hrm
  have hC : [q0].map (fun i => ws[i]?) = [(a, e0)].map some := by simp [hq]
  have hPc : va_P D vwCl [(a, e0)] H := fun k q hk => by
    have hk1 := (List.getElem?_eq_some_iff.mp hk).1
    simp at hk1
    subst hk1
    cases hk
    exact hP q0 _ hq
  have hFc := va_free (wc := [(a, e0)]) hD hS hA [q0] hC
  have hp : PreS s H (Pn D cy a H.size e0) (.ref a :: []) := ⟨fun a1 U gg mk h => ⟨h.1, h.2.1, h.2.2.1, h.2.2.2.call gg mk a1⟩, fun U hU hW => ⟨rfl, by rw [hU], by rw [hU]; exact hPc, hg.warm hW⟩⟩
  have hrun : va_Run p l e R s m args below meth c H locs cells slots mc ms (F0 m pc ls (.ref a :: rest)) rest (va_Qv (fun _ : Nat → Nat => True) (Bn D (va_A [(a, e0)] H.size) wf) (va_A [(a, e0)] H.size) (Value.ref a :: []).toArray) (va_A [(a, e0)] H.size) := by
    rcases hlk with hlk | ⟨host, hlk⟩
    · exact va_runI (As := []) ⟨hx, hb, hml, ho, hts⟩ hM ⟨callB_of 0 hts (good_wy hcd) rfl r1 r2 (hin _ hini) (hin _ hlk) hd ⟨r3, r4⟩, hy1, hin _ him⟩ hp rfl rfl hl rfl (lv_room hw) hdg hcs
    · exact va_runIN (As := []) ⟨hx, hb, hml, ho, hts⟩ hM ⟨va_cnB 0 hts (good_wy hcd) rfl r1 r2 hlk (hin _ hini) hd ⟨r3, r4⟩, hy1, hin _ him⟩ hp rfl rfl hl rfl (lv_room hw) hdg hcs
  refine va_callv hrun hS (fun q _ h => hFc q h) hFc (fun qs t H1 locs1 ht hvm _ hB hz1 hk1 hS1 => ?_)
  obtain ⟨hP1, hD1⟩ := hB
  rw [ht] at hP1
  obtain ⟨hP2, hD2⟩ := va_join hP hD [q0] isR hC hR hnd hdis hk1 hFc hP1 hD1
  exact kk qs H1 locs1 hP2 hD2 hS1
end NW
