/-! ===== the picture of one side: cells by number; what they hold ===== -/
abbrev St : Type := (Nat → Nat → Int32) × (Nat → Nat → Int64)
abbrev Dsc : Type := (Nat × List Nat) ⊕ (Nat × Nat × Nat)
abbrev ZT : Type := va_G × (Nat → ClassId) × (Nat → Nat) × (Nat → Nat)
/-- a field: 0 an int, 1 a long, r + 2 the cell r -/
def fvl (ad : Nat → Nat) (S : St) (c k f : Nat) : Value := match f with
  | 0 => .int (S.1 c k)
  | 1 => .long (S.2 c k)
  | r + 2 => .ref (ad r)
def fls (ad : Nat → Nat) (S : St) (c : Nat) : Nat → List Nat → List Value
  | _, [] => []
  | k, f :: l => fvl ad S c k f :: fls ad S c (k + 1) l
/-- what an array of kind kd holds: 0 ints, 1 longs, 2 booleans, 3 the cells 33 + 7 (b + j), others cells from b on -/
def acl (ad : Nat → Nat) (S : St) (c b : Nat) (kd : Nat) : (Nat → Int32) ⊕ (Nat → Int64) ⊕ (Nat → UInt32) ⊕ (Nat → UInt64) ⊕ (Nat → Option Nat) := match kd with
  | 0 => .inl (S.1 c)
  | 1 => .inr (.inl (S.2 c))
  | 2 => .inl (S.1 c)
  | 3 => .inr (.inr (.inr (.inr (fun j => some (ad (33 + 7 * (b + j)))))))
  | _ + 4 => .inr (.inr (.inr (.inr (fun j => some (ad (b + j))))))
def cel (cy : Nat → ClassId) (ad : Nat → Nat) (S : St) (c : Nat) (d : Dsc) : va_E := match d with
  | .inl o => .inr (o.1, fls ad S c 0 o.2)
  | .inr a => .inl (cy a.1, a.2.1, acl ad S c a.2.2 a.1)
def wl (sh : Nat → Dsc) (N : Nat) (Z : ZT) (S : St) : va_W := (List.range N).map (fun c => (Z.2.2.1 c, cel Z.2.1 Z.2.2.1 S c (sh c)))
def aa (N : Nat) (Z : ZT) : Nat → Prop := fun q => ∃ c, c < N ∧ Z.2.2.1 c = q
abbrev tysG (cy : Nat → ClassId) : List (ClassId × FieldType) := [(cy 0, .int), (cy 1, .long), (cy 2, .boolean), (cy 3, .object "FishingKites$Day"), (cy 4, .object "FishingKites$Kite"), (cy 5, .object "FishingKites$Shoal")]
def GOK (N : Nat) (Z : ZT) (G : State → Prop) : Prop :=
  (∀ U, G U → va_K Z.1 vwCl (tysG Z.2.1) U) ∧ (∀ i j, i < N → j < N → Z.2.2.1 i = Z.2.2.1 j → i = j) ∧
  (∀ (s U : State) (H : Heap) (locs : List Loc), G s → va_S (aa N Z) s.heap H locs → U.heap = H → s.WarmedH U.vm → G U) ∧ (∀ (U : State) (g : JFrame) (mk : MethodId) (a : Array Value), G U → G (State.calling U g mk a))
def ClsF (ci : Nat) (Cn : String) (T : u_T) (n : Nat) (ty : Nat → FieldType) : Prop :=
  vwCl[ci]? = some (Cn, T, n) ∧ (∀ w ∈ u_ws Cn T n, w ∈ BIG) ∧ (∀ k, k < n → parseFieldDescriptor (T k).2.2.1 = some (ty k)) ∧ (∀ a, a < n → ∀ b, b < n → a ≠ b → (T a).2.1 ≠ (T b).2.1)
def Cxt (G : State → Prop) (p : Program) (s : State) (m : MethodId) (meth : Method) (c : Code) (args : Array Value) (y : MethodName) (cc : ByteArray) (nL : Nat) (ret : Option FieldType) : Prop :=
  CallFix p m c cc nL s args (.code y cc nL ret :: BIG) y.cls ∧ meth.sig.returnType = ret ∧ meth.locks = false ∧ G s
/-! what is written -/
def sF (S : St) (c : Nat) (f : Nat → Int32) : St := (va_up S.1 c f, S.2)
def sG (S : St) (c : Nat) (f : Nat → Int64) : St := (S.1, va_up S.2 c f)
def sI (S : St) (c k : Nat) (v : Int32) : St := sF S c (upd (S.1 c) k v)
def sJ (S : St) (c k : Nat) (v : Int64) : St := sG S c (vp_updL (S.2 c) k v)
theorem fls_get (ad : Nat → Nat) (S : St) (c : Nat) : ∀ (fl : List Nat) (k0 k : Nat), (fls ad S c k0 fl)[k]? = (fl[k]?).map (fun f => fvl ad S c (k0 + k) f) := by
  intro fl
  induction fl with
  | nil => intro k0 k; simp [fls]
  | cons f l ih =>
    intro k0 k
    cases k with
    | zero => simp [fls]
    | succ k => simp only [fls, List.getElem?_cons_succ, ih]; rw [show k0 + 1 + k = k0 + (k + 1) by omega]
theorem fls_congr (ad : Nat → Nat) {S S' : St} {c : Nat} (h1 : S'.1 c = S.1 c) (h2 : S'.2 c = S.2 c) : ∀ (fl : List Nat) (k : Nat), fls ad S' c k fl = fls ad S c k fl := by
  intro fl
  induction fl with
  | nil => intro k; rfl
  | cons f l ih =>
    intro k
    simp only [fls, ih]
    congr 1
    match f with
    | 0 => simp only [fvl, h1]
    | 1 => simp only [fvl, h2]
    | r + 2 => rfl
theorem cel_congr (cy : Nat → ClassId) (ad : Nat → Nat) {S S' : St} {c : Nat} (h1 : S'.1 c = S.1 c) (h2 : S'.2 c = S.2 c) (d : Dsc) : cel cy ad S' c d = cel cy ad S c d := by
  match d with
  | .inl o => simp only [cel, fls_congr ad h1 h2]
  | .inr (kd, n, b) =>
    match kd with
    | 0 => simp only [cel, acl, h1]
    | 1 => simp only [cel, acl, h2]
    | 2 => simp only [cel, acl, h1]
    | 3 => simp only [cel, acl]
    | k + 4 => simp only [cel, acl]
theorem wl_get {sh : Nat → Dsc} {N : Nat} {Z : ZT} {S : St} {c : Nat} (h : c < N) : (wl sh N Z S)[c]? = some (Z.2.2.1 c, cel Z.2.1 Z.2.2.1 S c (sh c)) := by
  simp [wl, h]
theorem wl_set {sh : Nat → Dsc} {N : Nat} {Z : ZT} {S S' : St} {c : Nat} (h : c < N) {e : va_E} (he : e = cel Z.2.1 Z.2.2.1 S' c (sh c)) (h1 : ∀ j, j ≠ c → S'.1 j = S.1 j) (h2 : ∀ j, j ≠ c → S'.2 j = S.2 j) : (wl sh N Z S).set c (Z.2.2.1 c, e) = wl sh N Z S' := by
  apply List.ext_getElem?
  intro i
  have hl : c < (wl sh N Z S).length := by simp [wl, h]
  by_cases hi : i = c
  · subst hi
    rw [List.getElem?_set_self hl, wl_get h, he]
  · rw [List.getElem?_set_ne (Ne.symm hi)]
    by_cases hN : i < N
    · rw [wl_get hN, wl_get hN, cel_congr _ _ (h1 i hi) (h2 i hi)]
    · rw [List.getElem?_eq_none (by simp [wl]; omega), List.getElem?_eq_none (by simp [wl]; omega)]
theorem wl_D {sh : Nat → Dsc} {N : Nat} {Z : ZT} {S : St} (hi : ∀ i j, i < N → j < N → Z.2.2.1 i = Z.2.2.1 j → i = j) : va_D (aa N Z) (wl sh N Z S) := by
  have key : ∀ (k : Nat) (q : Nat × va_E), (wl sh N Z S)[k]? = some q → k < N ∧ q.1 = Z.2.2.1 k := by
    intro k q h
    have hk : k < N := by
      have := (List.getElem?_eq_some_iff.mp h).1
      simpa [wl] using this
    rw [wl_get hk] at h
    cases h
    exact ⟨hk, rfl⟩
  refine ⟨fun i j p q h1 h2 h3 => ?_, fun k q h => ?_⟩
  · obtain ⟨a1, a2⟩ := key i p h1
    obtain ⟨b1, b2⟩ := key j q h2
    exact hi i j a1 b1 (by rw [← a2, ← b2, h3])
  · obtain ⟨a1, a2⟩ := key k q h
    exact ⟨k, a1, a2.symm⟩
theorem sF_1 {S : St} {c : Nat} {f : Nat → Int32} (j : Nat) (h : j ≠ c) : (sF S c f).1 j = S.1 j := va_up_ne _ _ h
theorem sF_2 {S : St} {c : Nat} {f : Nat → Int32} (j : Nat) (_ : j ≠ c) : (sF S c f).2 j = S.2 j := rfl
theorem sG_1 {S : St} {c : Nat} {f : Nat → Int64} (j : Nat) (_ : j ≠ c) : (sG S c f).1 j = S.1 j := rfl
theorem sG_2 {S : St} {c : Nat} {f : Nat → Int64} (j : Nat) (h : j ≠ c) : (sG S c f).2 j = S.2 j := va_up_ne _ _ h
theorem fls_setI (ad : Nat → Nat) (S : St) (c k : Nat) (v : Int32) (fl : List Nat) (hf : fl[k]? = some 0) : (fls ad S c 0 fl).set k (.int v) = fls ad (sI S c k v) c 0 fl := by
  have hl : k < (fls ad S c 0 fl).length := by
    have h := fls_get ad S c fl 0 k
    rw [hf] at h
    exact (List.getElem?_eq_some_iff.mp h).1
  apply List.ext_getElem?
  intro i
  by_cases hi : i = k
  · subst hi
    rw [List.getElem?_set_self hl, fls_get, hf]
    simp [fvl, sI, sF, va_up, upd]
  · rw [List.getElem?_set_ne (Ne.symm hi), fls_get, fls_get]
    congr 1
    funext f
    match f with
    | 0 => simp [fvl, sI, sF, va_up, upd, hi]
    | 1 => rfl
    | r + 2 => rfl
theorem fls_setJ (ad : Nat → Nat) (S : St) (c k : Nat) (v : Int64) (fl : List Nat) (hf : fl[k]? = some 1) : (fls ad S c 0 fl).set k (.long v) = fls ad (sJ S c k v) c 0 fl := by
  have hl : k < (fls ad S c 0 fl).length := by
    have h := fls_get ad S c fl 0 k
    rw [hf] at h
    exact (List.getElem?_eq_some_iff.mp h).1
  apply List.ext_getElem?
  intro i
  by_cases hi : i = k
  · subst hi
    rw [List.getElem?_set_self hl, fls_get, hf]
    simp [fvl, sJ, sG, va_up, vp_updL]
  · rw [List.getElem?_set_ne (Ne.symm hi), fls_get, fls_get]
    congr 1
    funext f
    match f with
    | 0 => rfl
    | 1 => simp [fvl, sJ, sG, va_up, vp_updL, hi]
    | r + 2 => rfl
section FR
variable {p : Program} {l : Launch} {e : Env} {R : Room} {s : State} {m : MethodId} {args : Array Value} {below : List Frame} {meth : Method} {c : Code} {H : Heap} {locs : List Loc} {cells slots : Nat} {Q : State → Prop}
variable {cc : ByteArray} {pc nL : Nat} {ls : Array Slot} {rest : List Value} {G : State → Prop} {y : MethodName} {ret : Option FieldType} {sh : Nat → Dsc} {N : Nat} {Z : ZT} {S : St}
/-! fields -/
theorem s_gI (g : GOK N Z G) (C : Cxt G p s m meth c args y cc nL ret) (hP : va_P Z.1 vwCl (wl sh N Z S) H) (c0 k : Nat) {ci n index : Nat} {fl : List Nat} {Cn : String} {T : u_T} {ty : Nat → FieldType} (hc : c0 < N) (hs : sh c0 = .inl (ci, fl)) (hf : fl[k]? = some 0) (cf : ClsF ci Cn T n ty) (hk : k < n) (hlk : Cond.fieldLink y.cls index (T k).1 (T k).2.1 (T k).2.2.1 ∈ BIG) (hdg : decode cc pc = .ok (.getfield index, 3))
    (kk : W p l e R s m args below meth c H locs cells slots Q (F0 m (pc + 3) ls (.int (S.1 c0 k) :: rest))) : W p l e R s m args below meth c H locs cells slots Q (F0 m pc ls (.ref (Z.2.2.1 c0) :: rest)) := by
  obtain ⟨⟨hx, hb, hml, ho, hts⟩, hr, hlo, hg⟩ := C
  exact va_get hx hb hts (fun w h => List.mem_cons_of_mem _ (cf.2.1 w h)) ho (g.1 _ hg) hP c0 (by rw [wl_get hc, hs]; rfl) cf.1 k hk (hts _ (List.mem_cons_of_mem _ hlk)) (fun _ h => h) (by rw [fls_get, hf, Nat.zero_add]; rfl) hdg kk
theorem s_gJ (g : GOK N Z G) (C : Cxt G p s m meth c args y cc nL ret) (hP : va_P Z.1 vwCl (wl sh N Z S) H) (c0 k : Nat) {ci n index : Nat} {fl : List Nat} {Cn : String} {T : u_T} {ty : Nat → FieldType} (hc : c0 < N) (hs : sh c0 = .inl (ci, fl)) (hf : fl[k]? = some 1) (cf : ClsF ci Cn T n ty) (hk : k < n) (hlk : Cond.fieldLink y.cls index (T k).1 (T k).2.1 (T k).2.2.1 ∈ BIG) (hdg : decode cc pc = .ok (.getfield index, 3))
    (kk : W p l e R s m args below meth c H locs cells slots Q (F0 m (pc + 3) ls (.long (S.2 c0 k) :: rest))) : W p l e R s m args below meth c H locs cells slots Q (F0 m pc ls (.ref (Z.2.2.1 c0) :: rest)) := by
  obtain ⟨⟨hx, hb, hml, ho, hts⟩, hr, hlo, hg⟩ := C
  exact va_get hx hb hts (fun w h => List.mem_cons_of_mem _ (cf.2.1 w h)) ho (g.1 _ hg) hP c0 (by rw [wl_get hc, hs]; rfl) cf.1 k hk (hts _ (List.mem_cons_of_mem _ hlk)) (fun _ h => h) (by rw [fls_get, hf, Nat.zero_add]; rfl) hdg kk
theorem s_gR (g : GOK N Z G) (C : Cxt G p s m meth c args y cc nL ret) (hP : va_P Z.1 vwCl (wl sh N Z S) H) (c0 k r : Nat) {ci n index : Nat} {fl : List Nat} {Cn : String} {T : u_T} {ty : Nat → FieldType} (hc : c0 < N) (hs : sh c0 = .inl (ci, fl)) (hf : fl[k]? = some (r + 2)) (cf : ClsF ci Cn T n ty) (hk : k < n) (hlk : Cond.fieldLink y.cls index (T k).1 (T k).2.1 (T k).2.2.1 ∈ BIG) (hdg : decode cc pc = .ok (.getfield index, 3))
    (kk : W p l e R s m args below meth c H locs cells slots Q (F0 m (pc + 3) ls (.ref (Z.2.2.1 r) :: rest))) : W p l e R s m args below meth c H locs cells slots Q (F0 m pc ls (.ref (Z.2.2.1 c0) :: rest)) := by
  obtain ⟨⟨hx, hb, hml, ho, hts⟩, hr, hlo, hg⟩ := C
  exact va_get hx hb hts (fun w h => List.mem_cons_of_mem _ (cf.2.1 w h)) ho (g.1 _ hg) hP c0 (by rw [wl_get hc, hs]; rfl) cf.1 k hk (hts _ (List.mem_cons_of_mem _ hlk)) (fun _ h => h) (by rw [fls_get, hf]; rfl) hdg kk
theorem s_pI (g : GOK N Z G) (C : Cxt G p s m meth c args y cc nL ret) (hP : va_P Z.1 vwCl (wl sh N Z S) H) (hS : va_S (aa N Z) s.heap H locs) (c0 k : Nat) {ci n index : Nat} {fl : List Nat} {Cn : String} {T : u_T} {ty : Nat → FieldType} {v : Int32} (hc : c0 < N) (hs : sh c0 = .inl (ci, fl)) (hf : fl[k]? = some 0) (cf : ClsF ci Cn T n ty) (hk : k < n) (hfin : (T k).2.2.2 = false) (hn : narrow (ty k) (.int v) = .int v) (hfit : fits (ty k) (.int v) = true) (hlk : Cond.fieldLink y.cls index (T k).1 (T k).2.1 (T k).2.2.1 ∈ BIG) (hdg : decode cc pc = .ok (.putfield index, 3))
    (kk : ∀ (H : Heap) (locs : List Loc), va_P Z.1 vwCl (wl sh N Z (sI S c0 k v)) H → va_S (aa N Z) s.heap H locs → W p l e R s m args below meth c H locs cells slots Q (F0 m (pc + 3) ls rest)) : W p l e R s m args below meth c H locs cells slots Q (F0 m pc ls (.int v :: .ref (Z.2.2.1 c0) :: rest)) := by
  obtain ⟨⟨hx, hb, hml, ho, hts⟩, hr, hlo, hg⟩ := C
  have hl : k < (fls Z.2.2.1 S c0 0 fl).length := by
    have h := fls_get Z.2.2.1 S c0 fl 0 k
    rw [hf] at h
    exact (List.getElem?_eq_some_iff.mp h).1
  refine va_put hx hb hts (fun w h => List.mem_cons_of_mem _ (cf.2.1 w h)) ty cf.2.2.1 cf.2.2.2 ho (g.1 _ hg) hP (wl_D g.2.1) hS c0 (by rw [wl_get hc, hs]; rfl) cf.1 k hk (hts _ (List.mem_cons_of_mem _ hlk)) (fun _ h => h) hfin (cf.2.2.1 k hk) hn hfit hl hdg (fun H1 locs1 hP1 _ hS1 => kk H1 locs1 ?_ hS1)
  rw [fls_setI _ _ _ _ _ _ hf, wl_set (S' := sI S c0 k v) hc (by rw [hs]; rfl) (fun j h => sF_1 j h) (fun j h => sF_2 j h)] at hP1
  exact hP1
theorem s_pJ (g : GOK N Z G) (C : Cxt G p s m meth c args y cc nL ret) (hP : va_P Z.1 vwCl (wl sh N Z S) H) (hS : va_S (aa N Z) s.heap H locs) (c0 k : Nat) {ci n index : Nat} {fl : List Nat} {Cn : String} {T : u_T} {ty : Nat → FieldType} {v : Int64} (hc : c0 < N) (hs : sh c0 = .inl (ci, fl)) (hf : fl[k]? = some 1) (cf : ClsF ci Cn T n ty) (hk : k < n) (hfin : (T k).2.2.2 = false) (hn : narrow (ty k) (.long v) = .long v) (hfit : fits (ty k) (.long v) = true) (hlk : Cond.fieldLink y.cls index (T k).1 (T k).2.1 (T k).2.2.1 ∈ BIG) (hdg : decode cc pc = .ok (.putfield index, 3))
    (kk : ∀ (H : Heap) (locs : List Loc), va_P Z.1 vwCl (wl sh N Z (sJ S c0 k v)) H → va_S (aa N Z) s.heap H locs → W p l e R s m args below meth c H locs cells slots Q (F0 m (pc + 3) ls rest)) : W p l e R s m args below meth c H locs cells slots Q (F0 m pc ls (.long v :: .ref (Z.2.2.1 c0) :: rest)) := by
  obtain ⟨⟨hx, hb, hml, ho, hts⟩, hr, hlo, hg⟩ := C
  have hl : k < (fls Z.2.2.1 S c0 0 fl).length := by
    have h := fls_get Z.2.2.1 S c0 fl 0 k
    rw [hf] at h
    exact (List.getElem?_eq_some_iff.mp h).1
  refine va_put hx hb hts (fun w h => List.mem_cons_of_mem _ (cf.2.1 w h)) ty cf.2.2.1 cf.2.2.2 ho (g.1 _ hg) hP (wl_D g.2.1) hS c0 (by rw [wl_get hc, hs]; rfl) cf.1 k hk (hts _ (List.mem_cons_of_mem _ hlk)) (fun _ h => h) hfin (cf.2.2.1 k hk) hn hfit hl hdg (fun H1 locs1 hP1 _ hS1 => kk H1 locs1 ?_ hS1)
  rw [fls_setJ _ _ _ _ _ _ hf, wl_set (S' := sJ S c0 k v) hc (by rw [hs]; rfl) (fun j h => sG_1 j h) (fun j h => sG_2 j h)] at hP1
  exact hP1
/-! arrays -/
theorem s_aI (g : GOK N Z G) (C : Cxt G p s m meth c args y cc nL ret) (hP : va_P Z.1 vwCl (wl sh N Z S) H) (c0 : Nat) {n b : Nat} (hc : c0 < N) (hs : sh c0 = .inr (0, n, b)) {i : Int32} (hin : vp_in i n) (hdg : decode cc pc = .ok (.iaload, 1))
    (kk : W p l e R s m args below meth c H locs cells slots Q (F0 m (pc + 1) ls (.int (S.1 c0 i.toNatClampNeg) :: rest))) : W p l e R s m args below meth c H locs cells slots Q (F0 m pc ls (.int i :: .ref (Z.2.2.1 c0) :: rest)) := by
  obtain ⟨⟨hx, hb, hml, ho, hts⟩, hr, hlo, hg⟩ := C
  exact va_iald hx hb (g.1 _ hg) hP c0 0 (f := S.1 c0) (by rw [wl_get hc, hs]; rfl) rfl hin hdg kk
theorem s_aJ (g : GOK N Z G) (C : Cxt G p s m meth c args y cc nL ret) (hP : va_P Z.1 vwCl (wl sh N Z S) H) (c0 : Nat) {n b : Nat} (hc : c0 < N) (hs : sh c0 = .inr (1, n, b)) {i : Int32} (hin : vp_in i n) (hdg : decode cc pc = .ok (.laload, 1))
    (kk : W p l e R s m args below meth c H locs cells slots Q (F0 m (pc + 1) ls (.long (S.2 c0 i.toNatClampNeg) :: rest))) : W p l e R s m args below meth c H locs cells slots Q (F0 m pc ls (.int i :: .ref (Z.2.2.1 c0) :: rest)) := by
  obtain ⟨⟨hx, hb, hml, ho, hts⟩, hr, hlo, hg⟩ := C
  exact va_lald hx hb (g.1 _ hg) hP c0 1 (f := S.2 c0) (by rw [wl_get hc, hs]; rfl) rfl hin hdg kk
theorem s_aZ (g : GOK N Z G) (C : Cxt G p s m meth c args y cc nL ret) (hP : va_P Z.1 vwCl (wl sh N Z S) H) (c0 : Nat) {n b : Nat} (hc : c0 < N) (hs : sh c0 = .inr (2, n, b)) {i : Int32} (hin : vp_in i n) (hdg : decode cc pc = .ok (.baload, 1))
    (kk : W p l e R s m args below meth c H locs cells slots Q (F0 m (pc + 1) ls (.int (S.1 c0 i.toNatClampNeg) :: rest))) : W p l e R s m args below meth c H locs cells slots Q (F0 m pc ls (.int i :: .ref (Z.2.2.1 c0) :: rest)) := by
  obtain ⟨⟨hx, hb, hml, ho, hts⟩, hr, hlo, hg⟩ := C
  exact va_zald hx hb (g.1 _ hg) hP c0 2 (f := S.1 c0) (by rw [wl_get hc, hs]; rfl) rfl hin hdg kk
theorem s_aR (g : GOK N Z G) (C : Cxt G p s m meth c args y cc nL ret) (hP : va_P Z.1 vwCl (wl sh N Z S) H) (c0 : Nat) {n b t : Nat} {Cn : String} (hc : c0 < N) (hs : sh c0 = .inr (t + 4, n, b)) (ht : (tysG Z.2.1)[t + 4]? = some (Z.2.1 (t + 4), .object Cn)) {i : Int32} (hin : vp_in i n) (hdg : decode cc pc = .ok (.aaload, 1))
    (kk : W p l e R s m args below meth c H locs cells slots Q (F0 m (pc + 1) ls (.ref (Z.2.2.1 (b + i.toNatClampNeg)) :: rest))) : W p l e R s m args below meth c H locs cells slots Q (F0 m pc ls (.int i :: .ref (Z.2.2.1 c0) :: rest)) := by
  obtain ⟨⟨hx, hb, hml, ho, hts⟩, hr, hlo, hg⟩ := C
  exact va_aldq hx hb (g.1 _ hg) hP c0 (t + 4) (f := fun j => some (Z.2.2.1 (b + j))) (by rw [wl_get hc, hs]; rfl) ht hin hdg kk
theorem s_aD (g : GOK N Z G) (C : Cxt G p s m meth c args y cc nL ret) (hP : va_P Z.1 vwCl (wl sh N Z S) H) (c0 : Nat) {n b : Nat} (hc : c0 < N) (hs : sh c0 = .inr (3, n, b)) {i : Int32} (hin : vp_in i n) (hdg : decode cc pc = .ok (.aaload, 1))
    (kk : W p l e R s m args below meth c H locs cells slots Q (F0 m (pc + 1) ls (.ref (Z.2.2.1 (33 + 7 * (b + i.toNatClampNeg))) :: rest))) : W p l e R s m args below meth c H locs cells slots Q (F0 m pc ls (.int i :: .ref (Z.2.2.1 c0) :: rest)) := by
  obtain ⟨⟨hx, hb, hml, ho, hts⟩, hr, hlo, hg⟩ := C
  exact va_aldq hx hb (g.1 _ hg) hP c0 3 (C := "FishingKites$Day") (f := fun j => some (Z.2.2.1 (33 + 7 * (b + j)))) (by rw [wl_get hc, hs]; rfl) rfl hin hdg kk
theorem s_len (g : GOK N Z G) (C : Cxt G p s m meth c args y cc nL ret) (hP : va_P Z.1 vwCl (wl sh N Z S) H) (c0 : Nat) {n b : Nat} (hc : c0 < N) (hs : sh c0 = .inr (0, n, b)) {v : Int32} (hv : Int32.ofNat n = v) (hdg : decode cc pc = .ok (.arraylength, 1))
    (kk : W p l e R s m args below meth c H locs cells slots Q (F0 m (pc + 1) ls (.int v :: rest))) : W p l e R s m args below meth c H locs cells slots Q (F0 m pc ls (.ref (Z.2.2.1 c0) :: rest)) := by
  obtain ⟨⟨hx, hb, hml, ho, hts⟩, hr, hlo, hg⟩ := C
  exact va_alen hx hb (g.1 _ hg) hP c0 0 (x := (n, .inl (S.1 c0))) (by rw [wl_get hc, hs]; rfl) (ty := .int) rfl hv hdg kk
theorem s_lenJ (g : GOK N Z G) (C : Cxt G p s m meth c args y cc nL ret) (hP : va_P Z.1 vwCl (wl sh N Z S) H) (c0 : Nat) {n b : Nat} (hc : c0 < N) (hs : sh c0 = .inr (1, n, b)) {v : Int32} (hv : Int32.ofNat n = v) (hdg : decode cc pc = .ok (.arraylength, 1))
    (kk : W p l e R s m args below meth c H locs cells slots Q (F0 m (pc + 1) ls (.int v :: rest))) : W p l e R s m args below meth c H locs cells slots Q (F0 m pc ls (.ref (Z.2.2.1 c0) :: rest)) := by
  obtain ⟨⟨hx, hb, hml, ho, hts⟩, hr, hlo, hg⟩ := C
  exact va_alen hx hb (g.1 _ hg) hP c0 1 (x := (n, .inr (.inl (S.2 c0)))) (by rw [wl_get hc, hs]; rfl) (ty := .long) rfl hv hdg kk
theorem s_stI (g : GOK N Z G) (C : Cxt G p s m meth c args y cc nL ret) (hP : va_P Z.1 vwCl (wl sh N Z S) H) (hS : va_S (aa N Z) s.heap H locs) (c0 : Nat) {n b : Nat} (hc : c0 < N) (hs : sh c0 = .inr (0, n, b)) {i v : Int32} (hin : vp_in i n) (hdg : decode cc pc = .ok (.iastore, 1))
    (kk : ∀ (H : Heap) (locs : List Loc), va_P Z.1 vwCl (wl sh N Z (sI S c0 i.toNatClampNeg v)) H → va_S (aa N Z) s.heap H locs → W p l e R s m args below meth c H locs cells slots Q (F0 m (pc + 1) ls rest)) : W p l e R s m args below meth c H locs cells slots Q (F0 m pc ls (.int v :: .int i :: .ref (Z.2.2.1 c0) :: rest)) := by
  obtain ⟨⟨hx, hb, hml, ho, hts⟩, hr, hlo, hg⟩ := C
  refine va_iast hx hb (g.1 _ hg) hP (wl_D g.2.1) hS c0 0 (f := S.1 c0) (by rw [wl_get hc, hs]; rfl) rfl hin hdg (fun H1 locs1 hP1 _ hS1 => kk H1 locs1 ?_ hS1)
  rw [wl_set (S' := sI S c0 i.toNatClampNeg v) hc (by rw [hs]; simp [cel, acl, sI, sF, va_up]) (fun j h => sF_1 j h) (fun j h => sF_2 j h)] at hP1
  exact hP1
theorem s_stZ (g : GOK N Z G) (C : Cxt G p s m meth c args y cc nL ret) (hP : va_P Z.1 vwCl (wl sh N Z S) H) (hS : va_S (aa N Z) s.heap H locs) (c0 : Nat) {n b : Nat} (hc : c0 < N) (hs : sh c0 = .inr (2, n, b)) {i v : Int32} (hin : vp_in i n) (hv : vp_nar .boolean v = v) (hdg : decode cc pc = .ok (.bastore, 1))
    (kk : ∀ (H : Heap) (locs : List Loc), va_P Z.1 vwCl (wl sh N Z (sI S c0 i.toNatClampNeg v)) H → va_S (aa N Z) s.heap H locs → W p l e R s m args below meth c H locs cells slots Q (F0 m (pc + 1) ls rest)) : W p l e R s m args below meth c H locs cells slots Q (F0 m pc ls (.int v :: .int i :: .ref (Z.2.2.1 c0) :: rest)) := by
  obtain ⟨⟨hx, hb, hml, ho, hts⟩, hr, hlo, hg⟩ := C
  refine va_zast hx hb (g.1 _ hg) hP (wl_D g.2.1) hS c0 2 (f := S.1 c0) (by rw [wl_get hc, hs]; rfl) rfl hin hdg (fun H1 locs1 hP1 _ hS1 => kk H1 locs1 ?_ hS1)
  rw [wl_set (S' := sI S c0 i.toNatClampNeg v) hc (by rw [hs, hv]; simp [cel, acl, sI, sF, va_up]) (fun j h => sF_1 j h) (fun j h => sF_2 j h)] at hP1
  exact hP1
theorem s_stJ (g : GOK N Z G) (C : Cxt G p s m meth c args y cc nL ret) (hP : va_P Z.1 vwCl (wl sh N Z S) H) (hS : va_S (aa N Z) s.heap H locs) (c0 : Nat) {n b : Nat} (hc : c0 < N) (hs : sh c0 = .inr (1, n, b)) {i : Int32} {v : Int64} (hin : vp_in i n) (hdg : decode cc pc = .ok (.lastore, 1))
    (kk : ∀ (H : Heap) (locs : List Loc), va_P Z.1 vwCl (wl sh N Z (sJ S c0 i.toNatClampNeg v)) H → va_S (aa N Z) s.heap H locs → W p l e R s m args below meth c H locs cells slots Q (F0 m (pc + 1) ls rest)) : W p l e R s m args below meth c H locs cells slots Q (F0 m pc ls (.long v :: .int i :: .ref (Z.2.2.1 c0) :: rest)) := by
  obtain ⟨⟨hx, hb, hml, ho, hts⟩, hr, hlo, hg⟩ := C
  refine va_last hx hb (g.1 _ hg) hP (wl_D g.2.1) hS c0 1 (f := S.2 c0) (by rw [wl_get hc, hs]; rfl) rfl hin hdg (fun H1 locs1 hP1 _ hS1 => kk H1 locs1 ?_ hS1)
  rw [wl_set (S' := sJ S c0 i.toNatClampNeg v) hc (by rw [hs]; simp [cel, acl, sJ, sG, va_up]) (fun j h => sG_1 j h) (fun j h => sG_2 j h)] at hP1
  exact hP1
end FR
