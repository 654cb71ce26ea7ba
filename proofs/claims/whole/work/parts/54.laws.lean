/-! ===== laws ===== -/
theorem VV_c {T : St} {law : Int32} {m P : Nat} {f g : Nat → Int32} (h : E45 f g) : VV T law m g P = VV T law m f P := by
  unfold VV
  rw [h 0 (by omega), sm6_c h, sm6_c (nHs_c m _ (setA f P) (setA g P) (fun j hj => by
    unfold setA
    by_cases c : 7 ≤ j ∧ j < 13
    · rw [if_pos c, if_pos c]
    · rw [if_neg c, if_neg c]; exact h j hj))]
theorem RQ_f {T S : St} {law : Int32} {q m : Nat} {f g : Nat → Int32} (h : RQ T law S q m f) (e : E45 f g) : RQ T law S q m g := by
  unfold RQ; simp only [VV_c e]; exact h
theorem RelT_go {T SX SX' SM SM' : St} (h : RelT T SX SM) (e : ∀ c, c < 24 ∨ (33 ≤ c ∧ c < 47) ∨ 53 < c → SX'.1 c = SX.1 c) (m : ∀ c, c ≠ 0 → c ≠ 6 → c ≠ 7 → SM'.1 c = SM.1 c) (m0 : ∀ j, j ≠ 23 → SM'.1 0 j = SM.1 0 j)
    (m6 : ∀ j, j < 1197 → SM'.1 6 j = SM.1 6 j) (q0 : RQ T (T.1 4 4) SX' 0 1 (SM.1 6)) (q1 : RQ T (T.1 4 4) SX' 1 12 (nMorn T)) : RelT T SX' SM' := by
  obtain ⟨E, X, C, S, hl, rt, d0, d1, rk, -, -⟩ := h
  have E' : SeaEq SX' T := fun c h1 h2 => by rw [e c (by omega)]; exact E c h1 h2
  refine ⟨E', X, C, S.eq ⟨m0 _ (by omega), m0 _ (by omega), m0 _ (by omega), m0 _ (by omega), m0 _ (by omega)⟩ (m _ (by omega) (by omega) (by omega)) (m _ (by omega) (by omega) (by omega)) (m _ (by omega) (by omega) (by omega)), by rw [m0 _ (by omega)]; exact hl,
    rt.eq (by rw [e _ (by omega)]) (e _ (by omega)) (m0 _ (by omega)) (m _ (by omega) (by omega) (by omega)), (d0.eqf m6).eq E' (fun c h1 h2 => e c (by omega)), d1.eq E' (fun c h1 h2 => e c (by omega)),
    rk.eq E' (by rw [e _ (by omega)]) (fun c h1 h2 => e c (by omega)) (m _ (by omega) (by omega) (by omega)) (m _ (by omega) (by omega) (by omega)), RQ_f q0 (fun j hj => m6 j (by omega)), q1⟩
def csR (S : St) (i : Nat) : Nat → Int32 := fun j => if j < i then S.1 7 j else S.1 6 j
theorem M_cst2 {S : St} {k : St → Prop} (hK : k (sF S 6 (csR S 45))) : ∀ m i, i + m = 45 → q_X9_copyState_2 k (m + 1) (sF S 6 (csR S i)) (nI i) := by
  intro m
  induction m with
  | zero => intro i hi; rw [q_X9_copyState_2_s, nle _ _ (by omega) (by omega), and_if (by omega), show i = 45 by omega]; exact hK
  | succ m ih =>
    intro i hi
    rw [q_X9_copyState_2_s, nle _ _ (by omega) (by omega), and_nif (by omega)]
    refine ⟨vp_in_nI (by omega) (by omega), vp_in_nI (by omega) (by omega), ?_⟩
    rw [all_eq, all_eq, ncl _ (by omega), sF_ne _ _ _ (by omega), sI_sF, nI_add]
    have e : upd (csR S i) i (S.1 7 i) = csR S (i + 1) := by
      funext j
      unfold csR
      by_cases c : j = i
      · rw [c, upd_s, if_pos (by omega)]
      · rw [upd_n _ _ c]
        by_cases c2 : j < i
        · rw [if_pos c2, if_pos (by omega)]
        · rw [if_neg c2, if_neg (by omega)]
    rw [e]
    exact ih (i + 1) (by omega)
theorem M_cst {S : St} {k : St → Prop} (hK : k (sF S 6 (csR S 45))) : q_X9_copyState S k := by
  have h := M_cst2 hK 45 0 (by omega)
  have e : csR S 0 = S.1 6 := by funext j; unfold csR; rw [if_neg (by omega)]
  rw [e, sF_id] at h
  exact ⟨46, h⟩
def TR (T S S' : St) (t u : Nat) (f : Nat → Int32) : Prop := (∀ c, c ≠ 33 + 7 * 2 → c ≠ 33 + 7 * 2 + 5 → S'.1 c = S.1 c) ∧ S'.1 (33 + 7 * 2) 0 = nI t ∧ S'.1 (33 + 7 * 2) 1 = nI u ∧ S'.1 (33 + 7 * 2) 2 = nI 0 ∧ S'.1 (33 + 7 * 2) 4 = nI 0 ∧ ∀ s, s < 4 → S'.1 (33 + 7 * 2 + 5) s = f (39 + s)
theorem X_resume {T S : St} {d1 t u : Nat} {f : Nat → Int32} {K : St → Prop} (hd : d1 ≠ 2) (D : CD T S d1 t u f) (hup : S.1 (33 + 7 * d1) 1 = nI u) (hK : ∀ S', TR T S S' t u f → K S') : q_X1_resume 2 d1 S K := by
  obtain ⟨E, c0, n0, hub, hu, ha, hask, hleft, hpos, hn⟩ := D
  unfold q_X1_resume
  simp only [all_eq]
  apply hK
  refine ⟨fun c h1 h2 => ?_, ?_, ?_, ?_, ?_, fun s hs => ?_⟩
  · simp (disch := omega) only [sI_ne, sF_ne]
  · simp (disch := omega) only [sI_ne, sF_ne, sI_row, upd_n, upd_s]; exact c0
  · simp (disch := omega) only [sI_ne, sF_ne, sI_row, upd_n, upd_s]; exact hup
  · simp (disch := omega) only [sI_ne, sF_ne, sI_row, upd_n, upd_s]
  · simp (disch := omega) only [sI_ne, sF_ne, sI_row, upd_n, upd_s]
  · simp (disch := omega) only [sI_ne, sF_ne, sF_self, cpy_lt, ncl]; exact (hleft s hs).1
theorem TR_PK {T S S' S2 : St} {d1 t u : Nat} {f g : Nat → Int32} (D : CD T S d1 t u f) (R : TR T S S' t u f) (hA : ∀ c, c ≠ 33 + 7 * 2 + 1 → S2.1 c = S'.1 c) (hB : ∀ k, k < 6 → S2.1 (33 + 7 * 2 + 1) k = g (7 + k)) (hg : askOK g) (e : ∀ j, j < 45 → (j < 7 ∨ 12 < j) → g j = f j) :
    PK T S2 2 t False (sm6 g) S2 u g ∧ S2.1 (33 + 7 * 2) 1 = nI u := by
  obtain ⟨E, c0, n0, hub, hu, ha, hask, hleft, hpos, hn⟩ := D
  obtain ⟨r1, r2, r3, r4, r5, r6⟩ := R
  refine ⟨⟨DayOnly.refl, ⟨fun c h1 h2 => ?_, ?_, ?_, hub, fun k hk => ?_, hg, hB, fun s hs => ?_, fun s hs => ?_, 0, by omega, ?_⟩, ?_, fun q => q.elim⟩, ?_⟩
  · rw [hA c (by omega), r1 c (by omega) (by omega)]; exact E c h1 h2
  · rw [hA _ (by omega)]; exact r2
  · rw [e 0 (by omega) (by omega)]; exact n0
  · rw [e (1 + k) (by omega) (by omega)]; exact hu k hk
  · rw [hA _ (by omega), r6 s hs, e (39 + s) (by omega) (by omega)]; exact ⟨rfl, (hleft s hs).2⟩
  · rw [e (31 + s) (by omega) (by omega), e (35 + s) (by omega) (by omega)]; exact hpos s hs
  · rw [hA _ (by omega)]; exact r5
  · rw [hA _ (by omega), r4]; exact (Int32.sub_self _).symm
  · rw [hA _ (by omega)]; exact r3
theorem X_c13 {S1 : St} {law : Int32} {K : Int32 → St → Prop} (hK : ∀ S2, (∀ c, c ≠ 33 + 7 * 2 + 1 → S2.1 c = S1.1 c) → (∀ j, j < 6 → S2.1 (33 + 7 * 2 + 1) j = S1.1 (33 + 7 * 0 + 1) j) → q_X1_pass 2 S2 (nI 12) law (fun S_2 => (K (S_2.1 (33 + 7 * 2) 2) S_2))) :
    ∀ m k S, k + m = 6 → (∀ c, c ≠ 33 + 7 * 2 + 1 → S.1 c = S1.1 c) → (∀ j, j < k → S.1 (33 + 7 * 2 + 1) j = S1.1 (33 + 7 * 0 + 1) j) → q_X8_caughtAllDayBy_13 law K (m + 1) S (nI k) := by
  intro m
  induction m with
  | zero =>
    intro k S hk h1 h2
    rw [q_X8_caughtAllDayBy_13_s, nle _ _ (by omega) (by omega), and_if (by omega)]
    exact hK S h1 (fun j hj => h2 j (by omega))
  | succ m ih =>
    intro k S hk h1 h2
    rw [q_X8_caughtAllDayBy_13_s, nle _ _ (by omega) (by omega), and_nif (by omega)]
    refine ⟨vp_in_nI (by omega) (by omega), vp_in_nI (by omega) (by omega), ?_⟩
    rw [all_eq, all_eq, ncl _ (by omega), nI_add]
    refine ih (k + 1) _ (by omega) (fun c hc => by rw [sI_ne _ _ _ _ hc]; exact h1 c hc) (fun j hj => ?_)
    rw [sI_row]
    by_cases c : j = k
    · rw [c, upd_s, h1 _ (by omega)]
    · rw [upd_n _ _ c]; exact h2 j (by omega)
/-- the morning with what is asked -/
def mAs (T : St) (a : Nat → Int32) : Nat → Int32 := fun j => if 7 ≤ j ∧ j < 13 then a j else nMorn T j
theorem X_caught {T S : St} {law : Int32} {a : Nat → Int32} {K : Int32 → St → Prop} (X : XR T) (C : RC T) (D : DayR T S 1 (nMorn T)) (ha : askOK a) (hask : ∀ k, k < 6 → S.1 (33 + 7 * 0 + 1) k = a (7 + k))
    (hK : ∀ S', (∀ c, c < 47 ∨ 53 < c → S'.1 c = S.1 c) → K (sm6 (nHs T law 12 0 (mAs T a)) - sm6 (mAs T a)) S') : q_X8_caughtAllDayBy S law K := by
  obtain ⟨t, u, n, ht, p, hup, -, -⟩ := D
  have h0 : t = 0 := by
    have h := p.2.1.2.2.1
    rw [nMorn_0 (by omega), neq _ _ (by omega) (by omega)] at h
    omega
  subst h0
  unfold q_X8_caughtAllDayBy
  refine X_resume (by omega) p.2.1 hup (fun S' R => ⟨7, X_c13 (S1 := S') (fun S2 e1 e2 => ?_) 6 0 S' (by omega) (fun c _ => rfl) (fun j hj => by omega)⟩)
  have hm : ∀ k, k < 6 → mAs T a (7 + k) = a (7 + k) := fun k hk => by unfold mAs; rw [if_pos (by omega)]
  obtain ⟨pk, hu2⟩ := TR_PK (g := mAs T a) p.2.1 R e1 (fun k hk => by rw [e2 k hk, R.1 _ (by omega) (by omega), hask k hk, hm k hk]) (ha.of hm) (fun j hj h => by unfold mAs; rw [if_neg (by omega)])
  refine X_pass X C (by omega) ht pk hu2 (fun q => q.elim) (fun S3 u3 p3 _ => ?_)
  obtain ⟨⟨o1, o2, o3⟩, -, p4, -⟩ := p3
  rw [p4]
  refine hK S3 (fun c hc => ?_)
  rw [o1 c (by omega), e1 c (by omega), R.1 c (by omega) (by omega)]
noncomputable def lwB (V : Nat → Int32) (b : Int32) : Nat → Int32 × Int32
  | 0 => (b, -1)
  | l + 1 => if V l ≤ (lwB V b l).2 then lwB V b l else (nI l, V l)
theorem lwB_e {V : Nat → Int32} (h : ¬ V 0 ≤ -1) (b b' : Int32) : ∀ l, lwB V b (l + 1) = lwB V b' (l + 1) := by
  intro l
  induction l with
  | zero =>
    show (if V 0 ≤ -1 then _ else _) = (if V 0 ≤ -1 then _ else _)
    rw [if_neg h, if_neg h]
  | succ l ih =>
    show (if V (l + 1) ≤ (lwB V b (l + 1)).2 then lwB V b (l + 1) else (nI (l + 1), V (l + 1))) = (if V (l + 1) ≤ (lwB V b' (l + 1)).2 then lwB V b' (l + 1) else (nI (l + 1), V (l + 1)))
    rw [ih]
theorem lwB_t {V : Nat → Int32} {b : Int32} {l : Nat} (h : V l ≤ (lwB V b l).2) : lwB V b (l + 1) = lwB V b l := if_pos h
theorem lwB_f {V : Nat → Int32} {b : Int32} {l : Nat} (h : ¬ V l ≤ (lwB V b l).2) : lwB V b (l + 1) = (nI l, V l) := if_neg h
theorem X_laws19 {T SX : St} {a : Nat → Int32} {a1 : Int32} {K : Int32 → St → Prop} {V : Nat → Int32} (X : XR T) (C : RC T) (E : SeaEq SX T) (D : DayR T SX 1 (nMorn T)) (ha : askOK a) (hask : ∀ k, k < 6 → SX.1 (33 + 7 * 0 + 1) k = a (7 + k))
    (hV : ∀ l, l < 3 → V l = sm6 (nHs T (nI l) 12 0 (mAs T a)) - sm6 (mAs T a))
    (hK : ∀ S', (∀ c, c < 47 ∨ 53 < c → S'.1 c = SX.1 c) → (a1 = nI 0 → K (lwB V (nI 0) 3).1 S') ∧ (¬ a1 = nI 0 → K (lwB V (nI 0) 3).2 S')) :
    ∀ m l S, l + m = 3 → (∀ c, c < 47 ∨ 53 < c → S.1 c = SX.1 c) → q_X8_laws_19 a1 K (m + 1) S (lwB V (nI 0) l).1 (lwB V (nI 0) l).2 (nI l) := by
  intro m
  induction m with
  | zero =>
    intro l S hl hS
    rw [q_X8_laws_19_s, nle _ _ (by omega) (by omega), and_if (by omega), show l = 3 by omega]
    exact hK S hS
  | succ m ih =>
    intro l S hl hS
    rw [q_X8_laws_19_s, nle _ _ (by omega) (by omega), and_nif (by omega)]
    have E' : SeaEq S T := fun c h1 h2 => by rw [hS c (by omega)]; exact E c h1 h2
    refine X_caught X C (D.eq E' (fun c h1 h2 => hS c (by omega))) ha (fun k hk => by rw [hS _ (by omega)]; exact hask k hk) (fun S' e => ?_)
    rw [← hV l (by omega)]
    have hS' : ∀ c, c < 47 ∨ 53 < c → S'.1 c = SX.1 c := fun c hc => by rw [e c hc]; exact hS c hc
    unfold q_X8_laws_45
    rw [all_eq, all_eq, nI_add]
    refine ⟨fun c => ?_, fun c => ?_⟩
    · have h := ih (l + 1) S' (by omega) hS'
      rw [lwB_t c] at h
      exact h
    · have h := ih (l + 1) S' (by omega) hS'
      rw [lwB_f c] at h
      exact h
section ML
variable {T SM : St} {law a1 : Int32} {k : Int32 → St → Prop} {e38 : St → Int32 → Int32 → Int32 → Int32 → Prop}
theorem M_l58 (R : RS T SM) (X : XR T) (hl : SM.1 0 5 = law) {x2 x3 x4 x5 : Int32} : ∀ (m t : Nat) (now : Nat → Int32) (c : Nat), t + m = 12 → now 0 = nI t → askOK now → now 44 = nI c → c ≤ 24 * t →
    (sm6 (nHs T law m t now) ≤ x4 → e38 (sF SM 6 (nHs T law m t now)) x2 x3 x4 (x5 + nI 1)) → (¬ sm6 (nHs T law m t now) ≤ x4 → e38 (sF SM 6 (nHs T law m t now)) x2 x5 (sm6 (nHs T law m t now)) (x5 + nI 1)) →
    q_X9_laws_58 a1 k e38 (m + 1) (sF SM 6 now) x2 x3 x4 x5 := by
  intro m
  induction m with
  | zero =>
    intro t now c ht h0 ha h44 hc h1 h2
    rw [q_X9_laws_58_s, sF_self, ncl _ (by omega), h0, nle _ _ (by omega) (by omega), and_if (by omega)]
    refine M_caught ?_
    rw [sF_self]
    unfold q_X9_laws_91 q_X9_laws_110
    refine ⟨fun q => M_caught ?_, fun q => M_caught ?_⟩
    · rw [sF_self, and_if q, all_eq]; exact h1 q
    · rw [sF_self, and_nif q]
      refine M_caught ?_
      rw [sF_self, all_eq]; exact h2 q
  | succ m ih =>
    intro t now c ht h0 ha h44 hc h1 h2
    rw [q_X9_laws_58_s, sF_self, ncl _ (by omega), h0, nle _ _ (by omega) (by omega), and_nif (by omega)]
    obtain ⟨c', g1, g2, e⟩ := nHour_44 (T := T) (law := law) (t := t) h44
    refine M_goHour R X hl (by omega) h0 ha h44 (by omega) ?_
    exact ih (t + 1) _ c' (by omega) (nHour_0 h0) (nHour_ask ha) e (by omega) h1 h2
theorem M_l38 (R : RS T SM) (X : XR T) (ha : askOK (SM.1 6)) {V : Nat → Int32} (hV : ∀ l, l < 3 → V l = sm6 (nHs T (nI l) 12 0 (mAs T (SM.1 6)))) {x2 : Int32}
    (hK : ∀ S', (∀ c, c ≠ 0 → c ≠ 6 → c ≠ 7 → S'.1 c = SM.1 c) → (∀ j, j ≠ 5 → S'.1 0 j = SM.1 0 j) → S'.1 0 5 = x2 → (∀ j, j < 1197 → S'.1 6 j = SM.1 6 j) → (a1 = nI 0 → k (lwB V (-1) 3).1 S') ∧ (¬ a1 = nI 0 → k (lwB V (-1) 3).2 S')) :
    ∀ m l S, l + m = 3 → (∀ c, c ≠ 0 → c ≠ 6 → c ≠ 7 → S.1 c = SM.1 c) → (∀ j, j ≠ 5 → S.1 0 j = SM.1 0 j) → (∀ j, j < 1197 → S.1 7 j = SM.1 6 j) → q_X9_laws_38 a1 k (m + 1) S x2 (lwB V (-1) l).1 (lwB V (-1) l).2 (nI l) := by
  intro m
  induction m with
  | zero =>
    intro l S hl h1 h2 h3
    rw [q_X9_laws_38_s, nle _ _ (by omega) (by omega), and_if (by omega), show l = 3 by omega]
    refine M_copy (by omega) (by omega) (by omega) (by omega) (by omega) ?_
    rw [all_eq]
    refine hK _ (fun c c0 c6 c7 => ?_) (fun j hj => ?_) ?_ (fun j hj => ?_)
    · rw [sI_ne _ _ _ _ c0, sF_ne _ _ _ c6]; exact h1 c c0 c6 c7
    · rw [sI_row, upd_n _ _ hj, sF_ne _ _ _ (by omega)]; exact h2 j hj
    · rw [sI_row, upd_s]
    · rw [sI_ne _ _ _ _ (by omega), sF_self]
      unfold cpR
      rw [if_pos (by omega), show 0 + (j - 0) = j by omega]
      exact h3 j hj
  | succ m ih =>
    intro l S hl h1 h2 h3
    rw [q_X9_laws_38_s, nle _ _ (by omega) (by omega), and_nif (by omega), all_eq]
    refine M_cst ?_
    have R1 : RS T (sF (sI S 0 5 (nI l)) 6 (csR (sI S 0 5 (nI l)) 45)) := by
      refine R.eq ⟨?_, ?_, ?_, ?_, ?_⟩ ?_ ?_ ?_
      · rw [sF_ne _ _ _ (by omega), sI_row, upd_n _ _ (by omega)]; exact h2 _ (by omega)
      · rw [sF_ne _ _ _ (by omega), sI_row, upd_n _ _ (by omega)]; exact h2 _ (by omega)
      · rw [sF_ne _ _ _ (by omega), sI_row, upd_n _ _ (by omega)]; exact h2 _ (by omega)
      · rw [sF_ne _ _ _ (by omega), sI_row, upd_n _ _ (by omega)]; exact h2 _ (by omega)
      · rw [sF_ne _ _ _ (by omega), sI_row, upd_n _ _ (by omega)]; exact h2 _ (by omega)
      · rw [sF_ne _ _ _ (by omega), sI_ne _ _ _ _ (by omega)]; exact h1 _ (by omega) (by omega) (by omega)
      · rw [sF_ne _ _ _ (by omega), sI_ne _ _ _ _ (by omega)]; exact h1 _ (by omega) (by omega) (by omega)
      · rw [sF_ne _ _ _ (by omega), sI_ne _ _ _ _ (by omega)]; exact h1 _ (by omega) (by omega) (by omega)
    refine M_anew R1 (fun g hg => ⟨13, ?_⟩)
    have hg' : ∀ j, j < 1197 → g j = mAs T (SM.1 6) j := fun j hj => by
      rw [hg j hj]
      unfold mAs
      by_cases c : 7 ≤ j ∧ j < 13
      · rw [if_pos c, if_pos c, sF_self]
        unfold csR
        rw [if_pos (by omega), sI_ne _ _ _ _ (by omega)]
        exact h3 j hj
      · rw [if_neg c, if_neg c]
    have e45 : E45 (mAs T (SM.1 6)) g := fun j hj => hg' j (by omega)
    have z0 : mAs T (SM.1 6) 0 = nI 0 := by unfold mAs; rw [if_neg (by omega), nMorn_0 (by omega)]
    have z44 : mAs T (SM.1 6) 44 = nI 0 := by unfold mAs; rw [if_neg (by omega), nMorn_0 (by omega)]
    have ev : sm6 (nHs T (nI l) 12 0 g) = V l := by rw [hV l (by omega), sm6_c (nHs_c 12 0 _ _ e45)]
    have i1 : ∀ h : Nat → Int32, ∀ c, c ≠ 0 → c ≠ 6 → c ≠ 7 → (sF (sF (sI S 0 5 (nI l)) 6 (csR (sI S 0 5 (nI l)) 45)) 6 h).1 c = SM.1 c := fun h c c0 c6 c7 => by
      rw [sF_ne _ _ _ c6, sF_ne _ _ _ c6, sI_ne _ _ _ _ c0]; exact h1 c c0 c6 c7
    have i2 : ∀ h : Nat → Int32, ∀ j, j ≠ 5 → (sF (sF (sI S 0 5 (nI l)) 6 (csR (sI S 0 5 (nI l)) 45)) 6 h).1 0 j = SM.1 0 j := fun h j hj => by
      rw [sF_ne _ _ _ (by omega), sF_ne _ _ _ (by omega), sI_row, upd_n _ _ hj]; exact h2 j hj
    have i3 : ∀ h : Nat → Int32, ∀ j, j < 1197 → (sF (sF (sI S 0 5 (nI l)) 6 (csR (sI S 0 5 (nI l)) 45)) 6 h).1 7 j = SM.1 6 j := fun h j hj => by
      rw [sF_ne _ _ _ (by omega), sF_ne _ _ _ (by omega), sI_ne _ _ _ _ (by omega)]; exact h3 j hj
    refine M_l58 R1 X (law := nI l) (by rw [sF_ne _ _ _ (by omega), sI_row, upd_s]) 12 0 g 0 (by omega) ?_ ?_ ?_ (by omega) (fun q => ?_) (fun q => ?_)
    · rw [hg' 0 (by omega), z0]
    · refine ha.of (fun k hk => ?_)
      rw [hg' (7 + k) (by omega)]
      unfold mAs
      rw [if_pos (by omega)]
    · rw [hg' 44 (by omega), z44]
    · rw [nI_add]
      rw [ev] at q
      have h := ih (l + 1) _ (by omega) (i1 (nHs T (nI l) 12 0 g)) (i2 _) (i3 _)
      rw [lwB_t q] at h
      exact h
    · rw [nI_add]
      rw [ev] at q
      have h := ih (l + 1) _ (by omega) (i1 (nHs T (nI l) 12 0 g)) (i2 _) (i3 _)
      rw [lwB_f q] at h
      rw [ev]
      exact h
end ML
theorem LF_ex {f : Nat → Int32} (h : ∀ s, s < 4 → rg (f (39 + s)) 0 99) : ∃ L, LF f L := ⟨fun s => (f (39 + s)).toInt.toNat, fun s hs => rg_nI (b := 99) (h s hs) (by omega)⟩
theorem n_m1 {n : Nat} (h : n < 2 ^ 31) : ¬ nI n ≤ -1 := by
  rw [tI_le, nI_toInt h, show (-1 : Int32).toInt = -1 from rfl]
  omega
theorem o_laws : ob_laws Rel := by
  intro SX SM R a1
  unfold q_X8_laws q_X9_laws
  simp only [f_X9_in, bbr]
  by_cases c1 : inR a1 (nI 0) (nI 1)
  · have c0 : ¬ a1 < nI 0 := c1.1
    have c2 : a1 ≤ nI 1 := by
      have h := c1.2
      rw [tI_lt] at h
      rw [tI_le]
      omega
    simp only [and_nif c0, and_if c2, pif_t c1]
    obtain ⟨T, R⟩ := R
    have R' := R
    obtain ⟨E, X, C, S, hl, rt, d0, d1, rk, q0, q1⟩ := R
    obtain ⟨t, u, n, ht, p, -, -, -⟩ := d0
    have ha : askOK (SM.1 6) := p.2.1.2.2.2.2.2.1
    have hask : ∀ k, k < 6 → SX.1 (33 + 7 * 0 + 1) k = SM.1 6 (7 + k) := p.2.1.2.2.2.2.2.2.1
    have hz : sm6 (mAs T (SM.1 6)) = nI 0 := by
      unfold sm6 mAs
      simp (disch := omega) only [if_neg, nMorn_0, nI_add]
    obtain ⟨V, hV⟩ : ∃ V : Nat → Int32, ∀ l, V l = sm6 (nHs T (nI l) 12 0 (mAs T (SM.1 6))) := ⟨_, fun l => rfl⟩
    have hp : ¬ V 0 ≤ -1 := by
      obtain ⟨N, G, hN⟩ := XR_RN X
      obtain ⟨L, hL⟩ := LF_ex (f := mAs T (SM.1 6)) (fun s hs => by
        unfold mAs
        rw [if_neg (by omega), (nMorn_x hs).2.2]
        exact (X.2.1 s hs).2.2.2.2.1)
      obtain ⟨g, L', g1, g2, g3⟩ := nHs_gain (t := 0) (law := nI 0) hN hL 12
      rw [hV, sm6_add g1, hz, z0]
      have := (hL 0 (by omega)).2
      have := (hL 1 (by omega)).2
      have := (hL 2 (by omega)).2
      have := (hL 3 (by omega)).2
      exact n_m1 (by omega)
    refine ⟨4, X_laws19 (V := V) X C E d1 ha hask (fun l hl => by rw [hV, hz, s0]) (fun S' e => ?_) 3 0 SX (by omega) (fun c _ => rfl)⟩
    have fin : ∀ v : Int32, ∀ SM' : St, (∀ c, c ≠ 0 → c ≠ 6 → c ≠ 7 → SM'.1 c = SM.1 c) → (∀ j, j ≠ 5 → SM'.1 0 j = SM.1 0 j) → SM'.1 0 5 = SM.1 0 5 → (∀ j, j < 1197 → SM'.1 6 j = SM.1 6 j) → v = v ∧ Rel S' SM' := fun v SM' m1 m2 m3 m4 =>
      ⟨rfl, T, RelT_go R' (fun c hc => e c (by omega)) m1 (fun j hj => by
        by_cases c : j = 5
        · rw [c]; exact m3
        · exact m2 j c) m4 (q0.eq (e _ (by omega))) (q1.eq (e _ (by omega)))⟩
    refine ⟨fun c => ?_, fun c => ?_⟩
    · show ∀ x, x = SM.1 0 5 → _
      rw [all_eq]
      refine M_copy (by omega) (by omega) (by omega) (by omega) (by omega) ?_
      refine ⟨4, ?_⟩
      refine M_l38 (SM := SM) S X ha (V := V) (fun l _ => hV l) (fun SM' m1 m2 m3 m4 => ?_) 3 0 _ (by omega) (fun c c0 c6 c7 => sF_ne _ _ _ c7) (fun j hj => by rw [sF_ne _ _ _ (by omega)]) (fun j hj => ?_)
      · refine ⟨fun _ => ?_, fun q => absurd c q⟩
        rw [lwB_e hp (-1) (nI 0) 2]
        exact fin _ SM' m1 m2 m3 m4
      · rw [sF_self]; unfold cpR; rw [if_pos (by omega), show 0 + (j - 0) = j by omega]
    · show ∀ x, x = SM.1 0 5 → _
      rw [all_eq]
      refine M_copy (by omega) (by omega) (by omega) (by omega) (by omega) ?_
      refine ⟨4, ?_⟩
      refine M_l38 (SM := SM) S X ha (V := V) (fun l _ => hV l) (fun SM' m1 m2 m3 m4 => ?_) 3 0 _ (by omega) (fun c c0 c6 c7 => sF_ne _ _ _ c7) (fun j hj => by rw [sF_ne _ _ _ (by omega)]) (fun j hj => ?_)
      · refine ⟨fun q => absurd q c, fun _ => ?_⟩
        rw [lwB_e hp (-1) (nI 0) 2]
        exact fin _ SM' m1 m2 m3 m4
      · rw [sF_self]; unfold cpR; rw [if_pos (by omega), show 0 + (j - 0) = j by omega]
  · by_cases c0 : a1 < nI 0
    · simp only [and_if c0, pif_f c1]
      exact ⟨trivial, R⟩
    · have c2 : ¬ a1 ≤ nI 1 := fun h => c1 ⟨c0, fun q => by rw [tI_lt] at q; rw [tI_le] at h; omega⟩
      simp only [and_nif c0, and_nif c2, pif_f c1]
      exact ⟨trivial, R⟩
