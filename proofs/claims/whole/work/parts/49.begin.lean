/-! ===== a new day of the reference; the start ===== -/
def an1 (f : Nat → Int32) (i : Nat) : Nat → Int32 := fun j => if j < i ∧ ¬ (7 ≤ j ∧ j < 13) then nI 0 else f j
theorem an1_s (f : Nat → Int32) (i : Nat) (v : Int32) (hv : v = if 7 ≤ i ∧ i < 13 then f i else nI 0) : upd (an1 f i) i v = an1 f (i + 1) := by
  funext j
  unfold an1
  by_cases c : j = i
  · subst c
    rw [upd_s, hv]
    by_cases c2 : 7 ≤ j ∧ j < 13
    · rw [if_pos c2, if_neg (by omega)]
    · rw [if_neg c2, if_pos ⟨by omega, c2⟩]
  · rw [upd_n _ _ c]
    by_cases c2 : j < i ∧ ¬ (7 ≤ j ∧ j < 13)
    · rw [if_pos c2, if_pos ⟨by omega, c2.2⟩]
    · rw [if_neg c2, if_neg (fun q => c2 ⟨by omega, q.2⟩)]
def an2 (T : St) (f : Nat → Int32) (i : Nat) : Nat → Int32 := fun j => if 31 ≤ j ∧ j < 31 + i then T.1 (15 + (j - 31)) 1 else if 35 ≤ j ∧ j < 35 + i then T.1 (15 + (j - 35)) 2 else if 39 ≤ j ∧ j < 39 + i then T.1 (15 + (j - 39)) 5 else f j
theorem an2_s (T : St) (f : Nat → Int32) {s : Nat} (hs : s < 4) : upd (upd (upd (an2 T f s) (31 + s) (T.1 (15 + s) 1)) (35 + s) (T.1 (15 + s) 2)) (39 + s) (T.1 (15 + s) 5) = an2 T f (s + 1) := by
  funext j
  by_cases c1 : j = 39 + s
  · subst c1
    rw [upd_s]; unfold an2
    rw [if_neg (by omega), if_neg (by omega), if_pos (by omega), show 39 + s - 39 = s by omega]
  rw [upd_n _ _ c1]
  by_cases c2 : j = 35 + s
  · subst c2
    rw [upd_s]; unfold an2
    rw [if_neg (by omega), if_pos (by omega), show 35 + s - 35 = s by omega]
  rw [upd_n _ _ c2]
  by_cases c3 : j = 31 + s
  · subst c3
    rw [upd_s]; unfold an2
    rw [if_pos (by omega), show 31 + s - 31 = s by omega]
  rw [upd_n _ _ c3]
  unfold an2
  by_cases d1 : 31 ≤ j ∧ j < 31 + s
  · rw [if_pos d1, if_pos (by omega)]
  rw [if_neg d1, if_neg (show ¬ (31 ≤ j ∧ j < 31 + (s + 1)) by omega)]
  by_cases d2 : 35 ≤ j ∧ j < 35 + s
  · rw [if_pos d2, if_pos (by omega)]
  rw [if_neg d2, if_neg (show ¬ (35 ≤ j ∧ j < 35 + (s + 1)) by omega)]
  by_cases d3 : 39 ≤ j ∧ j < 39 + s
  · rw [if_pos d3, if_pos (by omega)]
  rw [if_neg d3, if_neg (show ¬ (39 ≤ j ∧ j < 39 + (s + 1)) by omega)]
theorem an_e (T : St) (f : Nat → Int32) {j : Nat} (hj : j < 1197) : an2 T (an1 f 1197) 4 j = if 7 ≤ j ∧ j < 13 then f j else nMorn T j := by
  unfold an2 an1 nMorn
  by_cases c : 7 ≤ j ∧ j < 13
  · rw [if_pos c, if_neg (by omega), if_neg (by omega), if_neg (by omega), if_neg (fun q => q.2 c)]
  · rw [if_neg c, if_pos (show j < 1197 ∧ ¬ (7 ≤ j ∧ j < 13) from ⟨hj, c⟩)]
section AN
variable {T S : St} {K : St → Prop}
theorem M_an44 (R : RS T S) {f : Nat → Int32} (hK : K (sF S 6 (an2 T f 4))) : ∀ m s, s + m = 4 → q_X9_anew_44 K (m + 1) (sF S 6 (an2 T f s)) (nI s) := by
  intro m
  induction m with
  | zero => intro s hs; rw [q_X9_anew_44_s, show s = 4 by omega, and_if (by decide)]; exact hK
  | succ m ih =>
    intro s hs
    have hs4 : s < 4 := by omega
    have r1 := R.2.2.2.1 s 0 hs4 (by omega)
    have r2 := R.2.2.2.1 s 1 hs4 (by omega)
    have r3 := R.2.2.2.1 s 4 hs4 (by omega)
    rw [q_X9_anew_44_s, and_nif (nI_ge hs4 (by omega))]
    simp (disch := omega) only [all_eq, pk_mul, nI_add, ncl, vin, sI_sF, sF6_3]
    rw [show 5 * s = 5 * s + 0 by omega, r1, Nat.add_zero, r2, r3]
    refine ⟨by omega, by omega, by omega, by omega, by omega, by omega, ?_⟩
    have e := an2_s T f hs4
    have h := ih (s + 1) (by omega)
    rw [← e] at h
    exact h
theorem inR_712 {i : Nat} (hi : i < 2 ^ 30) : inR (nI i) (nI 7) (nI 12) ↔ (7 ≤ i ∧ i < 13) := by
  unfold inR
  rw [nlt _ _ (by omega) (by omega), nlt _ _ (by omega) (by omega)]
  omega
theorem M_an2 (R : RS T S) {f : Nat → Int32} (hK : K (sF S 6 (an2 T (an1 f 1197) 4))) : ∀ m i, i + m = 1197 → q_X9_anew_2 K (m + 1) (sF S 6 (an1 f i)) (nI i) := by
  intro m
  induction m with
  | zero =>
    intro i hi
    rw [q_X9_anew_2_s, nle _ _ (by omega) (by omega), and_if (by omega), show i = 1197 by omega]
    refine ⟨5, ?_⟩
    have h := M_an44 (f := an1 f 1197) R hK 4 0 (by omega)
    have e : an2 T (an1 f 1197) 0 = an1 f 1197 := by funext j; unfold an2; rw [if_neg (by omega), if_neg (by omega), if_neg (by omega)]
    rw [e] at h
    exact h
  | succ m ih =>
    intro i hi
    have h := ih (i + 1) (by omega)
    rw [q_X9_anew_2_s, nle _ _ (by omega) (by omega), and_nif (by omega), f_X9_in, bbr]
    unfold q_X9_anew_35
    simp (disch := omega) only [all_eq, nI_add, ncl, vin, sI_sF, sF_self, inR_712]
    refine ⟨fun c => ⟨by omega, ?_⟩, fun c => ⟨by omega, by omega, ?_⟩⟩
    · rw [an1_s f i _ (by rw [if_neg c])]; exact h
    · rw [an1_s f i _ (by rw [if_pos c]; unfold an1; rw [if_neg (by omega)])]; exact h
theorem M_anew (R : RS T S) (hK : ∀ g, (∀ j, j < 1197 → g j = if 7 ≤ j ∧ j < 13 then S.1 6 j else nMorn T j) → K (sF S 6 g)) : q_X9_anew S K := by
  refine ⟨1198, ?_⟩
  have h := M_an2 (f := S.1 6) (K := K) R (hK _ (fun j hj => an_e T _ hj)) 1197 0 (by omega)
  have e : an1 (S.1 6) 0 = S.1 6 := by funext j; unfold an1; rw [if_neg (by omega)]
  rw [e, sF_id] at h
  exact h
def be1 (f : Nat → Int32) (i : Nat) : Nat → Int32 := fun j => if 7 ≤ j ∧ j < 7 + i then nI 0 else f j
theorem M_be2 (R : RS T S) {f : Nat → Int32} (hK : ∀ g, (∀ j, j < 1197 → g j = nMorn T j) → K (sF S 6 g)) : ∀ m i, i + m = 6 → q_X9_begin_2 K (m + 1) (sF S 6 (be1 f i)) (nI i) := by
  intro m
  induction m with
  | zero =>
    intro i hi
    rw [q_X9_begin_2_s, show i = 6 by omega, and_if (by decide)]
    refine M_anew (RS_sF R _) (fun g hg => ?_)
    rw [sF_sF]
    refine hK g (fun j hj => ?_)
    rw [hg j hj, sF_self]
    by_cases c : 7 ≤ j ∧ j < 13
    · rw [if_pos c]; unfold be1 nMorn; rw [if_pos (by omega), if_neg (by omega), if_neg (by omega), if_neg (by omega)]
    · rw [if_neg c]
  | succ m ih =>
    intro i hi
    have h := ih (i + 1) (by omega)
    rw [q_X9_begin_2_s, and_nif (nI_ge (show i < 6 by omega) (by omega)), all_eq, all_eq, nI_add, nI_add, ncl _ (by omega), sI_sF]
    refine ⟨vp_in_nI (by omega) (by omega), ?_⟩
    have e : upd (be1 f i) (7 + i) (nI 0) = be1 f (i + 1) := by
      funext j
      unfold be1
      by_cases c : j = 7 + i
      · subst c; rw [upd_s, if_pos (by omega)]
      · rw [upd_n _ _ c]
        by_cases c2 : 7 ≤ j ∧ j < 7 + i
        · rw [if_pos c2, if_pos (by omega)]
        · rw [if_neg c2, if_neg (by omega)]
    rw [e]; exact h
theorem M_begin (R : RS T S) (hK : ∀ g, (∀ j, j < 1197 → g j = nMorn T j) → K (sF S 6 g)) : q_X9_begin S K := by
  refine ⟨7, ?_⟩
  have h := M_be2 (f := S.1 6) R hK 6 0 (by omega)
  have e : be1 (S.1 6) 0 = S.1 6 := by funext j; unfold be1; rw [if_neg (by omega)]
  rw [e, sF_id] at h
  exact h
/-- a day in which no hour has gone -/
theorem nMorn_0 {j : Nat} (h : j < 31 ∨ 42 < j) : nMorn T j = nI 0 := by
  unfold nMorn; rw [if_neg (by omega), if_neg (by omega), if_neg (by omega)]
theorem nMorn_x {s : Nat} (h : s < 4) : nMorn T (31 + s) = T.1 (15 + s) 1 ∧ nMorn T (35 + s) = T.1 (15 + s) 2 ∧ nMorn T (39 + s) = T.1 (15 + s) 5 := by
  unfold nMorn
  refine ⟨?_, ?_, ?_⟩
  · rw [if_pos (by omega), show 31 + s - 31 = s by omega]
  · rw [if_neg (by omega), if_pos (by omega), show 35 + s - 35 = s by omega]
  · rw [if_neg (by omega), if_neg (by omega), if_pos (by omega), show 39 + s - 39 = s by omega]
theorem DayR_morn {d : Nat} (E : SeaEq S T) (X : XR T) (h0 : ∀ j, j < 5 → S.1 (33 + 7 * d) j = nI 0) (h1 : ∀ k, k < 6 → S.1 (33 + 7 * d + 1) k = nI 0 ∧ S.1 (33 + 7 * d + 2) k = nI 0 ∧ S.1 (33 + 7 * d + 3) k = nI 0 ∧ S.1 (33 + 7 * d + 4) k = nI 0)
    (h5 : ∀ s, s < 4 → S.1 (33 + 7 * d + 5) s = T.1 (15 + s) 5) : DayR T S d (nMorn T) := by
  refine ⟨0, 0, 0, by omega, ⟨DayOnly.refl, ⟨E, h0 0 (by omega), nMorn_0 (by omega), by omega, fun k hk => ?_, fun k hk => ⟨0, by omega, nMorn_0 (by omega)⟩, fun k hk => ?_, fun s hs => ?_, fun s hs => ?_, ⟨0, by omega, h0 4 (by omega)⟩⟩, ?_, fun _ => ⟨fun k hk => ?_, ?_, 0, by omega, h0 4 (by omega), nMorn_0 (by omega), fun i hi => by omega⟩⟩, h0 1 (by omega), nMorn_0 (by omega), by omega⟩
  · rw [nMorn_0 (by omega), bI_f (by simp)]
  · rw [nMorn_0 (by omega)]; exact (h1 k hk).1
  · rw [(nMorn_x hs).2.2]; exact ⟨h5 s hs, (X.2.1 s hs).2.2.2.2.1⟩
  · rw [(nMorn_x hs).1, (nMorn_x hs).2.1]
    unfold sxX syX
    rw [show nI 0 = 0 from rfl, Int32.zero_mul, Int32.zero_mul, Int32.add_zero, Int32.add_zero]; exact ⟨rfl, rfl⟩
  · rw [h0 2 (by omega)]
    unfold sm6
    rw [nMorn_0 (by omega), nMorn_0 (by omega), nMorn_0 (by omega), nMorn_0 (by omega), nMorn_0 (by omega), nMorn_0 (by omega)]
    decide
  · rw [nMorn_0 (by omega), nMorn_0 (by omega), nMorn_0 (by omega)]
    exact (h1 k hk).2
  · rw [nMorn_0 (by omega)]; exact h0 3 (by omega)
end AN
theorem S0X_0 {c k : Nat} (h : c ≠ 4) : S0X.1 c k = nI 0 := by
  show (if c = 4 then (if k = 5 then (30 : Int32) else 0) else 0) = nI 0
  rw [if_neg h]; rfl
theorem S0X_4 {k : Nat} (h : k ≠ 5) : S0X.1 4 k = nI 0 := by
  show (if 4 = 4 then (if k = 5 then (30 : Int32) else 0) else 0) = nI 0
  rw [if_pos rfl, if_neg h]; rfl
theorem S0M_0 {c k : Nat} (h : c ≠ 0 ∨ k ≠ 6) : S0M.1 c k = nI 0 := by
  show (if c = 0 then (if k = 6 then (30 : Int32) else 0) else 0) = nI 0
  by_cases e : c = 0
  · rw [if_pos e, if_neg (by omega)]; rfl
  · rw [if_neg e]; rfl
theorem rg0 {a b : Int} (h1 : a ≤ 0) (h2 : 0 ≤ b) : rg (nI 0) a b := by
  unfold rg; rw [nI_toInt (by omega)]; omega
theorem S0X_XR : XR S0X := by
  refine ⟨fun k hk => ?_, fun s hs => ?_, fun i hi => ?_, ?_, ?_, ⟨0, by omega, S0X_4 (by omega)⟩, ?_⟩
  · unfold tK
    simp (disch := omega) only [S0X_0]
    refine ⟨rg0 (by omega) (by omega), rg0 (by omega) (by omega), rg0 (by omega) (by omega), rg0 (by omega) (by omega), rg0 (by omega) (by omega), fun q => absurd trivial q⟩
  · simp (disch := omega) only [S0X_0]
    refine ⟨rg0 (by omega) (by omega), rg0 (by omega) (by omega), rg0 (by omega) (by omega), rg0 (by omega) (by omega), rg0 (by omega) (by omega), fun _ => trivial⟩
  · simp (disch := omega) only [S0X_0]
    exact ⟨rg0 (by omega) (by omega), rg0 (by omega) (by omega)⟩
  · rw [S0X_4 (by omega)]; exact rg0 (by omega) (by omega)
  · show rg (30 : Int32) 0 99
    unfold rg; decide
  · rw [S0X_4 (by omega)]; exact rg0 (by omega) (by omega)
theorem S0X_RS : RS S0X S0M := by
  refine ⟨⟨0, by omega, S0M_0 (by omega), fun k hk => ?_⟩, fun k j hk hj => ?_, ⟨0, by omega, S0M_0 (by omega), fun k hk => ?_⟩, fun k j hk hj => ?_, fun h t h1 h3 ht => ?_, trivial, rfl, ?_, ?_⟩
  · unfold tK; rw [S0X_0 (by omega)]; simp
  · rw [S0M_0 (by omega), S0X_0 (by omega)]
  · unfold tS; rw [S0X_0 (by omega)]; simp
  · rw [S0M_0 (by omega), S0X_0 (by omega)]
  · rw [S0M_0 (by omega), S0X_0 (by omega), S0M_0 (by omega), S0X_0 (by omega)]; exact ⟨rfl, rfl⟩
  · rw [S0M_0 (by omega), S0X_4 (by omega)]
  · rw [S0M_0 (by omega), S0X_4 (by omega)]
theorem S0X_RC : RC S0X := by
  have no : ∀ k h t, ¬ frP S0X k h t := fun k h t q => q.2.1 (S0X_0 (by omega))
  intro k h hk hh
  refine ⟨⟨0, by omega, S0X_0 (by omega), fun t ht => ?_⟩, fun t ht => ⟨⟨0, by omega, S0X_0 (by omega), fun s hs => ?_⟩, ⟨0, by omega, S0X_0 (by omega), fun b hb => ?_⟩⟩⟩
  · simp [no]
  · simp [no]
  · simp [no]
theorem begin_ok : q_X9_begin S0M (fun SM => Rel S0X SM) := by
  refine M_begin S0X_RS (fun g hg => ?_)
  have E : SeaEq S0X S0X := fun _ _ _ => rfl
  have dm : ∀ d, DayR S0X S0X d (nMorn S0X) := fun d => DayR_morn E S0X_XR (fun j hj => S0X_0 (by omega)) (fun k hk => ⟨S0X_0 (by omega), S0X_0 (by omega), S0X_0 (by omega), S0X_0 (by omega)⟩) (fun s hs => by rw [S0X_0 (by omega), S0X_0 (by omega)])
  refine ⟨S0X, E, S0X_XR, S0X_RC, RS_sF S0X_RS _, ?_, ⟨⟨0, by omega, S0X_0 (by omega), ?_⟩, fun i hi => ?_⟩, ?_, dm 1, ⟨0, by omega, S0X_0 (by omega), fun k hk => ?_⟩, Or.inl (S0X_0 (by omega)), Or.inl (S0X_0 (by omega))⟩
  · rw [sF_ne _ _ _ (by omega), S0M_0 (by omega), S0X_4 (by omega)]
  · rw [sF_ne _ _ _ (by omega), S0M_0 (by omega)]
  · rw [sF_ne _ _ _ (by omega), S0M_0 (by omega), S0X_0 (by omega)]; exact ⟨rfl, rg0 (by omega) (by omega)⟩
  · rw [sF_self]; exact (dm 0).eqf hg
  · rw [sF_ne _ _ _ (by omega), S0M_0 (by omega)]
    exact ⟨by rw [bI_f (by simp)], fun c => by simp at c⟩
