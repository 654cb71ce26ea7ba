/-! ===== best, allDay ===== -/
def BF (SM S : St) : Prop := (∀ c, c ≠ 0 → c ≠ 6 → c ≠ 7 → S.1 c = SM.1 c) ∧ (∀ j, j ≠ 23 → S.1 0 j = SM.1 0 j) ∧ ∀ j, j < 1197 → S.1 7 j = SM.1 6 j
def BC (W : Nat → Int32) (S : St) (x3 : Int32) (c : Nat) : Prop := (c = 0 ∧ S.1 0 23 = -1) ∨ ∃ b, b < c ∧ x3 = nI b ∧ S.1 0 23 = W b ∧ (∀ c', c' < c → W c' ≤ W b) ∧ ∀ c', c' < b → W c' < W b
theorem BF_6 {SM S : St} (h : BF SM S) (g : Nat → Int32) : BF SM (sF S 6 g) :=
  ⟨fun c c0 c6 c7 => by rw [sF_ne _ _ _ c6]; exact h.1 c c0 c6 c7, fun j hj => by rw [sF_ne _ _ _ (by omega)]; exact h.2.1 j hj, fun j hj => by rw [sF_ne _ _ _ (by omega)]; exact h.2.2 j hj⟩
theorem BF_23 {SM S : St} (h : BF SM S) (v : Int32) : BF SM (sI S 0 23 v) :=
  ⟨fun c c0 c6 c7 => by rw [sI_ne _ _ _ _ c0]; exact h.1 c c0 c6 c7, fun j hj => by rw [sI_row, upd_n _ _ hj]; exact h.2.1 j hj, fun j hj => by rw [sI_ne _ _ _ _ (by omega)]; exact h.2.2 j hj⟩
theorem BF_RS {T SM S : St} (R : RS T SM) (h : BF SM S) : RS T S :=
  R.eq ⟨h.2.1 _ (by omega), h.2.1 _ (by omega), h.2.1 _ (by omega), h.2.1 _ (by omega), h.2.1 _ (by omega)⟩ (h.1 _ (by omega) (by omega) (by omega)) (h.1 _ (by omega) (by omega) (by omega)) (h.1 _ (by omega) (by omega) (by omega))
def triE (a1 : Int32) (K : Int32 → St → Prop) (e32 : St → Int32 → Int32 → Int32 → Prop) (x2 x3 : Int32) (c : Nat) (S : St) : Prop :=
  q_X9_copyState S (fun S_3 => q_X9_askAll S_3 (nI c) (fun S_4 => q_X9_caught S_4 (fun r_5 => (a1 = nI 0 → q_X9_goHour S_4 (fun S_7 => q_X9_bestOf_87 a1 K e32 S_7 x2 x3 (nI c) r_5)) ∧ (¬ a1 = nI 0 → q_X9_anew S_4 (fun S_8 => ∃ f_65, q_X9_bestOf_65 a1 K e32 f_65 S_8 x2 x3 (nI c) (nI 0))))))
section MB
variable {T SM : St} {law a1 : Int32} {K : Int32 → St → Prop} {W : Nat → Int32}
theorem M_87 {S : St} {e32 : St → Int32 → Int32 → Int32 → Prop} {x2 x3 x4 had w : Int32} (h : sm6 (S.1 6) - had = w) (h1 : w ≤ S.1 0 23 → e32 (sI S 0 23 (S.1 0 23)) x2 x3 (x4 + nI 1)) (h2 : ¬ w ≤ S.1 0 23 → e32 (sI S 0 23 w) x2 x4 (x4 + nI 1)) : q_X9_bestOf_87 a1 K e32 S x2 x3 x4 had := by
  unfold q_X9_bestOf_87
  refine M_caught ?_
  rw [all_eq, h]
  unfold q_X9_bestOf_111 q_X9_bestOf_131
  refine ⟨fun c => ?_, fun c => ?_⟩
  · rw [and_if c, all_eq, all_eq]; exact h1 c
  · rw [and_nif c, all_eq, all_eq]; exact h2 c
theorem M_b32 (tri : ∀ (c : Nat) (S : St) (e32 : St → Int32 → Int32 → Int32 → Prop) (x2 x3 : Int32), c < 4 ^ cnt T 6 → BF SM S → (∀ S' had, BF SM S' → S'.1 0 23 = S.1 0 23 → sm6 (S'.1 6) - had = W c → q_X9_bestOf_87 a1 K e32 S' x2 x3 (nI c) had) →
      triE a1 K e32 x2 x3 c S)
    (hK : ∀ S' b, b < 4 ^ cnt T 6 → (∀ c, c ≠ 0 → c ≠ 6 → c ≠ 7 → S'.1 c = SM.1 c) → (∀ j, j ≠ 23 → S'.1 0 j = SM.1 0 j) → (∀ j, j < 1197 → S'.1 6 j = SM.1 6 j) → S'.1 0 23 = W b → (∀ c', c' < 4 ^ cnt T 6 → W c' ≤ W b) → (∀ c', c' < b → W c' < W b) → K (nI b) S')
    (hW : ∀ c, ¬ W c ≤ -1) :
    ∀ (m c : Nat) (S : St) (x3 : Int32), c + m = 4 ^ cnt T 6 → BF SM S → BC W S x3 c → q_X9_bestOf_32 a1 K (m + 1) S (nI (4 ^ cnt T 6)) x3 (nI c) := by
  have hp := cnt_pow T
  have hp1 : 0 < 4 ^ cnt T 6 := Nat.pow_pos (by omega)
  intro m
  induction m with
  | zero =>
    intro c S x3 hc F I
    rw [q_X9_bestOf_32_s, nle _ _ (by omega) (by omega), and_if (by omega)]
    refine M_copy (by omega) (by omega) (by omega) (by omega) (by omega) ?_
    rcases I with ⟨z, -⟩ | ⟨b, b1, b2, b3, b4, b5⟩
    · omega
    · rw [b2]
      refine hK _ b (by omega) (fun c c0 c6 c7 => by rw [sF_ne _ _ _ c6]; exact F.1 c c0 c6 c7) (fun j hj => by rw [sF_ne _ _ _ (by omega)]; exact F.2.1 j hj) (fun j hj => ?_) (by rw [sF_ne _ _ _ (by omega)]; exact b3) (fun c' hc' => b4 c' (by omega)) b5
      rw [sF_self]
      unfold cpR
      rw [if_pos (by omega), show 0 + (j - 0) = j by omega]
      exact F.2.2 j hj
  | succ m ih =>
    intro c S x3 hc F I
    rw [q_X9_bestOf_32_s, nle _ _ (by omega) (by omega), and_nif (by omega)]
    refine tri c S _ _ _ (by omega) F (fun S' had F' e h => M_87 h (fun w => ?_) (fun w => ?_))
    · rw [nI_add]
      refine ih (c + 1) _ _ (by omega) (BF_23 F' _) ?_
      rw [e] at w
      rcases I with ⟨z, z2⟩ | ⟨b, b1, b2, b3, b4, b5⟩
      · rw [z2] at w; exact absurd w (hW c)
      · refine Or.inr ⟨b, by omega, b2, by rw [sI_row, upd_s, e]; exact b3, fun c' hc' => ?_, b5⟩
        by_cases q : c' = c
        · rw [q, ← b3]; exact w
        · exact b4 c' (by omega)
    · rw [nI_add]
      refine ih (c + 1) _ _ (by omega) (BF_23 F' _) (Or.inr ⟨c, by omega, rfl, by rw [sI_row, upd_s], fun c' hc' => ?_, fun c' hc' => ?_⟩)
      · rw [e] at w
        by_cases q : c' = c
        · rw [q, tI_le]; omega
        · rcases I with ⟨z, z2⟩ | ⟨b, b1, b2, b3, b4, b5⟩
          · omega
          · rw [b3, i_nle] at w
            exact i_lt_le' (i_lt_le (b4 c' (by omega)) w)
      · rw [e] at w
        rcases I with ⟨z, z2⟩ | ⟨b, b1, b2, b3, b4, b5⟩
        · omega
        · rw [b3, i_nle] at w
          exact i_lt_le (b4 c' hc') w
theorem M_bestOf (R : RS T SM) (tri : ∀ (c : Nat) (S : St) (e32 : St → Int32 → Int32 → Int32 → Prop) (x2 x3 : Int32), c < 4 ^ cnt T 6 → BF SM S → (∀ S' had, BF SM S' → S'.1 0 23 = S.1 0 23 → sm6 (S'.1 6) - had = W c → q_X9_bestOf_87 a1 K e32 S' x2 x3 (nI c) had) →
      triE a1 K e32 x2 x3 c S)
    (hK : ∀ S' b, b < 4 ^ cnt T 6 → (∀ c, c ≠ 0 → c ≠ 6 → c ≠ 7 → S'.1 c = SM.1 c) → (∀ j, j ≠ 23 → S'.1 0 j = SM.1 0 j) → (∀ j, j < 1197 → S'.1 6 j = SM.1 6 j) → S'.1 0 23 = W b → (∀ c', c' < 4 ^ cnt T 6 → W c' ≤ W b) → (∀ c', c' < b → W c' < W b) → K (nI b) S')
    (hW : ∀ c, ¬ W c ≤ -1) : q_X9_bestOf SM a1 K := by
  unfold q_X9_bestOf
  refine M_told R ?_
  have hc := cnt_le (T := T) 6
  have e : ∀ n, 2 ^ (2 * n) = 4 ^ n := fun n => Nat.pow_mul 2 2 n
  rw [all_eq, all_eq, pk_mul, shl1 _ (by omega), e]
  refine M_copy (by omega) (by omega) (by omega) (by omega) (by omega) ?_
  refine ⟨4 ^ cnt T 6 + 1, M_b32 tri hK hW _ 0 _ _ (by omega) ⟨fun c c0 c6 c7 => ?_, fun j hj => ?_, fun j hj => ?_⟩ (Or.inl ⟨rfl, ?_⟩)⟩
  · rw [sF_ne _ _ _ c7, sI_ne _ _ _ _ c0]
  · rw [sF_ne _ _ _ (by omega), sI_row, upd_n _ _ hj]
  · rw [sF_self]
    unfold cpR
    rw [if_pos (by omega), show 0 + (j - 0) = j by omega, sI_ne _ _ _ _ (by omega)]
  · rw [sF_ne _ _ _ (by omega), sI_row, upd_s]
theorem ask_row {c : Nat} {f g : Nat → Int32} (ha : askOK f) (g1 : ∀ k, k < 6 → tK T k → g (7 + k) = nI (hOf (unp T 6 c) k)) (g2 : ∀ k, k < 6 → ¬ tK T k → g (7 + k) = f (7 + k)) : askOK g := fun k hk => by
  by_cases h : tK T k
  · exact ⟨_, by have := hOf_lt (unp T 6 c) k; omega, g1 k hk h⟩
  · rw [g2 k hk h]; exact ha k hk
theorem tri_hour {t n : Nat} (R : RS T SM) (X : XR T) (hl : SM.1 0 5 = law) (h0 : SM.1 6 0 = nI t) (ht : t < 12) (ha : askOK (SM.1 6)) (h44 : SM.1 6 44 = nI n) (hn : n ≤ 24 * t) (hW : ∀ c, W c = VV T law 1 (SM.1 6) (unp T 6 c)) :
    ∀ (c : Nat) (S : St) (e32 : St → Int32 → Int32 → Int32 → Prop) (x2 x3 : Int32), c < 4 ^ cnt T 6 → BF SM S → (∀ S' had, BF SM S' → S'.1 0 23 = S.1 0 23 → sm6 (S'.1 6) - had = W c → q_X9_bestOf_87 (nI 0) K e32 S' x2 x3 (nI c) had) →
      triE (nI 0) K e32 x2 x3 c S := by
  intro c S e32 x2 x3 hc F hs
  unfold triE
  have RS' := BF_RS R F
  refine M_cst (M_askAll RS' hc (fun g g1 g2 g3 => ?_))
  have cs : ∀ j, j < 45 → csR S 45 j = SM.1 6 j := fun j hj => by unfold csR; rw [if_pos hj]; exact F.2.2 j (by omega)
  refine M_caught ?_
  rw [and_if rfl, sF_self]
  have g2' : ∀ k, k < 6 → ¬ tK T k → g (7 + k) = SM.1 6 (7 + k) := fun k hk hT => by rw [g2 k hk hT, cs _ (by omega)]
  refine M_goHour (law := law) RS' X (by rw [F.2.1 _ (by omega)]; exact hl) ht (by rw [g3 0 (by omega), cs _ (by omega)]; exact h0) (ask_row ha g1 g2') (by rw [g3 44 (by omega), cs _ (by omega)]; exact h44) (by omega) ?_
  refine hs _ _ (BF_6 F _) (by rw [sF_ne _ _ _ (by omega)]) ?_
  rw [sF_self, hW]
  have hsm : sm6 g = sm6 (SM.1 6) := sm6_eq (fun j h1 h2 => by rw [g3 j (by omega), cs _ (by omega)])
  have ez : EZ (fun k => ¬ tK T k) (setA (SM.1 6) (unp T 6 c)) g := fun j hj hz => by
    by_cases q : 7 ≤ j ∧ j < 13
    · rw [show j = 7 + (j - 7) by omega, setA_at (by omega)]
      refine g1 _ (by omega) ?_
      rcases hz with hz | hz | hz
      · omega
      · omega
      · exact Classical.not_not.mp hz
    · rw [setA_n (by omega), g3 j (by omega), cs j hj]
  have := nHs_z (T := T) (law := law) (t := t) ez 1 (fun i _ k _ hz => rU_told hz) (fun i _ k _ hz => rU_told hz)
  unfold VV
  rw [h0, ncl _ (by omega), hsm, ← sm6_z this]
  rfl
theorem M_b65 {S : St} {e32 : St → Int32 → Int32 → Int32 → Prop} (R : RS T S) (X : XR T) (hl : S.1 0 5 = law) {x2 x3 x4 x5 : Int32} : ∀ (m t : Nat) (now : Nat → Int32) (c : Nat), t + m = 12 → now 0 = nI t → askOK now → now 44 = nI c → c ≤ 24 * t →
    q_X9_bestOf_87 a1 K e32 (sF S 6 (nHs T law m t now)) x2 x3 x4 x5 → q_X9_bestOf_65 a1 K e32 (m + 1) (sF S 6 now) x2 x3 x4 x5 := by
  intro m
  induction m with
  | zero =>
    intro t now c ht h0 ha h44 hc h1
    rw [q_X9_bestOf_65_s, sF_self, ncl _ (by omega), h0, nle _ _ (by omega) (by omega), and_if (by omega)]
    exact h1
  | succ m ih =>
    intro t now c ht h0 ha h44 hc h1
    rw [q_X9_bestOf_65_s, sF_self, ncl _ (by omega), h0, nle _ _ (by omega) (by omega), and_nif (by omega)]
    obtain ⟨c', g1, g2, e⟩ := nHour_44 (T := T) (law := law) (t := t) h44
    refine M_goHour R X hl (by omega) h0 ha h44 (by omega) ?_
    exact ih (t + 1) _ c' (by omega) (nHour_0 h0) (nHour_ask ha) e (by omega) h1
theorem sm_morn (T : St) : sm6 (nMorn T) = nI 0 := by
  unfold sm6
  simp (disch := omega) only [nMorn_0, nI_add]
theorem tri_day (R : RS T SM) (X : XR T) (hl : SM.1 0 5 = law) (ha : askOK (SM.1 6)) (hW : ∀ c, W c = VV T law 12 (nMorn T) (unp T 6 c)) :
    ∀ (c : Nat) (S : St) (e32 : St → Int32 → Int32 → Int32 → Prop) (x2 x3 : Int32), c < 4 ^ cnt T 6 → BF SM S → (∀ S' had, BF SM S' → S'.1 0 23 = S.1 0 23 → sm6 (S'.1 6) - had = W c → q_X9_bestOf_87 (nI 1) K e32 S' x2 x3 (nI c) had) →
      triE (nI 1) K e32 x2 x3 c S := by
  intro c S e32 x2 x3 hc F hs
  unfold triE
  have RS' := BF_RS R F
  refine M_cst (M_askAll RS' hc (fun g g1 g2 g3 => ?_))
  have cs : ∀ j, j < 45 → csR S 45 j = SM.1 6 j := fun j hj => by unfold csR; rw [if_pos hj]; exact F.2.2 j (by omega)
  have g2' : ∀ k, k < 6 → ¬ tK T k → g (7 + k) = SM.1 6 (7 + k) := fun k hk hT => by rw [g2 k hk hT, cs _ (by omega)]
  refine M_caught ?_
  rw [and_nif (by decide)]
  refine M_anew (RS_sF RS' _) (fun g' hg' => ⟨13, ?_⟩)
  rw [sF_sF]
  rw [sF_self] at hg'
  refine M_b65 RS' X (law := law) (by rw [F.2.1 _ (by omega)]; exact hl) 12 0 g' 0 (by omega) ?_ ?_ ?_ (by omega) ?_
  · rw [hg' 0 (by omega), if_neg (by omega), nMorn_0 (by omega)]
  · exact (ask_row ha g1 g2').of (fun k hk => by rw [hg' _ (by omega), if_pos (by omega)])
  · rw [hg' 44 (by omega), if_neg (by omega), nMorn_0 (by omega)]
  refine hs _ _ (BF_6 F _) (by rw [sF_ne _ _ _ (by omega)]) ?_
  rw [sF_self, hW]
  have ez : EZ (fun k => ¬ tK T k) (setA (nMorn T) (unp T 6 c)) g' := fun j hj hz => by
    rw [hg' j (by omega)]
    by_cases q : 7 ≤ j ∧ j < 13
    · rw [if_pos q, show j = 7 + (j - 7) by omega, setA_at (by omega)]
      refine g1 _ (by omega) ?_
      rcases hz with hz | hz | hz
      · omega
      · omega
      · exact Classical.not_not.mp hz
    · rw [if_neg q, setA_n (by omega)]
  have := nHs_z (T := T) (law := law) (t := 0) ez 12 (fun i _ k _ hz => rU_told hz) (fun i _ k _ hz => rU_told hz)
  unfold VV
  rw [nMorn_0 (by omega), ncl _ (by omega), sm_morn, sm6_z this]
end MB
/-- the first best code is the first best plan -/
theorem code_plan {T : St} {law : Int32} {m t P b : Nat} {f : Nat → Int32} (h0 : f 0 = nI t) (ht : t ≤ 12) (hP : P < 4096) (p1 : ∀ Q, Q < 4096 → VV T law m f Q ≤ VV T law m f P) (p2 : ∀ Q, Q < P → VV T law m f Q < VV T law m f P)
    (hb : b < 4 ^ cnt T 6) (b1 : ∀ c, c < 4 ^ cnt T 6 → VV T law m f (unp T 6 c) ≤ VV T law m f (unp T 6 b)) (b2 : ∀ c, c < b → VV T law m f (unp T 6 c) < VV T law m f (unp T 6 b)) : unp T 6 b = P := by
  obtain ⟨c, c1, c2⟩ := unp_sur (T := T) 6 P hP (fun k hk hT => by
    rw [show 6 - 1 - k = 5 - k by omega]
    by_cases q : P / 4 ^ (5 - k) % 4 = 0
    · exact q
    · exfalso
      obtain ⟨y1, y2, y3, y4⟩ := hOf_z hP hk
      have e : hOf P k = P / 4 ^ (5 - k) % 4 := rfl
      have lt := y4 (by omega)
      have le := Nat.div_mul_le_self P (4 ^ (5 - k))
      have ev : VV T law m f (P - hOf P k * 4 ^ (5 - k)) = VV T law m f P := VV_dead (Z := fun j => j = k) h0 ht (fun j hj hn => y3 j hj hn)
        (fun i hi j hj hz => by rw [hz]; exact rU_told hT) (fun i hi j hj hz => by rw [hz]; exact rU_told hT)
      have := p2 (P - hOf P k * 4 ^ (5 - k)) (by omega)
      rw [ev, tI_lt] at this
      omega)
  have hbl : unp T 6 b < 4096 := unp_lt 6 b hb
  have v1 := p1 _ hbl
  have v2 := b1 c c1
  rw [c2] at v2
  have hcb : c = b := by
    rcases Nat.lt_trichotomy c b with h | h | h
    · have := b2 c h
      rw [c2, tI_lt] at this
      rw [tI_le] at v1
      omega
    · exact h
    · have := unp_mono 6 b c h c1
      rw [c2] at this
      have := p2 _ this
      rw [tI_lt] at this
      rw [tI_le] at v2
      omega
  rw [← hcb, c2]
theorem isKt_ex {SX T : St} (E : SeaEq SX T) {a1 : Int32} (h : isKt SX a1) : ∃ a, a < 6 ∧ a1 = nI a ∧ tK T a := by
  obtain ⟨a, h1, h2, h3⟩ := h
  refine ⟨a, h1, h2, ?_⟩
  unfold tK at h3 ⊢
  rw [← E (9 + a) (by omega) (by omega)]
  exact h3
theorem o_best : ob_best Rel := by
  intro SX SM R a1
  have main : (a1 = -1 ∨ isKt SX a1) → q_X8_best_19 a1 (fun r SX' => q_X9_best_16 a1 (fun r' SM' => r = r' ∧ Rel SX' SM') SM) SX := fun ha1 => by
    obtain ⟨T, R⟩ := R
    have R' := R
    obtain ⟨E, X, C, S, hl, rt, d0, d1, rk, q0, q1⟩ := R
    have D := d0
    obtain ⟨t, u, n, ht, p, hup, h44, hn⟩ := d0
    have h0 : SM.1 6 0 = nI t := p.2.1.2.2.1
    have ha : askOK (SM.1 6) := p.2.1.2.2.2.2.2.1
    unfold q_X8_best_19
    rw [p.2.1.2.1, nlt _ _ (by omega) (by omega)]
    refine ⟨fun ht2 => ?_, fun ht2 => ?_⟩
    · refine X_find (t := t) C X E D (by omega) (by omega) h0 (by omega) q0 (fun S' F e1 Q => ?_)
      have ref : ∀ r : Int32, (∀ P b, P = unp T 6 b → b < 4 ^ cnt T 6 → S'.1 (24 + 3 * 0) 2 = nI P → S'.1 (24 + 3 * 0) 1 = VV T (T.1 4 4) 1 (SM.1 6) P → ∀ S2, RS T S2 → S2.1 0 23 = VV T (T.1 4 4) 1 (SM.1 6) P → Rel S' S2 →
          ((a1 = (-1 : Int32) → (r = S2.1 0 23 ∧ Rel S' S2)) ∧ (¬ a1 = (-1 : Int32) → (q_X9_heightIn S2 (nI b) a1 (fun r_5 => (r = r_5 ∧ Rel S' S2)))))) → q_X9_best_16 a1 (fun r' SM' => r = r' ∧ Rel S' SM') SM := fun r hr => by
        unfold q_X9_best_16
        rw [ncl _ (by omega), h0, neq _ _ (by omega) (by omega), and_nif (by omega)]
        obtain ⟨N, G, hN⟩ := XR_RN X
        obtain ⟨L, hL⟩ := LF_ex (f := SM.1 6) (fun s hs => (p.2.1.2.2.2.2.2.2.2.1 s hs).2)
        refine M_bestOf (W := fun c => VV T (T.1 4 4) 1 (SM.1 6) (unp T 6 c)) S (tri_hour S X hl h0 ht2 ha h44 hn (fun c => rfl)) (fun S2 b hb f1 f2 f3 f4 b1 b2 => ?_) (fun c => by
          obtain ⟨w1, w2⟩ := VV_sT (law := T.1 4 4) (m := 1) hN hL h0 ht (unp T 6 c)
          rw [w1]
          exact n_m1 (by omega))
        have Q2 := Q
        rcases Q2 with z | ⟨-, P, hP, p1, p2, p3, p4⟩
        · rw [e1] at z; exact absurd z n10
        have eP := code_plan h0 ht hP p3 p4 hb b1 b2
        refine hr P b eP.symm hb p1 p2 S2 (S.eq ⟨f2 _ (by omega), f2 _ (by omega), f2 _ (by omega), f2 _ (by omega), f2 _ (by omega)⟩ (f1 _ (by omega) (by omega) (by omega)) (f1 _ (by omega) (by omega) (by omega)) (f1 _ (by omega) (by omega) (by omega))) (by rw [f4]; show VV T (T.1 4 4) 1 (SM.1 6) (unp T 6 b) = _; rw [eP]) ?_
        exact ⟨T, RelT_go R' (fun c hc => F c (by omega)) f1 f2 f3 Q (q1.eq (F _ (by omega)))⟩
      refine ⟨fun c1 => ref _ (fun P b e hb g1 g2 S2 R2 g3 RR => ⟨fun _ => ⟨by rw [g2, g3], RR⟩, fun q => absurd c1 q⟩), fun c1 => ?_⟩
      obtain ⟨a, a1', rfl, hT⟩ := isKt_ex E (ha1.resolve_left c1)
      have Q2 := Q
      rcases Q2 with z | ⟨-, P, hP, p1, p2, p3, p4⟩
      · rw [e1] at z; exact absurd z n10
      unfold q_X5_heightOf
      rw [p1, f_hIn S' hP a1']
      refine ref _ (fun P' b e hb g1 g2 S2 R2 g3 RR => ⟨fun q => absurd q c1, fun _ => ?_⟩)
      have hpw := cnt_pow T
      have hP' : P' < 4096 := by rw [e]; exact unp_lt 6 b hb
      refine M_hI R2 (by omega) a1' hT ⟨?_, RR⟩
      rw [p1, neq _ _ (by omega) (by omega)] at g1
      rw [g1, e]
    · have e12 : t = 12 := by omega
      unfold q_X9_best_16
      dsimp only
      rw [ncl _ (by omega), h0, and_if (by rw [e12])]
      exact ⟨rfl, T, R'⟩
  unfold q_X8_best q_X9_best
  simp only [f_X4_isToldKite, f_X9_isKt R, bbr]
  by_cases c : a1 = -1
  · simp only [and_if c]
    exact main (Or.inl c)
  · by_cases c2 : isKt SX a1
    · simp only [and_nif c, pif_t c2]
      exact main (Or.inr c2)
    · simp only [and_nif c, pif_f c2]
      exact ⟨trivial, R⟩
theorem o_allDay : ob_allDay Rel := by
  intro SX SM R a1
  have main : (a1 = -1 ∨ isKt SX a1) → q_X8_allDay_19 a1 (fun r SX' => q_X9_allDay_16 a1 (fun r' SM' => r = r' ∧ Rel SX' SM') SM) SX := fun ha1 => by
    obtain ⟨T, R⟩ := R
    have R' := R
    obtain ⟨E, X, C, S, hl, rt, d0, d1, rk, q0, q1⟩ := R
    have D := d1
    obtain ⟨t, u, n, ht, p, hup, h44, hn⟩ := d1
    obtain ⟨t2, u2, n2, ht2, p2, -, -, -⟩ := d0
    have h0 : nMorn T 0 = nI 0 := nMorn_0 (by omega)
    have ha : askOK (SM.1 6) := p2.2.1.2.2.2.2.2.1
    unfold q_X8_allDay_19
    refine X_find (t := 0) C X E D (by omega) (by omega) h0 (by omega) q1 (fun S' F e1 Q => ?_)
    have ref : ∀ r : Int32, (∀ P b, P = unp T 6 b → b < 4 ^ cnt T 6 → S'.1 (24 + 3 * 1) 2 = nI P → S'.1 (24 + 3 * 1) 1 = VV T (T.1 4 4) 12 (nMorn T) P → ∀ S2, RS T S2 → S2.1 0 23 = VV T (T.1 4 4) 12 (nMorn T) P → Rel S' S2 →
        ((a1 = (-1 : Int32) → (r = S2.1 0 23 ∧ Rel S' S2)) ∧ (¬ a1 = (-1 : Int32) → (q_X9_heightIn S2 (nI b) a1 (fun r_5 => (r = r_5 ∧ Rel S' S2)))))) → q_X9_allDay_16 a1 (fun r' SM' => r = r' ∧ Rel S' SM') SM := fun r hr => by
      unfold q_X9_allDay_16
      obtain ⟨N, G, hN⟩ := XR_RN X
      obtain ⟨L, hL⟩ := LF_ex (f := nMorn T) (fun s hs => (p.2.1.2.2.2.2.2.2.2.1 s hs).2)
      refine M_bestOf (W := fun c => VV T (T.1 4 4) 12 (nMorn T) (unp T 6 c)) S (tri_day S X hl ha (fun c => rfl)) (fun S2 b hb f1 f2 f3 f4 b1 b2 => ?_) (fun c => by
        obtain ⟨w1, w2⟩ := VV_sT (law := T.1 4 4) (m := 12) hN hL h0 (by omega) (unp T 6 c)
        rw [w1]
        exact n_m1 (by omega))
      have Q2 := Q
      rcases Q2 with z | ⟨-, P, hP, p1, p2, p3, p4⟩
      · rw [e1] at z; exact absurd z n10
      have eP := code_plan h0 (by omega) hP p3 p4 hb b1 b2
      refine hr P b eP.symm hb p1 p2 S2 (S.eq ⟨f2 _ (by omega), f2 _ (by omega), f2 _ (by omega), f2 _ (by omega), f2 _ (by omega)⟩ (f1 _ (by omega) (by omega) (by omega)) (f1 _ (by omega) (by omega) (by omega)) (f1 _ (by omega) (by omega) (by omega))) (by rw [f4]; show VV T (T.1 4 4) 12 (nMorn T) (unp T 6 b) = _; rw [eP]) ?_
      exact ⟨T, RelT_go R' (fun c hc => F c (by omega)) f1 f2 f3 (q0.eq (F _ (by omega))) Q⟩
    refine ⟨fun c1 => ref _ (fun P b e hb g1 g2 S2 R2 g3 RR => ⟨fun _ => ⟨by rw [g2, g3], RR⟩, fun q => absurd c1 q⟩), fun c1 => ?_⟩
    obtain ⟨a, a1', rfl, hT⟩ := isKt_ex E (ha1.resolve_left c1)
    have Q2 := Q
    rcases Q2 with z | ⟨-, P, hP, p1, p2, p3, p4⟩
    · rw [e1] at z; exact absurd z n10
    unfold q_X5_heightOf
    rw [p1, f_hIn S' hP a1']
    refine ref _ (fun P' b e hb g1 g2 S2 R2 g3 RR => ⟨fun q => absurd q c1, fun _ => ?_⟩)
    have hpw := cnt_pow T
    have hP' : P' < 4096 := by rw [e]; exact unp_lt 6 b hb
    refine M_hI R2 (by omega) a1' hT ⟨?_, RR⟩
    rw [p1, neq _ _ (by omega) (by omega)] at g1
    rw [g1, e]
  unfold q_X8_allDay q_X9_allDay
  simp only [f_X4_isToldKite, f_X9_isKt R, bbr]
  by_cases c : a1 = -1
  · simp only [and_if c]
    exact main (Or.inl c)
  · by_cases c2 : isKt SX a1
    · simp only [and_nif c, pif_t c2]
      exact main (Or.inr c2)
    · simp only [and_nif c, pif_f c2]
      exact ⟨trivial, R⟩
