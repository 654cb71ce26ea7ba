/-! ===== write ===== -/
theorem lN_I : ∀ n, n < 256 → (lN n).toInt32 = nI n := by decide +kernel
theorem and255 (x : Int64) : ∃ n, n < 256 ∧ (x &&& lN 255).toInt32 = nI n := by
  have h : x &&& lN 255 = lN ((x.toBitVec.toNat) &&& 255) := by
    apply Int64.toBitVec_inj.mp
    show x.toBitVec &&& BitVec.ofNat 64 255 = BitVec.ofNat 64 (x.toBitVec.toNat &&& 255)
    apply BitVec.eq_of_toNat_eq
    rw [BitVec.toNat_and, BitVec.toNat_ofNat, BitVec.toNat_ofNat]
    have h1 : x.toBitVec.toNat &&& 255 ≤ 255 := Nat.and_le_right
    rw [Nat.mod_eq_of_lt (show (255 : Nat) < 2 ^ 64 by omega), Nat.mod_eq_of_lt (by omega)]
  have h1 : x.toBitVec.toNat &&& 255 ≤ 255 := Nat.and_le_right
  exact ⟨x.toBitVec.toNat &&& 255, by omega, by rw [h, lN_I _ (by omega)]⟩
def byI (a1 : Int64) (i : Nat) : Int32 := (((a1 >>> (((nI 8) * (nI i)).toInt64 &&& 63)) &&& (lN 255))).toInt32
theorem byI_rg (a1 : Int64) (i : Nat) : rg (byI a1 i) 0 255 := by
  obtain ⟨n, h1, h2⟩ := and255 (a1 >>> (((nI 8) * (nI i)).toInt64 &&& 63))
  unfold byI rg
  rw [h2, nI_toInt (by omega)]
  omega
def wrB (g : Nat → Int32) (a1 : Int64) (len i : Nat) : Nat → Int32 := fun j => if len ≤ j ∧ j < len + i then byI a1 (j - len) else g j
theorem wrB_s (g : Nat → Int32) (a1 : Int64) (len i : Nat) : upd (wrB g a1 len i) (len + i) (byI a1 i) = wrB g a1 len (i + 1) := by
  funext j
  unfold wrB
  by_cases c : j = len + i
  · subst c
    rw [upd_s, if_pos (by omega), show len + i - len = i by omega]
  · rw [upd_n _ _ c]
    by_cases c2 : len ≤ j ∧ j < len + i
    · rw [if_pos c2, if_pos (by omega)]
    · rw [if_neg c2, if_neg (by omega)]
theorem wrB_0 (g : Nat → Int32) (a1 : Int64) (len : Nat) : wrB g a1 len 0 = g := by
  funext j; unfold wrB; rw [if_neg (by omega)]
def apX (SX S : St) (a1 : Int64) (len i : Nat) : Prop := (∀ c, c ≠ 1 → c ≠ 2 → S.1 c = SX.1 c) ∧ S.1 1 2 = nI (len + i) ∧ S.1 2 = wrB (SX.1 2) a1 len i
theorem X_append {SX : St} {a1 : Int64} {len n : Nat} {K : St → Prop} (hn : n ≤ 8) (hl : len + n ≤ 200) (hK : ∀ S, apX SX S a1 len n → K S) :
    ∀ m i S, i + m = n → apX SX S a1 len i → q_X7_append_3 a1 (nI n) K (m + 1) S (nI i) := by
  intro m
  induction m with
  | zero => intro i S hi h; rw [q_X7_append_3_s, nle _ _ (by omega) (by omega), and_if (by omega)]; exact hK S (by rw [show n = i by omega]; exact h)
  | succ m ih =>
    intro i S hi h
    rw [q_X7_append_3_s, nle _ _ (by omega) (by omega), and_nif (by omega), h.2.1, nle _ _ (by omega) (by omega), and_nif (by omega), all_eq, all_eq, all_eq, nI_add]
    refine ⟨vp_in_nI (by omega) (by omega), ih (i + 1) _ (by omega) ⟨fun c h1 h2 => ?_, ?_, ?_⟩⟩
    · rw [sI_ne _ _ _ _ h1, sI_ne _ _ _ _ h2]; exact h.1 c h1 h2
    · rw [sI_1, if_pos rfl, if_pos rfl, sI_ne _ _ _ _ (by omega), h.2.1, nI_add, Nat.add_assoc]
    · rw [sI_ne _ _ _ _ (by omega), sI_row, h.2.2, ncl _ (by omega)]
      exact wrB_s _ _ _ _
theorem M_write31 {SM : St} {a1 : Int64} {len n : Nat} {k : Int32 → St → Prop} (h9 : SM.1 0 9 = nI len) (hn : n ≤ 8) (hl : len + n ≤ 200) (hK : k (nI (len + n)) (sI (sF SM 4 (wrB (SM.1 4) a1 len n)) 0 9 (nI (len + n)))) :
    ∀ m i, i + m = n → q_X9_write_31 a1 (nI n) k (m + 1) (sF SM 4 (wrB (SM.1 4) a1 len i)) (nI i) := by
  intro m
  induction m with
  | zero =>
    intro i hi
    rw [q_X9_write_31_s, nle _ _ (by omega) (by omega), and_if (by omega), all_eq, sF_ne _ _ _ (by omega), h9, nI_add, sI_1, if_pos rfl, if_pos rfl, show i = n by omega]
    exact hK
  | succ m ih =>
    intro i hi
    rw [q_X9_write_31_s, nle _ _ (by omega) (by omega), and_nif (by omega), sF_ne _ _ _ (by omega), h9, nI_add, all_eq, all_eq, nI_add, ncl _ (by omega), sI_sF]
    refine ⟨vp_in_nI (by omega) (by omega), ?_⟩
    have := ih (i + 1) (by omega)
    rw [← wrB_s] at this
    exact this
theorem o_write : ob_write Rel := by
  intro SX SM R a1 a2
  unfold q_X8_write q_X9_write q_X7_hasRoom
  simp only [f_X9_in, bbr]
  rcases ixN a2 (n := 9) (by omega) with c | c | ⟨n, hn, rfl⟩
  · have c1 : a2 < nI 1 := by
      rw [tI_lt, nI_toInt (by omega)]; rw [tI_lt, nI_toInt (by omega)] at c; omega
    simp only [and_if c1, pif_f (fun q : inR a2 (nI 1) (nI 8) => q.1 c1)]
    exact ⟨trivial, R⟩
  · have c1 : ¬ a2 < nI 1 := by
      rw [tI_lt, nI_toInt (by omega)]; rw [tI_le, nI_toInt (by omega)] at c; omega
    have c2 : ¬ a2 ≤ nI 8 := by
      rw [tI_le, nI_toInt (by omega)]; rw [tI_le, nI_toInt (by omega)] at c; omega
    have c3 : ¬ inR a2 (nI 1) (nI 8) := fun q => by
      apply q.2
      rw [tI_lt, nI_toInt (by omega)]; rw [tI_le, nI_toInt (by omega)] at c; omega
    simp only [and_nif c1, and_nif c2, pif_f c3]
    exact ⟨trivial, R⟩
  · by_cases c0 : n = 0
    · have c1 : nI n < nI 1 := by rw [c0]; decide
      simp only [and_if c1, pif_f (fun q : inR (nI n) (nI 1) (nI 8) => q.1 c1)]
      exact ⟨trivial, R⟩
    · have c1 : ¬ nI n < nI 1 := by rw [nlt _ _ (by omega) (by omega)]; omega
      have c2 : nI n ≤ nI 8 := by rw [nle _ _ (by omega) (by omega)]; omega
      have c3 : inR (nI n) (nI 1) (nI 8) := ⟨c1, by rw [nlt _ _ (by omega) (by omega)]; omega⟩
      simp only [and_nif c1, and_if c2, pif_t c3]
      have R0 := R
      obtain ⟨T, E, X, C, S, hl, ⟨⟨len, l1, l2, l3⟩, rt⟩, d0, d1, rk, q0, q1⟩ := R
      simp (disch := omega) only [l2, l3, nI_add, nlt, nle]
      by_cases c4 : 200 < len + n
      · rw [and_if c4, and_if trivial]
        rw [and_nif (by omega)]
        exact ⟨trivial, R0⟩
      · rw [and_nif c4, and_nif n10]
        refine ⟨n + 1, X_append (len := len) (by omega) (by omega) (fun S' h => ?_) n 0 SX (by omega) ⟨fun _ _ _ => rfl, l2, (wrB_0 _ _ _).symm⟩⟩
        rw [and_if (by omega)]
        refine ⟨n + 1, ?_⟩
        have hs := M_write31 (SM := SM) (a1 := a1) (len := len) (n := n) (k := fun r' SM' => S'.1 1 2 = r' ∧ Rel S' SM') l3 (by omega) (by omega) ?_ n 0 (by omega)
        · rw [wrB_0, sF_id] at hs
          exact hs
        obtain ⟨h1, h2, h3⟩ := h
        have E' : SeaEq S' T := fun c q1 q2 => by rw [h1 c (by omega) (by omega)]; exact E c q1 q2
        have e6 : ∀ g v, (sI (sF SM 4 g) 0 9 v).1 6 = SM.1 6 := fun g v => by rw [sI_ne _ _ _ _ (by omega), sF_ne _ _ _ (by omega)]
        refine ⟨h2, T, E', X, C, ?_, ?_, ?_, ?_, ?_, ?_, ?_, ?_⟩
        · refine S.eq ⟨?_, ?_, ?_, ?_, ?_⟩ ?_ ?_ ?_
          all_goals first | (rw [sI_1, if_pos rfl, if_neg (by omega), sF_ne _ _ _ (by omega)]) | (rw [sI_ne _ _ _ _ (by omega), sF_ne _ _ _ (by omega)])
        · rw [sI_1, if_pos rfl, if_neg (by omega), sF_ne _ _ _ (by omega)]; exact hl
        · refine ⟨⟨len + n, by omega, h2, by rw [sI_1, if_pos rfl, if_pos rfl]⟩, fun i hi => ?_⟩
          rw [h3, sI_ne _ _ _ _ (by omega), sF_self]
          unfold wrB
          by_cases q : len ≤ i ∧ i < len + n
          · rw [if_pos q, if_pos q]; exact ⟨rfl, byI_rg _ _⟩
          · rw [if_neg q, if_neg q]; exact rt i hi
        · rw [e6]; exact d0.eq E' (fun c _ _ => h1 c (by omega) (by omega))
        · exact d1.eq E' (fun c _ _ => h1 c (by omega) (by omega))
        · exact rk.eq E' (by rw [h1 0 (by omega) (by omega)]) (fun c _ _ => h1 c (by omega) (by omega)) (by rw [sI_ne _ _ _ _ (by omega), sF_ne _ _ _ (by omega)]) (by rw [sI_ne _ _ _ _ (by omega), sF_ne _ _ _ (by omega)])
        · rw [e6]; exact q0.eq (h1 _ (by omega) (by omega))
        · exact q1.eq (h1 _ (by omega) (by omega))
