/-! ===== cut ===== -/
def cF (D : Nat → Int) (d : Nat) (b : Bool) (s : Int) : Int := if b = true then s + D d else s
def wN (w : Nat → Nat) (D : Int) (p j : Nat) : Nat := w j * (10 - p) + (if 0 ≤ (j : Int) - D ∧ (j : Int) - D < 100 then w ((j : Int) - D).toNat else 0) * p
section CU
variable {D : Nat → Int} {x0 : Int} {p : Nat}
theorem cF_rg (hD : ∀ i, i < 12 → -3 ≤ D i ∧ D i ≤ 3) (h0 : -9 ≤ x0 ∧ x0 ≤ 18) (set : Nat) : ∀ d : Nat, d ≤ 12 → -9 - 3 * (d : Int) ≤ stS (cF D) x0 set d ∧ stS (cF D) x0 set d ≤ 18 + 3 * (d : Int) := by
  intro d
  induction d with
  | zero => intro _; show -9 - 3 * ((0 : Nat) : Int) ≤ x0 ∧ x0 ≤ 18 + 3 * ((0 : Nat) : Int); omega
  | succ d ih =>
    intro hd
    have i1 := ih (by omega)
    have i2 := hD d (by omega)
    have e : stS (cF D) x0 set (d + 1) = if set.testBit d = true then stS (cF D) x0 set d + D d else stS (cF D) x0 set d := rfl
    rw [e]
    by_cases c : set.testBit d = true
    · rw [if_pos c]; omega
    · rw [if_neg c]; omega
theorem cut_AA (hD : ∀ i, i < 12 → -3 ≤ D i ∧ D i ≤ 3) (h0 : -9 ≤ x0 ∧ x0 ≤ 18) {d : Nat} (hd : d < 12) {j : Nat} (hj : j < 100) : AA (cF D) x0 p (10 - p) (d + 1) (-45 + j) = wN (fun j => AA (cF D) x0 p (10 - p) d (-45 + j)) (D d) p j := by
  rw [AA_s]
  unfold wN
  congr 1
  · show _ = AA (cF D) x0 p (10 - p) d (-45 + j) * (10 - p)
    unfold AA
    rw [← sN_mul]
    refine sN_c _ (fun i _ => ?_)
    show (if stS (cF D) x0 i d = -45 + (j : Int) then _ else 0) = (if stS (cF D) x0 i d = -45 + (j : Int) then _ else 0) * (10 - p)
    by_cases c : stS (cF D) x0 i d = -45 + (j : Int)
    · rw [if_pos c, if_pos c]
    · rw [if_neg c, if_neg c, Nat.zero_mul]
  · have i2 := hD d hd
    by_cases c : 0 ≤ (j : Int) - D d ∧ (j : Int) - D d < 100
    · rw [if_pos c]
      show _ = AA (cF D) x0 p (10 - p) d (-45 + (((j : Int) - D d).toNat : Int)) * p
      unfold AA
      rw [← sN_mul]
      refine sN_c _ (fun i _ => ?_)
      show (if stS (cF D) x0 i d + D d = -45 + (j : Int) then _ else 0) = (if stS (cF D) x0 i d = -45 + (((j : Int) - D d).toNat : Int) then _ else 0) * p
      by_cases c2 : stS (cF D) x0 i d = -45 + (((j : Int) - D d).toNat : Int)
      · rw [if_pos c2, if_pos (by omega)]
      · rw [if_neg c2, if_neg (by omega), Nat.zero_mul]
    · rw [if_neg c, Nat.zero_mul]
      refine sN_z _ (fun i _ => ?_)
      show (if stS (cF D) x0 i d + D d = -45 + (j : Int) then _ else 0) = 0
      rw [if_neg]
      have := cF_rg hD h0 i d (by omega)
      omega
theorem cut_sum (hD : ∀ i, i < 12 → -3 ≤ D i ∧ D i ≤ 3) (h0 : -9 ≤ x0 ∧ x0 ≤ 18) {n m : Nat} (hn : n ≤ 12) : sN (fun set => if (m : Int) ≤ stS (cF D) x0 set n then rvS p (10 - p) set n else 0) (2 ^ n) = sN (fun j => if m + 45 ≤ j then AA (cF D) x0 p (10 - p) n (-45 + j) else 0) 100 := by
  rw [tot (φ := fun x => (m : Int) ≤ x) (b := -45) (m := 100) (fun set _ _ => by have := cF_rg hD h0 set n hn; omega)]
  refine sN_c _ (fun j _ => ?_)
  show (if (m : Int) ≤ -45 + (j : Int) then AA (cF D) x0 p (10 - p) n (-45 + (j : Int)) else 0) = _
  by_cases c : m + 45 ≤ j
  · rw [if_pos c, if_pos (by omega)]
  · rw [if_neg c, if_neg (by omega)]
end CU
theorem sJ_o (S : St) (c k : Nat) (v : Int64) {c' : Nat} (h : c' ≠ c) : (sJ S c k v).2 c' = S.2 c' := sG_2 c' h
theorem X_drift {S : St} {by_ : Int32} {D : Int} {p : Nat} {w : Nat → Nat} {K : St → Prop} (hb : by_.toInt = D) (hD : -3 ≤ D ∧ D ≤ 3) (hp : p ≤ 10) (hw : ∀ j, j < 100 → S.2 31 j = lN (w j))
    (hK : ∀ S', S'.1 = S.1 → (∀ j, j < 100 → S'.2 31 j = lN (wN w D p j)) → K S') : q_X3_drift S by_ (nI p) K := by
  have h : ∀ m i S', i + m = 100 → S'.1 = S.1 → S'.2 31 = S.2 31 → (∀ j, j < i → S'.2 32 j = lN (wN w D p j)) → q_X3_drift_2 by_ (nI p) K (m + 1) S' (nI i) := by
    intro m
    induction m with
    | zero =>
      intro i S' hi h1 h2 h3
      rw [q_X3_drift_2_s, nle _ _ (by omega) (by omega), and_if (by omega), all_eq]
      refine hK _ h1 (fun j hj => ?_)
      show va_up S'.2 31 (va_cpy (S'.2 32) (S'.2 31) 0 0 (nI 100).toNatClampNeg) 31 j = _
      rw [va_up_self, ncl _ (by omega), pk_cpy_in (by omega) (by omega), show 0 + (j - 0) = j by omega]
      exact h3 j (by omega)
    | succ m ih =>
      intro i S' hi h1 h2 h3
      have z0 : (nI 0).toInt = 0 := rfl
      have ex : (nI i - by_).toInt = (i : Int) - D := by
        rw [tI_sub (by rw [nI_toInt (by omega), hb]; omega) (by rw [nI_toInt (by omega), hb]; omega), nI_toInt (by omega), hb]
      have go : ∀ v : Nat, v = (if 0 ≤ (i : Int) - D ∧ (i : Int) - D < 100 then w ((i : Int) - D).toNat else 0) → q_X3_drift_36 by_ (nI p) K (q_X3_drift_2 by_ (nI p) K (m + 1)) S' (nI i) (lN v) := fun v hv => by
        unfold q_X3_drift_36
        rw [all_eq, all_eq, ncl _ (by omega), nI_add, h2, hw i (by omega), pk_sub (show p ≤ 10 from hp), nL _ (by omega), nL _ (by omega), lN_mul, lN_mul, lN_add]
        refine ⟨vp_in_nI (by omega) (by omega), vp_in_nI (by omega) (by omega), ih (i + 1) _ (by omega) (by rw [sJ_1, h1]) (by rw [sJ_o _ _ _ _ (by omega), h2]) (fun j hj => ?_)⟩
        by_cases c : j = i
        · rw [c, sJ_s, hv]; rfl
        · rw [sJ_n _ _ _ _ c]; exact h3 j (by omega)
      rw [q_X3_drift_2_s, nle _ _ (by omega) (by omega), and_nif (by omega), all_eq]
      unfold q_X3_drift_35
      refine ⟨fun c1 => go 0 ?_, fun c1 => ⟨fun c2 => go 0 ?_, fun c2 => ?_⟩⟩
      · rw [tI_lt, ex, z0] at c1
        rw [if_neg (by omega)]
      · rw [tI_le, ex, nI_toInt (by omega)] at c2
        rw [if_neg (by omega)]
      · rw [tI_lt, ex, z0] at c1
        rw [tI_le, ex, nI_toInt (by omega)] at c2
        have en : nI i - by_ = nI ((i : Int) - D).toNat := by
          rw [tI_eq, ex, nI_toInt (by omega)]; omega
        rw [en, ncl _ (by omega), h2, hw _ (by omega)]
        exact ⟨vp_in_nI (by omega) (by omega), go _ (by rw [if_pos (by omega)])⟩
  exact ⟨101, h 100 0 S (by omega) rfl rfl (fun j hj => by omega)⟩
theorem tdiv3 {y : Int} (h : -27 ≤ y ∧ y ≤ 27) : -9 ≤ y.tdiv 3 ∧ y.tdiv 3 ≤ 9 := by
  by_cases c : 0 ≤ y
  · rw [Int.tdiv_eq_ediv_of_nonneg c]; omega
  · have e : y = -(-y) := by omega
    rw [e, Int.neg_tdiv, Int.tdiv_eq_ediv_of_nonneg (by omega)]
    omega
theorem kx_rg {T : St} (X : XR T) {k h t : Nat} (hk : k < 6) (h1 : 1 ≤ h) (h3 : h ≤ 3) (ht : t < 12) : -9 ≤ (kxX T k h t).toInt ∧ (kxX T k h t).toInt ≤ 18 := by
  obtain ⟨⟨p1, p2⟩, -, ⟨s1, s2⟩, -⟩ := X.1 k hk
  obtain ⟨-, ⟨d1, d2⟩⟩ := X.2.2.1 (wIx h t) (by unfold wIx; omega)
  have hm : -27 ≤ (T.1 8 (wIx h t)).toInt * (T.1 (9 + k) 3).toInt ∧ (T.1 8 (wIx h t)).toInt * (T.1 (9 + k) 3).toInt ≤ 27 := by
    generalize (T.1 8 (wIx h t)).toInt = a at *
    generalize (T.1 (9 + k) 3).toInt = b at *
    have ha : a = -3 ∨ a = -2 ∨ a = -1 ∨ a = 0 ∨ a = 1 ∨ a = 2 ∨ a = 3 := by omega
    rcases ha with rfl | rfl | rfl | rfl | rfl | rfl | rfl <;> omega
  have hd := tdiv3 hm
  unfold kxX
  have e : (T.1 8 (wIx h t) * T.1 (9 + k) 3 / nI 3).toInt = ((T.1 8 (wIx h t)).toInt * (T.1 (9 + k) 3).toInt).tdiv 3 := by
    rw [Int32.toInt_div, tI_mul (by omega) (by omega), show (nI 3).toInt = 3 from rfl]
    exact Int.bmod_eq_of_le (by omega) (by omega)
  rw [tI_add (by rw [e]; omega) (by rw [e]; omega), e]
  omega
section MC
variable {T SX SM : St} {a t m p h : Nat} {a5 : Int32}
theorem X_cut107 {K : Int64 → St → Prop} {D : Nat → Int} {x0 : Int} (ht : t < 12) (hm : m ≤ 40) (hp : p ≤ 10) (h1 : 1 ≤ h) (h3 : h ≤ 3) (hDe : ∀ i, t + i < 12 → (SX.1 8 (wIx h (t + i))).toInt = D i) (hD : ∀ i, i < 12 → -3 ≤ D i ∧ D i ≤ 3) (h0 : -9 ≤ x0 ∧ x0 ≤ 18)
    (hK : ∀ S', S'.1 = SX.1 → K (gTm a5 (sN (fun set => if (m : Int) ≤ stS (cF D) x0 set (12 - t) then rvS p (10 - p) set (12 - t) else 0) (2 ^ (12 - t))) (10 ^ (12 - t)) (Nat.gcd (sN (fun set => if (m : Int) ≤ stS (cF D) x0 set (12 - t) then rvS p (10 - p) set (12 - t) else 0) (2 ^ (12 - t))) (10 ^ (12 - t)))) S') :
    ∀ n i S, t + i + n = 12 → S.1 = SX.1 → (∀ j : Nat, j < 100 → S.2 31 j = lN (AA (cF D) x0 p (10 - p) i (-45 + (j : Int)))) → q_X8_cut_107 (nI a) (nI t) (nI m) (nI p) a5 K (n + 1) S (nI h) (nI (t + i)) := by
  have hle := tot_le (F := cF D) (s0 := x0) (p := p) (q := 10 - p) (φ := fun x => (m : Int) ≤ x) (d := 12 - t)
  rw [show p + (10 - p) = 10 by omega] at hle
  have h10 : 10 ^ (12 - t) ≤ 10 ^ 12 := Nat.pow_le_pow_right (by omega) (by omega)
  have hpos : 0 < 10 ^ (12 - t) := Nat.pow_pos (by omega)
  intro n
  induction n with
  | zero =>
    intro i S hi e1 e2
    rw [q_X8_cut_107_s, nle _ _ (by omega) (by omega), and_if (by omega)]
    have em : nI m - (-45) = nI (m + 45) := by
      rw [tI_eq, tI_sub (by rw [nI_toInt (by omega)]; show -2147483648 ≤ (m : Int) - -45; omega) (by rw [nI_toInt (by omega)]; show (m : Int) - -45 < 2147483648; omega), nI_toInt (by omega), nI_toInt (by omega)]
      show (m : Int) - -45 = _
      omega
    rw [em]
    refine X_osum (by omega) e2 ?_
    rw [show i = 12 - t by omega, ← cut_sum hD h0 (by omega), pk_sub (by omega)]
    exact X_ten (by omega) (X_low (by omega) hpos (by omega) (hK S e1))
  | succ n ih =>
    intro i S hi e1 e2
    rw [q_X8_cut_107_s, nle _ _ (by omega) (by omega), and_nif (by omega), f_X4_windAt 8 S h1 h3 (by omega), e1]
    refine X_drift (hDe i (by omega)) (hD i (by omega)) hp e2 (fun S' f1 f2 => ?_)
    rw [all_eq, nI_add]
    refine ih (i + 1) S' (by omega) (by rw [f1, e1]) (fun j hj => ?_)
    rw [f2 j hj, cut_AA hD h0 (by omega) hj]
theorem M_cut110 {K : Int64 → Prop} {D : Nat → Int} {x0 : Int} (R : RS SX SM) (ht : t < 12) (hm : m ≤ 40) (hp : p ≤ 10) (h1 : 1 ≤ h) (h3 : h ≤ 3) (hDe : ∀ i, t + i < 12 → (SX.1 8 (wIx h (t + i))).toInt = D i) (hD : ∀ i, i < 12 → -3 ≤ D i ∧ D i ≤ 3) (h0 : -9 ≤ x0 ∧ x0 ≤ 18)
    {set up : Nat} (hset : set < 4096) {x9 : Int64} {e83 : Int32 → Int64 → Int64 → Int32 → Prop} (hK : e83 (nI h) (lN (up + (if (m : Int) ≤ stS (cF D) x0 set (12 - t) then rvS p (10 - p) set (12 - t) else 0))) x9 (nI (set + 1))) :
    ∀ n i x, t + i + n = 12 → x.toInt = stS (cF D) x0 set i → q_X9_cut_110 (nI a) (nI t) (nI m) (nI p) a5 SM K e83 (n + 1) (nI h) (lN up) x9 (nI set) x (lN (rvS p (10 - p) set i)) (nI (t + i)) := by
  intro n
  induction n with
  | zero =>
    intro i x hi hx
    rw [q_X9_cut_110_s, nle _ _ (by omega) (by omega), and_if (by omega)]
    unfold q_X9_cut_201
    rw [all_eq, all_eq, lN_add, nI_add, all_eq, all_eq, lN_add, show i = 12 - t by omega]
    rw [show i = 12 - t by omega] at hx
    refine ⟨fun c => ?_, fun c => ?_⟩
    · rw [tI_lt, nI_toInt (by omega), hx] at c
      rw [if_neg (by omega)] at hK
      exact hK
    · rw [tI_lt, nI_toInt (by omega), hx] at c
      rw [if_pos (by omega)] at hK
      exact hK
  | succ n ih =>
    intro i x hi hx
    have rg := cF_rg hD h0 set i (by omega)
    have rD := hD i (by omega)
    have es : stS (cF D) x0 set (i + 1) = if set.testBit i = true then stS (cF D) x0 set i + D i else stS (cF D) x0 set i := rfl
    have er : rvS p (10 - p) set (i + 1) = rvS p (10 - p) set i * (if set.testBit i = true then p else 10 - p) := rfl
    rw [q_X9_cut_110_s, nle _ _ (by omega) (by omega), and_nif (by omega), pk_sub (by omega), show t + i - t = i by omega, f_X9_has, bI_c (hasB_nI (by omega) (by omega)), bbr, pk_sub (show p ≤ 10 from hp), nL _ (by omega), nL _ (by omega)]
    unfold q_X9_cut_147 q_X9_cut_178
    refine ⟨fun q => ?_, fun q => ?_⟩
    · rw [all_eq, lN_mul, bI_f q, and_if rfl, all_eq, all_eq, a0, nI_add]
      have := ih (i + 1) x (by omega) (by rw [es, if_neg q]; exact hx)
      rw [er, if_neg q] at this
      exact this
    · rw [all_eq, lN_mul, bI_t q, and_nif (by decide), m24, nI_add, all_eq, all_eq, nI_add, ncl _ (by omega), (R.2.2.2.2.1 h (t + i) h1 h3 (by omega)).2]
      refine ⟨vp_in_nI (by omega) (by omega), ?_⟩
      have hd := hDe i (by omega)
      have := ih (i + 1) (x + SX.1 8 (wIx h (t + i))) (by omega) (by rw [es, if_pos q, tI_add (by omega) (by omega), hx, hd])
      rw [er, if_pos q] at this
      exact this
theorem M_cut {K : Int64 → Prop} {D : Nat → Int} {x0 : Int} (R : RS SX SM) (ha : a < 6) (ht : t < 12) (hm : m ≤ 40) (hp : p ≤ 10) (h1 : 1 ≤ h) (h3 : h ≤ 3) (hDe : ∀ i, t + i < 12 → (SX.1 8 (wIx h (t + i))).toInt = D i) (hD : ∀ i, i < 12 → -3 ≤ D i ∧ D i ≤ 3) (h0 : -9 ≤ x0 ∧ x0 ≤ 18) (hx : (kxX SX a h t).toInt = x0)
    (hK : K (gTm a5 (sN (fun set => if (m : Int) ≤ stS (cF D) x0 set (12 - t) then rvS p (10 - p) set (12 - t) else 0) (2 ^ (12 - t))) (10 ^ (12 - t)) (Nat.gcd (sN (fun set => if (m : Int) ≤ stS (cF D) x0 set (12 - t) then rvS p (10 - p) set (12 - t) else 0) (2 ^ (12 - t))) (10 ^ (12 - t))))) :
    ∃ f_83, q_X9_cut_83 (nI a) (nI t) (nI m) (nI p) a5 SM K f_83 (nI h) (lN 0) (lN 1) (nI 0) := by
  have hle := tot_le (F := cF D) (s0 := x0) (p := p) (q := 10 - p) (φ := fun x => (m : Int) ≤ x) (d := 12 - t)
  rw [show p + (10 - p) = 10 by omega] at hle
  have h10 : 10 ^ (12 - t) ≤ 10 ^ 12 := Nat.pow_le_pow_right (by omega) (by omega)
  have h2 : 2 ^ (12 - t) ≤ 2 ^ 12 := Nat.pow_le_pow_right (by omega) (by omega)
  have hpos : 0 < 10 ^ (12 - t) := Nat.pow_pos (by omega)
  have hd : ∀ n i, t + i + n = 12 → q_X9_cut_213 (nI a) (nI t) (nI m) (nI p) a5 SM K (n + 1) (lN (sN (fun set => if (m : Int) ≤ stS (cF D) x0 set (12 - t) then rvS p (10 - p) set (12 - t) else 0) (2 ^ (12 - t)))) (lN (10 ^ i)) (nI (t + i)) := by
    intro n
    induction n with
    | zero =>
      intro i hi
      rw [q_X9_cut_213_s, nle _ _ (by omega) (by omega), and_if (by omega), show i = 12 - t by omega]
      exact M_part (by omega) hpos (by omega) hK
    | succ n ih =>
      intro i hi
      rw [q_X9_cut_213_s, nle _ _ (by omega) (by omega), and_nif (by omega), all_eq, all_eq, lN_mul, nI_add, ← Nat.pow_succ]
      exact ih (i + 1) (by omega)
  have h : ∀ n set, set + n = 2 ^ (12 - t) → q_X9_cut_83 (nI a) (nI t) (nI m) (nI p) a5 SM K (n + 1) (nI h) (lN (sN (fun set => if (m : Int) ≤ stS (cF D) x0 set (12 - t) then rvS p (10 - p) set (12 - t) else 0) set)) (lN 1) (nI set) := by
    intro n
    induction n with
    | zero =>
      intro set hs
      rw [q_X9_cut_83_s, pk_sub (by omega), shl1 _ (by omega), nle _ _ (by omega) (by omega), and_if (by omega), show set = 2 ^ (12 - t) by omega]
      exact ⟨_, hd (12 - t) 0 (by omega)⟩
    | succ n ih =>
      intro set hs
      rw [q_X9_cut_83_s, pk_sub (by omega), shl1 _ (by omega), nle _ _ (by omega) (by omega), and_nif (by omega), f_X9_xOf R ha h1 h3 ht]
      exact ⟨_, M_cut110 R ht hm hp h1 h3 hDe hD h0 (by omega) (ih (set + 1) (by omega)) (12 - t) 0 _ (by omega) hx⟩
  exact ⟨_, h (2 ^ (12 - t)) 0 (by omega)⟩
end MC
theorem o_cut : ob_cut Rel := by
  intro SX SM R a1 a2 a3 a4 a5
  unfold q_X8_cut q_X9_cut
  simp only [f_X4_isToldKite, f_X8_isHour, f_X9_isKt R, f_X9_isHour, f_X9_in, bbr, in_br, in_br2]
  by_cases c1 : isKt SX a1
  · by_cases c2 : isHr a2
    · by_cases c3 : inR a3 (nI 0) (nI 40)
      · by_cases c4 : inR a4 (nI 0) (nI 10)
        · by_cases c5 : inR a5 (nI 0) (nI 1)
          · simp only [pif_t c1, pif_t c2, pif_t c3, pif_t c4, pif_t c5]
            obtain ⟨a, ha, rfl, hT⟩ := c1
            obtain ⟨t, ht, rfl⟩ := isHr_ex c2
            obtain ⟨m, hm, rfl⟩ := inR_ex (by omega) c3
            obtain ⟨p, hp, rfl⟩ := inR_ex (by omega) c4
            obtain ⟨T, t', u, n, E, ht', pk, -⟩ := R.day
            have hask : SX.1 (33 + 7 * 0 + 1) a = SM.1 6 (7 + a) := pk.2.1.2.2.2.2.2.2.1 a ha
            obtain ⟨h, h3, eh⟩ := pk.2.1.2.2.2.2.2.1 a ha
            simp only [nI_add, ncl _ (show a < 2 ^ 31 by omega), ncl _ (show 7 + a < 2 ^ 31 by omega), hask, eh, all_eq, neq h 0 (by omega) (by omega)]
            refine ⟨vp_in_nI (by omega) (by omega), ?_⟩
            by_cases c6 : h = 0
            · simp only [and_if c6]
              exact ⟨vp_in_nI (by omega) (by omega), trivial, R⟩
            · simp only [and_nif c6]
              have X := R.xr
              rw [f_X4_kiteX ha (by omega) h3 ht hT]
              obtain ⟨k1, k2⟩ := kx_rg X (k := a) (h := h) (t := t) ha (by omega) h3 ht
              have ex : kxX SX a h t - (-45) = nI ((kxX SX a h t).toInt + 45).toNat := by
                rw [tI_eq, tI_sub (by show -2147483648 ≤ (kxX SX a h t).toInt - -45; omega) (by show (kxX SX a h t).toInt - -45 < 2147483648; omega), nI_toInt (by omega)]
                show (kxX SX a h t).toInt - -45 = _
                omega
              rw [ex]
              refine X_obegin (by omega) (fun S' f1 f2 => ?_)
              obtain ⟨D, hDd⟩ : ∃ D : Nat → Int, ∀ i, D i = if t + i < 12 then (SX.1 8 (wIx h (t + i))).toInt else 0 := ⟨_, fun i => rfl⟩
              have hDe : ∀ i, t + i < 12 → (SX.1 8 (wIx h (t + i))).toInt = D i := fun i hi => by rw [hDd, if_pos hi]
              have hD : ∀ i, i < 12 → -3 ≤ D i ∧ D i ≤ 3 := fun i _ => by
                rw [hDd]
                by_cases c : t + i < 12
                · rw [if_pos c]
                  exact (X.2.2.1 (wIx h (t + i)) (by unfold wIx; omega)).2
                · rw [if_neg c]; omega
              refine ⟨12 - t + 1, X_cut107 (SX := SX) ht hm hp (by omega) h3 hDe hD ⟨k1, k2⟩ (fun S2 g1 => ⟨vp_in_nI (by omega) (by omega), M_cut R.rs ha ht hm hp (by omega) h3 hDe hD ⟨k1, k2⟩ rfl ⟨rfl, Rel_1 R g1⟩⟩) (12 - t) 0 S' (by omega) f1 (fun j hj => ?_)⟩
              rw [f2 j hj]
              congr 1
              show _ = 0 + (if (kxX SX a h t).toInt = -45 + (j : Int) then 1 else 0)
              by_cases c : j = ((kxX SX a h t).toInt + 45).toNat
              · rw [if_pos c, if_pos (by omega)]
              · rw [if_neg c, if_neg (by omega)]
          · simp only [pif_t c1, pif_t c2, pif_t c3, pif_t c4, pif_f c5]
            exact ⟨trivial, R⟩
        · simp only [pif_t c1, pif_t c2, pif_t c3, pif_f c4]
          exact ⟨trivial, R⟩
      · simp only [pif_t c1, pif_t c2, pif_f c3]
        exact ⟨trivial, R⟩
    · simp only [pif_t c1, pif_f c2]
      exact ⟨trivial, R⟩
  · simp only [pif_f c1]
    exact ⟨trivial, R⟩
