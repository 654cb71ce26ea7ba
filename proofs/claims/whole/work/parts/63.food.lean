/-! ===== food ===== -/
def dpF (f e c p : Nat) : Nat → Nat → Nat
  | 0, w => if w = 0 then 1 else 0
  | d + 1, w => if f + c * w < e * (d + 1) then 0 else dpF f e c p d w * p + (if w = 0 then 0 else dpF f e c p d (w - 1) * (10 - p))
def fdF (f e c : Nat) (d : Nat) (b : Bool) (s : Int) : Int := if s < 0 then -1 else if (f : Int) + c * (if b = true then s else s + 1) < e * ((d + 1 : Nat) : Int) then -1 else (if b = true then s else s + 1)
section FO
variable {f e c p : Nat}
theorem dp0 : ∀ d w, d < w → dpF f e c p d w = 0 := by
  intro d
  induction d with
  | zero => intro w h; show (if w = 0 then 1 else 0) = 0; rw [if_neg (by omega)]
  | succ d ih =>
    intro w h
    show (if f + c * w < e * (d + 1) then 0 else dpF f e c p d w * p + (if w = 0 then 0 else dpF f e c p d (w - 1) * (10 - p))) = 0
    rw [ih w (by omega), ih (w - 1) (by omega), if_neg (show ¬ w = 0 by omega), Nat.zero_mul, Nat.zero_mul]
    by_cases q : f + c * w < e * (d + 1)
    · rw [if_pos q]
    · rw [if_neg q]
theorem fd_t {d : Nat} {s : Int} {w : Nat} : fdF f e c d true s = (w : Int) ↔ s = w ∧ ¬ f + c * w < e * (d + 1) := by
  unfold fdF
  simp only [if_true]
  constructor
  · intro h
    by_cases c1 : s < 0
    · rw [if_pos c1] at h; omega
    · rw [if_neg c1] at h
      by_cases c2 : (f : Int) + c * s < e * ((d + 1 : Nat) : Int)
      · rw [if_pos c2] at h; omega
      · rw [if_neg c2] at h
        refine ⟨h, fun q => c2 ?_⟩
        rw [h]
        exact_mod_cast q
  · rintro ⟨h, q⟩
    rw [if_neg (by omega), if_neg (fun z => q ?_)]
    · exact h
    · rw [h] at z
      exact_mod_cast z
theorem fd_f {d : Nat} {s : Int} {w : Nat} : fdF f e c d false s = (w : Int) ↔ (1 ≤ w ∧ s = ((w - 1 : Nat) : Int)) ∧ ¬ f + c * w < e * (d + 1) := by
  unfold fdF
  rw [if_neg (show ¬ (false = true) by decide)]
  constructor
  · intro h
    by_cases c1 : s < 0
    · rw [if_pos c1] at h; omega
    · rw [if_neg c1] at h
      by_cases c2 : (f : Int) + c * (s + 1) < e * ((d + 1 : Nat) : Int)
      · rw [if_pos c2] at h; omega
      · rw [if_neg c2] at h
        refine ⟨⟨by omega, by omega⟩, fun q => c2 ?_⟩
        rw [h]
        exact_mod_cast q
  · rintro ⟨⟨h1, h⟩, q⟩
    have hs : s + 1 = (w : Int) := by omega
    rw [if_neg (by omega), hs, if_neg (fun z => q ?_)]
    exact_mod_cast z
theorem food_AA : ∀ (d w : Nat), AA (fdF f e c) 0 p (10 - p) d (w : Int) = dpF f e c p d w := by
  intro d
  induction d with
  | zero =>
    intro w
    show 0 + (if (0 : Int) = (w : Int) then 1 else 0) = (if w = 0 then 1 else 0)
    by_cases h : w = 0
    · rw [if_pos h, if_pos (by omega)]
    · rw [if_neg h, if_neg (by omega)]
  | succ d ih =>
    intro w
    rw [AA_s]
    show _ = (if f + c * w < e * (d + 1) then 0 else dpF f e c p d w * p + (if w = 0 then 0 else dpF f e c p d (w - 1) * (10 - p)))
    by_cases q : f + c * w < e * (d + 1)
    · rw [if_pos q, sN_z _ (fun i _ => if_neg (fun h => (fd_f.mp h).2 q)), sN_z _ (fun i _ => if_neg (fun h => (fd_t.mp h).2 q))]
    · rw [if_neg q, Nat.add_comm, ← ih w]
      congr 1
      · unfold AA
        rw [← sN_mul]
        refine sN_c _ (fun i _ => ?_)
        show (if fdF f e c d true (stS (fdF f e c) 0 i d) = (w : Int) then _ else 0) = (if stS (fdF f e c) 0 i d = (w : Int) then _ else 0) * p
        by_cases h : stS (fdF f e c) 0 i d = (w : Int)
        · rw [if_pos h, if_pos (fd_t.mpr ⟨h, q⟩)]
        · rw [if_neg h, if_neg (fun z => h (fd_t.mp z).1), Nat.zero_mul]
      · by_cases hw : w = 0
        · rw [if_pos hw]
          exact sN_z _ (fun i _ => if_neg (fun z => by have := (fd_f.mp z).1.1; omega))
        · rw [if_neg hw, ← ih (w - 1)]
          unfold AA
          rw [← sN_mul]
          refine sN_c _ (fun i _ => ?_)
          show (if fdF f e c d false (stS (fdF f e c) 0 i d) = (w : Int) then _ else 0) = (if stS (fdF f e c) 0 i d = ((w - 1 : Nat) : Int) then _ else 0) * (10 - p)
          by_cases h : stS (fdF f e c) 0 i d = ((w - 1 : Nat) : Int)
          · rw [if_pos h, if_pos (fd_f.mpr ⟨⟨by omega, h⟩, q⟩)]
          · rw [if_neg h, if_neg (fun z => h (fd_f.mp z).1.2), Nat.zero_mul]
theorem fdF_le {d : Nat} {b : Bool} {s : Int} (h : s ≤ (d : Int)) : fdF f e c d b s ≤ ((d + 1 : Nat) : Int) := by
  unfold fdF
  by_cases c1 : s < 0
  · rw [if_pos c1]; omega
  · rw [if_neg c1]
    by_cases c2 : (f : Int) + c * (if b = true then s else s + 1) < e * ((d + 1 : Nat) : Int)
    · rw [if_pos c2]; omega
    · rw [if_neg c2]
      by_cases c3 : b = true
      · rw [if_pos c3]; omega
      · rw [if_neg c3]; omega
theorem fd_le : ∀ d set, stS (fdF f e c) 0 set d ≤ (d : Int) := by
  intro d set
  induction d with
  | zero => show (0 : Int) ≤ 0; omega
  | succ d ih => exact fdF_le ih
theorem food_sum (n : Nat) (hn : n < 100) : sN (fun set => if 0 ≤ stS (fdF f e c) 0 set n then rvS p (10 - p) set n else 0) (2 ^ n) = sN (dpF f e c p n) 100 := by
  rw [tot (φ := fun x => 0 ≤ x) (b := 0) (m := 100) (fun set _ h => ⟨h, by have := fd_le (f := f) (e := e) (c := c) n set; omega⟩)]
  refine sN_c _ (fun j _ => ?_)
  show (if (0 : Int) ≤ 0 + (j : Int) then AA (fdF f e c) 0 p (10 - p) n (0 + (j : Int)) else 0) = _
  rw [if_pos (by omega), Int.zero_add, food_AA]
end FO
/-! the class's rows of longs -/
theorem sJ_1 (S : St) (c k : Nat) (v : Int64) : (sJ S c k v).1 = S.1 := rfl
theorem sJ_s (S : St) (c k : Nat) (v : Int64) : (sJ S c k v).2 c k = v := by
  unfold sJ sG
  show va_up S.2 c (vp_updL (S.2 c) k v) c k = v
  rw [va_up_self]
  unfold vp_updL
  rw [if_pos rfl]
theorem sJ_n (S : St) (c k : Nat) (v : Int64) {j : Nat} (h : j ≠ k) : (sJ S c k v).2 c j = S.2 c j := by
  unfold sJ sG
  show va_up S.2 c (vp_updL (S.2 c) k v) c j = S.2 c j
  rw [va_up_self]
  unfold vp_updL
  rw [if_neg h]
theorem X_fillL {S : St} {K : St → Prop} (hK : ∀ S', S'.1 = S.1 → (∀ j, j < 100 → S'.2 31 j = lN 0) → K S') : q_J7_fill_d0a16 31 100 S (lN 0) K := by
  have h : ∀ m i S', i + m = 100 → S'.1 = S.1 → (∀ j, j < i → S'.2 31 j = lN 0) → q_J7_fill_d0a16_6 31 100 (lN 0) K (m + 1) S' (nI i) (nI 100) := by
    intro m
    induction m with
    | zero =>
      intro i S' hi h1 h2
      rw [q_J7_fill_d0a16_6_s, nle _ _ (by omega) (by omega), and_if (by omega)]
      exact hK S' h1 (fun j hj => h2 j (by omega))
    | succ m ih =>
      intro i S' hi h1 h2
      rw [q_J7_fill_d0a16_6_s, nle _ _ (by omega) (by omega), and_nif (by omega), all_eq, all_eq, ncl _ (by omega), nI_add]
      refine ⟨vp_in_nI (by omega) (by omega), ih (i + 1) _ (by omega) (by rw [sJ_1, h1]) (fun j hj => ?_)⟩
      by_cases c : j = i
      · rw [c, sJ_s]
      · rw [sJ_n _ _ _ _ c]; exact h2 j (by omega)
  unfold q_J7_fill_d0a16
  rw [all_eq]
  exact ⟨101, h 100 0 S (by omega) rfl (fun j hj => by omega)⟩
theorem X_obegin {S : St} {pl : Nat} {K : St → Prop} (hp : pl < 100) (hK : ∀ S', S'.1 = S.1 → (∀ j, j < 100 → S'.2 31 j = lN (if j = pl then 1 else 0)) → K S') : q_X3_begin S (nI pl) K := by
  unfold q_X3_begin
  refine X_fillL (fun S' h1 h2 => ?_)
  rw [and_nif (nI_p (by omega)), nle _ _ (by omega) (by omega), and_nif (by omega), all_eq, ncl _ (by omega)]
  refine ⟨vp_in_nI (by omega) (by omega), hK _ (by rw [sJ_1, h1]) (fun j hj => ?_)⟩
  by_cases c : j = pl
  · rw [if_pos c, c, sJ_s]
  · rw [if_neg c, sJ_n _ _ _ _ c]; exact h2 j hj
theorem X_osum {S : St} {a : Nat} {w : Nat → Nat} {K : Int64 → Prop} (ha : a ≤ 100) (hw : ∀ j, j < 100 → S.2 31 j = lN (w j)) (hK : K (lN (sN (fun j => if a ≤ j then w j else 0) 100))) : q_X3_sumFrom S (nI a) K := by
  have h : ∀ m i, i + m = 100 → a ≤ i → q_X3_sumFrom_9 (nI a) S K (m + 1) (lN (sN (fun j => if a ≤ j then w j else 0) i)) (nI i) := by
    intro m
    induction m with
    | zero =>
      intro i hi h1
      rw [q_X3_sumFrom_9_s, nle _ _ (by omega) (by omega), and_if (by omega), show i = 100 by omega]
      exact hK
    | succ m ih =>
      intro i hi h1
      rw [q_X3_sumFrom_9_s, nle _ _ (by omega) (by omega), and_nif (by omega), all_eq, all_eq, ncl _ (by omega), nI_add, hw i (by omega), lN_add]
      refine ⟨vp_in_nI (by omega) (by omega), ?_⟩
      have e := ih (i + 1) (by omega) (by omega)
      have e2 : sN (fun j => if a ≤ j then w j else 0) (i + 1) = sN (fun j => if a ≤ j then w j else 0) i + w i := by
        show sN _ i + (if a ≤ i then w i else 0) = _
        rw [if_pos h1]
      rw [e2] at e
      exact e
  unfold q_X3_sumFrom
  rw [if_neg (nI_p (by omega)), all_eq]
  have e := h (100 - a) a (by omega) (Nat.le_refl _)
  rw [sN_z a (fun i hi => if_neg (by omega))] at e
  exact ⟨_, e⟩
theorem nL (n : Nat) (h : n < 2 ^ 31) : (nI n).toInt64 = lN n := by
  rw [l_eq, lT (by omega)]
  exact (Int32.toInt_toInt64 _).trans (nI_toInt h)
section XE
variable {S : St} {f e c p n : Nat} {K : Int64 → St → Prop}
theorem X_en26 (hf : f ≤ 999) (he : e ≤ 99) (hc : c ≤ 99) (hp : p ≤ 10) {d : Nat} (hd : d < 8) {e8 : St → Int32 → Prop} (hK : ∀ S', S'.1 = S.1 → (∀ j, j < 100 → S'.2 31 j = lN (dpF f e c p (d + 1) j)) → e8 S' (nI (d + 2))) :
    ∀ (m : Nat) (S' : St), m ≤ d + 2 → S'.1 = S.1 → (∀ j, j < 100 → S'.2 31 j = lN (if m ≤ j then dpF f e c p (d + 1) j else dpF f e c p d j)) → q_X3_enough_26 (nI f) (nI e) (nI c) (nI p) (nI n) K e8 (m + 1) S' (nI (d + 1)) (nI m + -1) := by
  intro m
  induction m with
  | zero =>
    intro S' hm h1 h2
    rw [q_X3_enough_26_s, and_if (by decide), all_eq, nI_add]
    exact hK S' h1 (fun j hj => by rw [h2 j hj, if_pos (by omega)])
  | succ m ih =>
    intro S' hm h1 h2
    have hcm : c * m ≤ 99 * 9 := Nat.mul_le_mul hc (by omega)
    have hed : e * (d + 1) ≤ 99 * 8 := Nat.mul_le_mul he (by omega)
    rw [q_X3_enough_26_s, dec1, and_nif (nI_p (by omega)), all_eq, ncl _ (by omega), pk_sub (show p ≤ 10 from hp), nL _ (by omega), nL _ (by omega), h2 m (by omega), if_neg (by omega), lN_mul, nle _ _ (by omega) (by omega)]
    refine ⟨vp_in_nI (by omega) (by omega), ?_⟩
    have fin : ∀ v, v = dpF f e c p d m * p + (if m = 0 then 0 else dpF f e c p d (m - 1) * (10 - p)) → q_X3_enough_70 (nI f) (nI e) (nI c) (nI p) (nI n) K e8 (q_X3_enough_26 (nI f) (nI e) (nI c) (nI p) (nI n) K e8 (m + 1)) S' (nI (d + 1)) (nI m) (lN v) := fun v hv => by
      have cond : (nI f + nI c * nI m - nI e * nI (d + 1) < nI 0) ↔ f + c * m < e * (d + 1) := by
        rw [pk_mul, pk_mul, nI_add, tI_lt, pk_sub_toInt (by omega) (by omega), nI_toInt (by omega)]
        omega
      have val : dpF f e c p (d + 1) m = if f + c * m < e * (d + 1) then 0 else dpF f e c p d m * p + (if m = 0 then 0 else dpF f e c p d (m - 1) * (10 - p)) := rfl
      have go : ∀ x, x = dpF f e c p (d + 1) m → q_X3_enough_96 (nI f) (nI e) (nI c) (nI p) (nI n) K e8 (q_X3_enough_26 (nI f) (nI e) (nI c) (nI p) (nI n) K e8 (m + 1)) S' (nI (d + 1)) (nI m) (lN x) (nI m) := fun x hx => by
        unfold q_X3_enough_96
        rw [all_eq, all_eq, ncl _ (by omega)]
        refine ⟨vp_in_nI (by omega) (by omega), ih _ (by omega) (by rw [sJ_1, h1]) (fun j hj => ?_)⟩
        by_cases cj : j = m
        · rw [cj, sJ_s, if_pos (Nat.le_refl _), hx]
        · rw [sJ_n _ _ _ _ cj, h2 j hj]
          by_cases c2 : m ≤ j
          · rw [if_pos c2, if_pos (by omega)]
          · rw [if_neg c2, if_neg (by omega)]
      unfold q_X3_enough_70
      refine ⟨fun q => go 0 ?_, fun q => go v ?_⟩
      · rw [val, if_pos (cond.mp q)]
      · rw [val, if_neg (fun z => q (cond.mpr z)), hv]
    refine ⟨fun q => fin _ ?_, fun q => ?_⟩
    · rw [if_pos (by omega)]; omega
    · rw [pk_sub (by omega), all_eq, ncl _ (by omega), h2 (m - 1) (by omega), if_neg (by omega), lN_mul, lN_add]
      refine ⟨vp_in_nI (by omega) (by omega), fin _ ?_⟩
      rw [if_neg (by omega)]
theorem X_enough (hf : f ≤ 999) (he : e ≤ 99) (hc : c ≤ 99) (hp : p ≤ 10) (hn : n ≤ 8) (hK : ∀ S', S'.1 = S.1 → K (lN (sN (dpF f e c p n) 100)) S') : q_X3_enough S (nI f) (nI e) (nI c) (nI p) (nI n) K := by
  have h : ∀ m d S', d + m = n → S'.1 = S.1 → (∀ j, j < 100 → S'.2 31 j = lN (dpF f e c p d j)) → q_X3_enough_8 (nI f) (nI e) (nI c) (nI p) (nI n) K (m + 1) S' (nI (d + 1)) := by
    intro m
    induction m with
    | zero =>
      intro d S' hd h1 h2
      rw [q_X3_enough_8_s, nlt _ _ (by omega) (by omega), and_if (by omega)]
      unfold q_X3_enough_109
      refine X_osum (by omega) h2 ?_
      rw [show d = n by omega, sN_c (g := fun j => if 0 ≤ j then dpF f e c p n j else 0) (h := dpF f e c p n) 100 (fun i _ => if_pos (Nat.zero_le _))]
      exact hK S' h1
    | succ m ih =>
      intro d S' hd h1 h2
      rw [q_X3_enough_8_s, nlt _ _ (by omega) (by omega), and_nif (by omega), nle _ _ (by omega) (by omega), and_nif (by omega)]
      have e := X_en26 (S := S) (n := n) (K := K) hf he hc hp (d := d) (by omega) (e8 := q_X3_enough_8 (nI f) (nI e) (nI c) (nI p) (nI n) K (m + 1)) (fun S2 e1 e2 => ih (d + 1) S2 (by omega) e1 e2) (d + 2) S' (Nat.le_refl _) h1 (fun j hj => by
        rw [h2 j hj]
        by_cases q : d + 2 ≤ j
        · rw [if_pos q, dp0 (d + 1) j (by omega), dp0 d j (by omega)]
        · rw [if_neg q])
      rw [show d + 2 = d + 1 + 1 from rfl, dec1] at e
      exact ⟨_, e⟩
  unfold q_X3_enough
  refine X_obegin (by omega) (fun S' h1 h2 => ⟨n + 1, h n 0 S' (by omega) h1 h2⟩)
end XE
section MF
variable {S : St} {f e c p n : Nat} {a6 : Int32} {K : Int64 → Prop}
def fdI (f e c d : Nat) (st : Int) (x : Int32) : Prop := (st = -1 ∧ x.toInt < 0 ∧ -99 ≤ x.toInt) ∨ ∃ w, w ≤ d ∧ st = (w : Int) ∧ e * d ≤ f + c * w ∧ x = nI (f + c * w - e * d)
theorem M_fd94 (hf : f ≤ 999) (he : e ≤ 99) (hc : c ≤ 99) (hp : p ≤ 10) (hn : n ≤ 8) {set up : Nat} (hset : set < 256) {x9 : Int64} {e76 : Int64 → Int64 → Int32 → Prop}
    (hK : e76 (lN (up + (if 0 ≤ stS (fdF f e c) 0 set n then rvS p (10 - p) set n else 0))) x9 (nI (set + 1))) :
    ∀ (m d : Nat) (x : Int32), d + m = n → fdI f e c d (stS (fdF f e c) 0 set d) x → q_X9_food_94 (nI f) (nI e) (nI c) (nI p) (nI n) a6 S K e76 (m + 1) (lN up) x9 (nI set) x (lN (rvS p (10 - p) set d)) (nI d) := by
  intro m
  induction m with
  | zero =>
    intro d x hd I
    rw [q_X9_food_94_s, nle _ _ (by omega) (by omega), and_if (by omega)]
    have hdn : d = n := by omega
    subst hdn
    unfold q_X9_food_186
    rw [all_eq, all_eq, lN_add, nI_add, all_eq, all_eq, lN_add]
    have z0 : (nI 0).toInt = 0 := rfl
    rcases I with ⟨i1, i2, i3⟩ | ⟨w, i1, i2, i3, i4⟩
    · rw [and_nif (by rw [tI_le, z0]; omega)]
      rw [if_neg (by omega)] at hK
      exact hK
    · have hcw : c * w ≤ 99 * 8 := Nat.mul_le_mul hc (by omega)
      rw [and_if (by rw [i4, nle _ _ (by omega) (by omega)]; omega)]
      rw [if_pos (by omega)] at hK
      exact hK
  | succ m ih =>
    intro d x hd I
    have hed : e * (d + 1) ≤ 99 * 8 := Nat.mul_le_mul he (by omega)
    have hes : e * (d + 1) = e * d + e := Nat.mul_succ e d
    rw [q_X9_food_94_s, nle _ _ (by omega) (by omega), and_nif (by omega), f_X9_has, bI_c (hasB_nI (by omega) (by omega)), bbr, pk_sub (show p ≤ 10 from hp), nL _ (by omega), nL _ (by omega)]
    have z0 : (nI 0).toInt = 0 := rfl
    have key : ∀ (b : Bool), set.testBit d = b → q_X9_food_129 (nI f) (nI e) (nI c) (nI p) (nI n) a6 S K e76 (q_X9_food_94 (nI f) (nI e) (nI c) (nI p) (nI n) a6 S K e76 (m + 1)) (lN up) x9 (nI set) x (nI d) (bI (b = true)) (lN (if b = true then p else 10 - p)) (lN (rvS p (10 - p) set d)) := fun b hb => by
      unfold q_X9_food_129
      rw [all_eq, lN_mul, bbr]
      have er : rvS p (10 - p) set d * (if b = true then p else 10 - p) = rvS p (10 - p) set (d + 1) := by
        show _ = rvS p (10 - p) set d * (if set.testBit d = true then p else 10 - p)
        rw [hb]
      have es : stS (fdF f e c) 0 set (d + 1) = fdF f e c d b (stS (fdF f e c) 0 set d) := by
        show fdF f e c d (set.testBit d) (stS (fdF f e c) 0 set d) = _
        rw [hb]
      rw [er]
      rcases I with ⟨i1, i2, i3⟩ | ⟨w, i1, i2, i3, i4⟩
      · rw [and_if (by rw [tI_lt, z0]; omega)]
        unfold q_X9_food_144 q_X9_food_149
        rw [all_eq, a0, and_nif (by rw [tI_le, z0]; omega)]
        unfold q_X9_food_164
        rw [all_eq, all_eq, s0, nI_add]
        refine ih (d + 1) x (by omega) (Or.inl ⟨?_, i2, i3⟩)
        rw [es, i1]
        rfl
      · have hcw : c * w ≤ 99 * 8 := Nat.mul_le_mul hc (by omega)
        have hcw1 : c * (w + 1) ≤ 99 * 9 := Nat.mul_le_mul hc (by omega)
        have hcs : c * (w + 1) = c * w + c := Nat.mul_succ c w
        have step : ∀ w', w' ≤ d + 1 → e * d ≤ f + c * w' → c * w' ≤ 99 * 9 → fdF f e c d b (stS (fdF f e c) 0 set d) = (if f + c * w' < e * (d + 1) then -1 else (w' : Int)) →
            q_X9_food_94 (nI f) (nI e) (nI c) (nI p) (nI n) a6 S K e76 (m + 1) (lN up) x9 (nI set) (nI (f + c * w' - e * d) - nI e) (lN (rvS p (10 - p) set (d + 1))) (nI (d + 1)) := fun w' h1 h2 h3 h4 => by
          by_cases q : f + c * w' < e * (d + 1)
          · refine ih (d + 1) _ (by omega) (Or.inl ⟨by rw [es, h4, if_pos q], ?_⟩)
            rw [pk_sub_toInt (by omega) (by omega)]
            omega
          · refine ih (d + 1) _ (by omega) (Or.inr ⟨w', h1, by rw [es, h4, if_neg q], by omega, ?_⟩)
            rw [pk_sub (by omega)]
            congr 1
            omega
        rw [i4, and_nif (nI_p (by omega))]
        by_cases cb : b = true
        · rw [pif_t cb]
          unfold q_X9_food_144 q_X9_food_149
          rw [all_eq, a0, nle _ _ (by omega) (by omega), and_if (by omega)]
          unfold q_X9_food_164
          rw [all_eq, all_eq, nI_add]
          refine step w (by omega) i3 (by omega) ?_
          rw [cb, i2]
          by_cases q : f + c * w < e * (d + 1)
          · rw [if_pos q]
            unfold fdF
            rw [if_neg (by omega), if_pos rfl, if_pos (by exact_mod_cast q)]
          · rw [if_neg q]
            exact fd_t.mpr ⟨rfl, q⟩
        · rw [pif_f cb]
          unfold q_X9_food_149
          rw [all_eq, nI_add, nle _ _ (by omega) (by omega), and_if (by omega)]
          unfold q_X9_food_164
          rw [all_eq, all_eq, nI_add, show f + c * w - e * d + c = f + c * (w + 1) - e * d by omega]
          refine step (w + 1) (by omega) (by omega) (by omega) ?_
          have cbf : b = false := by simpa using cb
          rw [cbf, i2]
          by_cases q : f + c * (w + 1) < e * (d + 1)
          · rw [if_pos q]
            unfold fdF
            rw [if_neg (by omega), if_neg (show ¬ (false = true) by decide), if_pos (by exact_mod_cast q)]
          · rw [if_neg q]
            exact fd_f.mpr ⟨⟨by omega, by omega⟩, q⟩
    refine ⟨fun q => ?_, fun q => ?_⟩
    · have := key false (by simpa using q)
      rw [if_neg (show ¬ (false = true) by decide), bI_f (show ¬ (false = true) by decide)] at this
      rw [bI_f q]
      exact this
    · have := key true q
      rw [if_pos rfl, bI_t rfl] at this
      rw [bI_t q]
      exact this
theorem M_fd198 (hn : n ≤ 8) {up : Nat} (hu : up < 2 ^ 62) (hK : K (gTm a6 up (10 ^ n) (Nat.gcd up (10 ^ n)))) : ∀ m d, d + m = n → q_X9_food_198 (nI f) (nI e) (nI c) (nI p) (nI n) a6 S K (m + 1) (lN up) (lN (10 ^ d)) (nI d) := by
  intro m
  induction m with
  | zero =>
    intro d hd
    have h10 : 10 ^ n ≤ 10 ^ 8 := Nat.pow_le_pow_right (by omega) hn
    have h1 : 0 < 10 ^ n := Nat.pow_pos (by omega)
    rw [q_X9_food_198_s, nle _ _ (by omega) (by omega), and_if (by omega), show d = n by omega]
    exact M_part hu h1 (by omega) hK
  | succ m ih =>
    intro d hd
    rw [q_X9_food_198_s, nle _ _ (by omega) (by omega), and_nif (by omega), all_eq, all_eq, lN_mul, nI_add, ← Nat.pow_succ]
    exact ih (d + 1) (by omega)
theorem M_food (hf : f ≤ 999) (he : e ≤ 99) (hc : c ≤ 99) (hp : p ≤ 10) (hn : n ≤ 8) (hK : K (gTm a6 (sN (dpF f e c p n) 100) (10 ^ n) (Nat.gcd (sN (dpF f e c p n) 100) (10 ^ n)))) : ∃ f_76, q_X9_food_76 (nI f) (nI e) (nI c) (nI p) (nI n) a6 S K f_76 (lN 0) (lN 1) (nI 0) := by
  have h2 : 2 ^ n ≤ 2 ^ 8 := Nat.pow_le_pow_right (by omega) hn
  have h10 : 10 ^ n ≤ 10 ^ 8 := Nat.pow_le_pow_right (by omega) hn
  have hle := tot_le (F := fdF f e c) (s0 := 0) (p := p) (q := 10 - p) (φ := fun x => 0 ≤ x) (d := n)
  rw [show p + (10 - p) = 10 by omega] at hle
  rw [← food_sum n (by omega)] at hK
  have h : ∀ m set, set + m = 2 ^ n → q_X9_food_76 (nI f) (nI e) (nI c) (nI p) (nI n) a6 S K (m + 1) (lN (sN (fun set => if 0 ≤ stS (fdF f e c) 0 set n then rvS p (10 - p) set n else 0) set)) (lN 1) (nI set) := by
    intro m
    induction m with
    | zero =>
      intro set hs
      rw [q_X9_food_76_s, shl1 _ (by omega), nle _ _ (by omega) (by omega), and_if (by omega), show set = 2 ^ n by omega]
      exact ⟨n + 1, M_fd198 hn (by omega) hK n 0 (by omega)⟩
    | succ m ih =>
      intro set hs
      rw [q_X9_food_76_s, shl1 _ (by omega), nle _ _ (by omega) (by omega), and_nif (by omega)]
      exact ⟨n + 1, M_fd94 hf he hc hp hn (by omega) (ih (set + 1) (by omega)) n 0 _ (by omega) (Or.inr ⟨0, by omega, rfl, by omega, by rw [Nat.mul_zero, Nat.mul_zero]; rfl⟩)⟩
  exact ⟨_, h (2 ^ n) 0 (by omega)⟩
end MF
theorem in_br {a lo hi : Int32} {A B : Prop} : ((a < lo → A) ∧ (¬ a < lo → ((hi < a → A) ∧ (¬ hi < a → B)))) ↔ ((¬ inR a lo hi → A) ∧ (inR a lo hi → B)) := by
  unfold inR
  by_cases c1 : a < lo
  · simp [c1]
  · by_cases c2 : hi < a
    · simp [c1, c2]
    · simp [c1, c2]
theorem in_br2 {a lo hi : Int32} {A B : Prop} : ((a < lo → A) ∧ (¬ a < lo → ((a ≤ hi → B) ∧ (¬ a ≤ hi → A)))) ↔ ((¬ inR a lo hi → A) ∧ (inR a lo hi → B)) := by
  unfold inR
  rw [← i_nle]
  by_cases c1 : a < lo
  · simp [c1]
  · by_cases c2 : a ≤ hi
    · simp [c1, c2]
    · simp [c1, c2]
theorem Rel_1 {SX SX' SM : St} (R : Rel SX SM) (h : SX'.1 = SX.1) : Rel SX' SM := by
  obtain ⟨T, R⟩ := R
  have R' := R
  obtain ⟨E, X, C, S, hl, rt, d0, d1, rk, q0, q1⟩ := R
  exact ⟨T, RelT_go R' (fun c _ => by rw [h]) (fun c _ _ _ => rfl) (fun j _ => rfl) (fun j _ => rfl) (q0.eq (by rw [h])) (q1.eq (by rw [h]))⟩
theorem o_food : ob_food Rel := by
  intro SX SM R a1 a2 a3 a4 a5 a6
  unfold q_X8_food q_X9_food
  simp only [f_X9_in, bbr, in_br, in_br2]
  by_cases c1 : inR a1 (nI 0) (nI 999)
  · by_cases c2 : inR a2 (nI 1) (nI 99)
    · by_cases c3 : inR a3 (nI 0) (nI 99)
      · by_cases c4 : inR a4 (nI 0) (nI 10)
        · by_cases c5 : inR a5 (nI 0) (nI 8)
          · by_cases c6 : inR a6 (nI 0) (nI 1)
            · simp only [pif_t c1, pif_t c2, pif_t c3, pif_t c4, pif_t c5, pif_t c6]
              obtain ⟨f, hf, rfl⟩ := inR_ex (by omega) c1
              obtain ⟨e, he, rfl⟩ := inR_ex (a := a2) (m := 99) (by omega) ⟨fun q => c2.1 (by rw [tI_lt, nI_toInt (by omega)] at q; rw [tI_lt, nI_toInt (by omega)]; omega), c2.2⟩
              obtain ⟨c, hc, rfl⟩ := inR_ex (by omega) c3
              obtain ⟨p, hp, rfl⟩ := inR_ex (by omega) c4
              obtain ⟨n, hn, rfl⟩ := inR_ex (by omega) c5
              have h10 : 10 ^ n ≤ 10 ^ 8 := Nat.pow_le_pow_right (by omega) hn
              have h1 : 0 < 10 ^ n := Nat.pow_pos (by omega)
              have hle := tot_le (F := fdF f e c) (s0 := 0) (p := p) (q := 10 - p) (φ := fun x => 0 ≤ x) (d := n)
              rw [show p + (10 - p) = 10 by omega] at hle
              rw [food_sum n (by omega)] at hle
              refine X_enough hf he hc hp hn (fun S' h => X_ten (by omega) (X_low (by omega) h1 (by omega) ?_))
              exact M_food hf he hc hp hn ⟨rfl, Rel_1 R h⟩
            · simp only [pif_t c1, pif_t c2, pif_t c3, pif_t c4, pif_t c5, pif_f c6]
              exact ⟨trivial, R⟩
          · simp only [pif_t c1, pif_t c2, pif_t c3, pif_t c4, pif_f c5]
            exact ⟨trivial, R⟩
        · simp only [pif_t c1, pif_t c2, pif_t c3, pif_f c4]
          exact ⟨trivial, R⟩
      · simp only [pif_t c1, pif_t c2, pif_f c3]
        exact ⟨trivial, R⟩
    · simp only [pif_t c1, pif_f c2]
      exact ⟨trivial, R⟩
  · simp only [pif_f c1]
    exact ⟨trivial, R⟩
