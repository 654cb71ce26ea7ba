/-! ===== a line is told: the class ===== -/
def Sea18 (S T : St) : Prop := ∀ c, 4 ≤ c → c < 19 → S.1 c = T.1 c
theorem sI_sFn (S : St) {c c' : Nat} (f : Nat → Int32) (k : Nat) (v : Int32) (h : c ≠ c') : sI (sF S c f) c' k v = sF (sI S c' k v) c f := by
  refine Prod.ext ?_ rfl
  funext x
  by_cases h1 : x = c
  · subst h1
    rw [sI_ne _ _ _ _ h, sF_self, sF_self]
  · by_cases h2 : x = c'
    · subst h2
      rw [sI_row, sF_ne _ _ _ h1, sF_ne _ _ _ h1, sI_row]
    · rw [sI_ne _ _ _ _ h2, sF_ne _ _ _ h1, sF_ne _ _ _ h1, sI_ne _ _ _ _ h2]
/-- hours from a to b of the row of height h, as far as i -/
def wR (f : Nat → Int32) (h a b i : Nat) (v : Int32) : Nat → Int32 := fun j => if 12 * (h - 1) + a ≤ j ∧ j ≤ 12 * (h - 1) + b ∧ j < 12 * (h - 1) + i then v else f j
def fo (x : Int32) (a b : Nat) : Nat → Int32
  | 0 => x
  | i + 1 => if a ≤ i ∧ i ≤ b then fo x a b i ||| nI (2 ^ i) else fo x a b i
def z36 (f : Nat → Int32) (i : Nat) : Nat → Int32 := fun j => if j < i then nI 0 else f j
def tl0 (T : St) (n : Nat → Nat) : St := sF (sF T 7 (wR (T.1 7) (n 0) (n 1) (n 2) 12 (nI (n 3)))) 8 (wR (T.1 8) (n 0) (n 1) (n 2) 12 (nI (n 4) - nI 3))
def tl1 (T : St) (n : Nat → Nat) : St := sI (sI (sI (sI (sI (sI T (9 + n 0) 0 (nI 1)) (9 + n 0) 1 (nI (n 1))) (9 + n 0) 2 (nI (n 2))) (9 + n 0) 3 (nI (n 3))) (9 + n 0) 4 (nI (n 4))) (9 + n 0) 5 (nI (n 5))
def tl2 (T : St) (n : Nat → Nat) : St := sI (sI (sI (sI (sI (sI T (15 + n 0) 0 (nI 1)) (15 + n 0) 1 (nI (n 1))) (15 + n 0) 2 (nI (n 2))) (15 + n 0) 3 (nI (n 3) - nI 1)) (15 + n 0) 4 (nI (n 4) - nI 1)) (15 + n 0) 5 (nI (n 5))
def tl7 (T : St) : St := sI (sI (sF (sF T 7 (z36 (T.1 7) 36)) 8 (z36 (T.1 8) 36)) 4 6 (nI 0)) 4 7 (nI 0)
def tlT (T : St) (w : Nat) (n : Nat → Nat) : St :=
  if w = 0 then tl0 T n else if w = 1 then tl1 T n else if w = 2 then tl2 T n else if w = 3 then sI T 4 4 (nI (n 0)) else if w = 4 then sI T 4 5 (nI (n 0)) else if w = 5 then sI T 4 6 (fo (T.1 4 6) (n 0) (n 1) 12) else if w = 6 then sI T 4 7 (nI (n 0)) else if w = 7 then tl7 T else sI T (9 + n 0) 0 (nI 0)
def NB (w : Nat) (n : Nat → Nat) : Prop := (∀ i, i < sz w → n i ≤ hi_ w i) ∧ (w = 0 → 1 ≤ n 0) ∧ (w = 1 → 1 ≤ n 3)
theorem wR_0 (f : Nat → Int32) (h a b : Nat) (v : Int32) : wR f h a b 0 v = f := by
  funext j; unfold wR; rw [if_neg (by omega)]
theorem wR_s {f : Nat → Int32} {h a b i : Nat} {v : Int32} (q : a ≤ i ∧ i ≤ b) : upd (wR f h a b i v) (12 * (h - 1) + i) v = wR f h a b (i + 1) v := by
  funext j
  unfold wR
  by_cases c : j = 12 * (h - 1) + i
  · rw [c, upd_s, if_pos (by omega)]
  · rw [upd_n _ _ c]
    by_cases c2 : 12 * (h - 1) + a ≤ j ∧ j ≤ 12 * (h - 1) + b ∧ j < 12 * (h - 1) + i
    · rw [if_pos c2, if_pos (by omega)]
    · rw [if_neg c2, if_neg (by omega)]
theorem wR_n {f : Nat → Int32} {h a b i : Nat} {v : Int32} (q : ¬ (a ≤ i ∧ i ≤ b)) : wR f h a b i v = wR f h a b (i + 1) v := by
  funext j
  unfold wR
  by_cases c2 : 12 * (h - 1) + a ≤ j ∧ j ≤ 12 * (h - 1) + b ∧ j < 12 * (h - 1) + i
  · rw [if_pos c2, if_pos (by omega)]
  · rw [if_neg c2, if_neg (by omega)]
section TE
variable {S : St} {n : Nat → Nat} {K : St → Prop}
theorem X_wind (h3 : ∀ i, i < 5 → S.1 3 i = nI (n i)) (b0 : 1 ≤ n 0) (b0' : n 0 ≤ 3) (b1 : n 1 ≤ 11) (b2 : n 2 ≤ 11) (hK : K (tl0 S n)) : q_X4_tellWind S K := by
  unfold q_X4_tellWind
  simp (disch := omega) only [ncl]
  rw [h3 0 (by omega), f_X8_isHeight, bbr, pif_t (isHt_nI b0 b0'), all_eq, pk_sub b0, pk_mul, Nat.mul_comm (n 0 - 1) 12]
  have st : ∀ i (X : St), X = sF (sF S 7 (wR (S.1 7) (n 0) (n 1) (n 2) i (nI (n 3)))) 8 (wR (S.1 8) (n 0) (n 1) (n 2) i (nI (n 4) - nI 3)) → X.1 3 = S.1 3 := fun i X e => by rw [e, sF_ne _ _ _ (by omega), sF_ne _ _ _ (by omega)]
  have l : ∀ m i, i + m = 12 → q_X4_tellWind_21 K (m + 1) (sF (sF S 7 (wR (S.1 7) (n 0) (n 1) (n 2) i (nI (n 3)))) 8 (wR (S.1 8) (n 0) (n 1) (n 2) i (nI (n 4) - nI 3))) (nI (12 * (n 0 - 1))) (nI i) := by
    intro m
    induction m with
    | zero =>
      intro i hi
      rw [q_X4_tellWind_21_s, nle _ _ (by omega) (by omega), and_if (by omega), show i = 12 by omega]
      exact hK
    | succ m ih =>
      intro i hi
      have ih' := ih (i + 1) (by omega)
      rw [q_X4_tellWind_21_s, nle _ _ (by omega) (by omega), and_nif (by omega), st i _ rfl, ncl _ (by omega), ncl _ (by omega), ncl _ (by omega), ncl _ (by omega), h3 1 (by omega), h3 2 (by omega), h3 3 (by omega), nlt _ _ (by omega) (by omega), nlt _ _ (by omega) (by omega)]
      unfold q_X4_tellWind_65
      refine ⟨fun q => ?_, fun q => ⟨fun q2 => ?_, fun q2 => ?_⟩⟩
      · rw [all_eq, nI_add, wR_n (show ¬ (n 1 ≤ i ∧ i ≤ n 2) by omega), wR_n (f := S.1 8) (show ¬ (n 1 ≤ i ∧ i ≤ n 2) by omega)]; exact ih'
      · rw [all_eq, nI_add, wR_n (show ¬ (n 1 ≤ i ∧ i ≤ n 2) by omega), wR_n (f := S.1 8) (show ¬ (n 1 ≤ i ∧ i ≤ n 2) by omega)]; exact ih'
      · rw [nI_add, ncl _ (by omega), all_eq, all_eq, all_eq, nI_add, sI_ne _ _ _ _ (show 3 ≠ 7 by omega), st i _ rfl, h3 4 (by omega)]
        refine ⟨vp_in_nI (by omega) (by omega), vp_in_nI (by omega) (by omega), ?_⟩
        rw [sI_sFn _ _ _ _ (by omega), sI_sF, sI_sF, wR_s ⟨by omega, by omega⟩, wR_s ⟨by omega, by omega⟩]
        exact ih'
  have := l 12 0 (by omega)
  rw [wR_0, wR_0, sF_id, sF_id] at this
  exact ⟨13, this⟩
theorem c3I (S : St) {c : Nat} (k : Nat) (v : Int32) (h : 3 ≠ c) : (sI S c k v).1 3 = S.1 3 := sI_ne _ _ _ _ h
theorem X_kiteL (h3 : ∀ i, i < 6 → S.1 3 i = nI (n i)) (b0 : n 0 ≤ 5) (hK : K (tl1 S n)) : q_X4_tellKite S K := by
  unfold q_X4_tellKite
  unfold tl1 at hK
  simp (disch := omega) only [ncl, h3, all_eq, c3I]
  rw [and_nif (nI_p (by omega)), nlt _ _ (by omega) (by omega), and_if (by omega)]
  exact ⟨vp_in_nI (by omega) (by omega), hK⟩
theorem X_shoalL (h3 : ∀ i, i < 6 → S.1 3 i = nI (n i)) (b0 : n 0 ≤ 3) (hK : K (tl2 S n)) : q_X4_tellShoal S K := by
  unfold q_X4_tellShoal
  unfold tl2 at hK
  simp (disch := omega) only [ncl, h3, all_eq, c3I]
  rw [and_nif (nI_p (by omega)), nlt _ _ (by omega) (by omega), and_if (by omega)]
  exact ⟨vp_in_nI (by omega) (by omega), hK⟩
theorem fo_t {x : Int32} {a b i : Nat} (h : a ≤ i ∧ i ≤ b) : fo x a b (i + 1) = fo x a b i ||| nI (2 ^ i) := if_pos h
theorem fo_f {x : Int32} {a b i : Nat} (h : ¬ (a ≤ i ∧ i ≤ b)) : fo x a b (i + 1) = fo x a b i := if_neg h
theorem X_fogL {a b : Nat} (ha : a ≤ 11) (hb : b ≤ 11) (hK : K (sI S 4 6 (fo (S.1 4 6) a b 12))) : q_X4_tellFog S (nI a) (nI b) K := by
  have l : ∀ m i, i + m = 12 → q_X4_tellFog_2 (nI a) (nI b) K (m + 1) (sI S 4 6 (fo (S.1 4 6) a b i)) (nI i) := by
    intro m
    induction m with
    | zero =>
      intro i hi
      rw [q_X4_tellFog_2_s, nle _ _ (by omega) (by omega), and_if (by omega), show i = 12 by omega]
      exact hK
    | succ m ih =>
      intro i hi
      have ih' := ih (i + 1) (by omega)
      rw [q_X4_tellFog_2_s, nle _ _ (by omega) (by omega), and_nif (by omega), nlt _ _ (by omega) (by omega), nlt _ _ (by omega) (by omega)]
      unfold q_X4_tellFog_30
      refine ⟨fun q => ?_, fun q => ⟨fun q2 => ?_, fun q2 => ?_⟩⟩
      · rw [all_eq, nI_add]; rw [fo_f (by omega)] at ih'; exact ih'
      · rw [all_eq, nI_add]; rw [fo_f (by omega)] at ih'; exact ih'
      · rw [all_eq, all_eq, nI_add, shl1 _ (by omega), sI_same, sI_sI]; rw [fo_t (by omega)] at ih'; exact ih'
  have := l 12 0 (by omega)
  have e : sI S 4 6 (fo (S.1 4 6) a b 0) = S := sI_id S 4 6
  rw [e] at this
  exact ⟨13, this⟩
theorem X_fillI {c : Nat} (hK : K (sF S c (z36 (S.1 c) 36))) : q_J7_fill_53178 c 36 S (nI 0) K := by
  have l : ∀ m i, i + m = 36 → q_J7_fill_53178_5 c 36 (nI 0) K (m + 1) (sF S c (z36 (S.1 c) i)) (nI i) (nI 36) := by
    intro m
    induction m with
    | zero =>
      intro i hi
      rw [q_J7_fill_53178_5_s, nle _ _ (by omega) (by omega), and_if (by omega), show i = 36 by omega]
      exact hK
    | succ m ih =>
      intro i hi
      rw [q_J7_fill_53178_5_s, nle _ _ (by omega) (by omega), and_nif (by omega), all_eq, all_eq, ncl _ (by omega), nI_add, sI_sF]
      refine ⟨vp_in_nI (by omega) (by omega), ?_⟩
      have e : upd (z36 (S.1 c) i) i (nI 0) = z36 (S.1 c) (i + 1) := by
        funext j
        unfold z36
        by_cases q : j = i
        · rw [q, upd_s, if_pos (by omega)]
        · rw [upd_n _ _ q]
          by_cases q2 : j < i
          · rw [if_pos q2, if_pos (by omega)]
          · rw [if_neg q2, if_neg (by omega)]
      rw [e]
      exact ih (i + 1) (by omega)
  unfold q_J7_fill_53178
  rw [all_eq]
  have := l 36 0 (by omega)
  have e : z36 (S.1 c) 0 = S.1 c := by funext j; unfold z36; rw [if_neg (by omega)]
  rw [e, sF_id] at this
  exact ⟨37, this⟩
theorem X_calmL (hK : K (tl7 S)) : q_X4_tellCalm S K := by
  unfold q_X4_tellCalm
  refine X_fillI (X_fillI ?_)
  rw [all_eq, all_eq, sF_ne _ _ _ (by omega)]
  exact hK
theorem X_tell {w : Nat} (hw : w < 9) (h3 : ∀ i, i < sz w → S.1 3 i = nI (n i)) (b : NB w n) (hK : K (tlT S w n)) : q_X4_tell S (nI w) K := by
  obtain ⟨b1, b2, b3⟩ := b
  unfold q_X4_tell
  unfold tlT at hK
  rw [all_eq]
  rcases (show w = 0 ∨ w = 1 ∨ w = 2 ∨ w = 3 ∨ w = 4 ∨ w = 5 ∨ w = 6 ∨ w = 7 ∨ w = 8 by omega) with rfl | rfl | rfl | rfl | rfl | rfl | rfl | rfl | rfl
  · rw [and_if rfl]
    exact X_wind h3 (b2 rfl) (b1 0 (by decide)) (b1 1 (by decide)) (b1 2 (by decide)) hK
  · rw [and_nif (by decide), and_if rfl]
    exact X_kiteL h3 (b1 0 (by decide)) hK
  · rw [and_nif (by decide), and_nif (by decide), and_if rfl]
    exact X_shoalL h3 (b1 0 (by decide)) hK
  · rw [and_nif (by decide), and_nif (by decide), and_nif (by decide), and_if rfl, all_eq, ncl _ (by omega), h3 0 (by decide)]
    exact hK
  · rw [and_nif (by decide), and_nif (by decide), and_nif (by decide), and_nif (by decide), and_if rfl, all_eq, ncl _ (by omega), h3 0 (by decide)]
    exact hK
  · rw [and_nif (by decide), and_nif (by decide), and_nif (by decide), and_nif (by decide), and_nif (by decide), and_if rfl, ncl _ (by omega), ncl _ (by omega), h3 0 (by decide), h3 1 (by decide)]
    exact X_fogL (b1 0 (by decide)) (b1 1 (by decide)) hK
  · rw [and_nif (by decide), and_nif (by decide), and_nif (by decide), and_nif (by decide), and_nif (by decide), and_nif (by decide), and_if rfl, all_eq, ncl _ (by omega), h3 0 (by decide)]
    exact hK
  · rw [and_nif (by decide), and_nif (by decide), and_nif (by decide), and_nif (by decide), and_nif (by decide), and_nif (by decide), and_nif (by decide), and_if rfl]
    exact X_calmL hK
  · rw [and_nif (by decide), and_nif (by decide), and_nif (by decide), and_nif (by decide), and_nif (by decide), and_nif (by decide), and_nif (by decide), and_nif (by decide), ncl _ (by omega), h3 0 (by decide)]
    have h5 : n 0 ≤ 5 := b1 0 (by decide)
    unfold q_X4_tellLost
    rw [and_nif (nI_p (by omega)), nle _ _ (by omega) (by omega), and_nif (by omega), all_eq, ncl _ (by omega)]
    exact ⟨vp_in_nI (by omega) (by omega), hK⟩
end TE
/-! it depends on the sea alone -/
theorem s18_I {S T : St} (E : Sea18 S T) (c k : Nat) {v w : Int32} (e : v = w) : Sea18 (sI S c k v) (sI T c k w) := fun x h1 h2 => by
  by_cases q : x = c
  · rw [q, sI_row, sI_row, e]
    rw [q] at h1 h2
    rw [E c h1 h2]
  · rw [sI_ne _ _ _ _ q, sI_ne _ _ _ _ q]; exact E x h1 h2
theorem s18_F {S T : St} (E : Sea18 S T) (c : Nat) {f g : Nat → Int32} (e : f = g) : Sea18 (sF S c f) (sF T c g) := fun x h1 h2 => by
  by_cases q : x = c
  · rw [q, sF_self, sF_self, e]
  · rw [sF_ne _ _ _ q, sF_ne _ _ _ q]; exact E x h1 h2
theorem s18_tl {S T : St} (E : Sea18 S T) (w : Nat) (n : Nat → Nat) : Sea18 (tlT S w n) (tlT T w n) := by
  unfold tlT
  by_cases c0 : w = 0
  · rw [if_pos c0, if_pos c0]
    unfold tl0
    exact s18_F (s18_F E 7 (by rw [E 7 (by omega) (by omega)])) 8 (by rw [E 8 (by omega) (by omega)])
  rw [if_neg c0, if_neg c0]
  by_cases c1 : w = 1
  · rw [if_pos c1, if_pos c1]
    unfold tl1
    exact s18_I (s18_I (s18_I (s18_I (s18_I (s18_I E _ _ rfl) _ _ rfl) _ _ rfl) _ _ rfl) _ _ rfl) _ _ rfl
  rw [if_neg c1, if_neg c1]
  by_cases c2 : w = 2
  · rw [if_pos c2, if_pos c2]
    unfold tl2
    exact s18_I (s18_I (s18_I (s18_I (s18_I (s18_I E _ _ rfl) _ _ rfl) _ _ rfl) _ _ rfl) _ _ rfl) _ _ rfl
  rw [if_neg c2, if_neg c2]
  by_cases c3 : w = 3
  · rw [if_pos c3, if_pos c3]; exact s18_I E _ _ rfl
  rw [if_neg c3, if_neg c3]
  by_cases c4 : w = 4
  · rw [if_pos c4, if_pos c4]; exact s18_I E _ _ rfl
  rw [if_neg c4, if_neg c4]
  by_cases c5 : w = 5
  · rw [if_pos c5, if_pos c5]; exact s18_I E _ _ (by rw [E 4 (by omega) (by omega)])
  rw [if_neg c5, if_neg c5]
  by_cases c6 : w = 6
  · rw [if_pos c6, if_pos c6]; exact s18_I E _ _ rfl
  rw [if_neg c6, if_neg c6]
  by_cases c7 : w = 7
  · rw [if_pos c7, if_pos c7]
    unfold tl7
    exact s18_I (s18_I (s18_F (s18_F E 7 (by rw [E 7 (by omega) (by omega)])) 8 (by rw [E 8 (by omega) (by omega)])) _ _ rfl) _ _ rfl
  rw [if_neg c7, if_neg c7]
  exact s18_I E _ _ rfl
theorem tl_out (T : St) {w : Nat} {n : Nat → Nat} (hw : w < 9) (b : NB w n) {c : Nat} (h : c < 4 ∨ 18 < c) : (tlT T w n).1 c = T.1 c := by
  obtain ⟨b1, -, -⟩ := b
  unfold tlT
  rcases (show w = 0 ∨ w = 1 ∨ w = 2 ∨ w = 3 ∨ w = 4 ∨ w = 5 ∨ w = 6 ∨ w = 7 ∨ w = 8 by omega) with rfl | rfl | rfl | rfl | rfl | rfl | rfl | rfl | rfl
  · rw [if_pos rfl]; unfold tl0; rw [sF_ne _ _ _ (by omega), sF_ne _ _ _ (by omega)]
  · have : n 0 ≤ 5 := b1 0 (by decide)
    rw [if_neg (by omega), if_pos rfl]; unfold tl1
    rw [sI_ne _ _ _ _ (by omega), sI_ne _ _ _ _ (by omega), sI_ne _ _ _ _ (by omega), sI_ne _ _ _ _ (by omega), sI_ne _ _ _ _ (by omega), sI_ne _ _ _ _ (by omega)]
  · have : n 0 ≤ 3 := b1 0 (by decide)
    rw [if_neg (by omega), if_neg (by omega), if_pos rfl]; unfold tl2
    rw [sI_ne _ _ _ _ (by omega), sI_ne _ _ _ _ (by omega), sI_ne _ _ _ _ (by omega), sI_ne _ _ _ _ (by omega), sI_ne _ _ _ _ (by omega), sI_ne _ _ _ _ (by omega)]
  · rw [if_neg (by omega), if_neg (by omega), if_neg (by omega), if_pos rfl, sI_ne _ _ _ _ (by omega)]
  · rw [if_neg (by omega), if_neg (by omega), if_neg (by omega), if_neg (by omega), if_pos rfl, sI_ne _ _ _ _ (by omega)]
  · rw [if_neg (by omega), if_neg (by omega), if_neg (by omega), if_neg (by omega), if_neg (by omega), if_pos rfl, sI_ne _ _ _ _ (by omega)]
  · rw [if_neg (by omega), if_neg (by omega), if_neg (by omega), if_neg (by omega), if_neg (by omega), if_neg (by omega), if_pos rfl, sI_ne _ _ _ _ (by omega)]
  · rw [if_neg (by omega), if_neg (by omega), if_neg (by omega), if_neg (by omega), if_neg (by omega), if_neg (by omega), if_neg (by omega), if_pos rfl]; unfold tl7
    rw [sI_ne _ _ _ _ (by omega), sI_ne _ _ _ _ (by omega), sF_ne _ _ _ (by omega), sF_ne _ _ _ (by omega)]
  · have : n 0 ≤ 5 := b1 0 (by decide)
    rw [if_neg (by omega), if_neg (by omega), if_neg (by omega), if_neg (by omega), if_neg (by omega), if_neg (by omega), if_neg (by omega), if_neg (by omega), sI_ne _ _ _ _ (by omega)]
