/-! ===== what an hour takes ===== -/
theorem gvN_0 (G : Nat) : gvN G 0 = 0 := by unfold gvN; by_cases c : G = 0 <;> simp [c]
theorem gvN_le (G W : Nat) : gvN G W ≤ W := by unfold gvN; by_cases c : G = 0 <;> simp [c]
theorem div_add_le (W d G : Nat) : (W + d) / G ≤ W / G + d := by
  by_cases c : G = 0
  · simp [c]
  · have h : W + d ≤ W + d * G := by
      have := Nat.le_mul_of_pos_right d (show 0 < G by omega)
      omega
    have h2 := Nat.div_le_div_right (c := G) h
    rw [Nat.add_mul_div_right _ _ (by omega)] at h2
    exact h2
theorem gvN_mono {G W V : Nat} (h : W ≤ V) : gvN G W ≤ gvN G V := by
  unfold gvN
  by_cases c : G = 0
  · simp only [if_pos c]; exact h
  · simp only [if_neg c]
    have h1 := div_add_le W (V - W) G
    rw [show W + (V - W) = V by omega] at h1
    have h2 := Nat.div_le_self W G
    have h3 := Nat.div_le_self V G
    omega
def LF (f : Nat → Int32) (L : Nat → Nat) : Prop := ∀ s, s < 4 → f (39 + s) = nI (L s) ∧ L s ≤ 99
def RN (T : St) (N : Nat → Nat) (G : Nat) : Prop := (∀ k, k < 6 → T.1 (9 + k) 4 = nI (N k) ∧ N k ≤ 9) ∧ T.1 4 7 = nI G ∧ G ≤ 9
theorem rg_nI {x : Int32} {b : Nat} (h : rg x 0 b) (hb : b < 2 ^ 30) : x = nI x.toInt.toNat ∧ x.toInt.toNat ≤ b := by
  obtain ⟨h1, h2⟩ := h
  refine ⟨?_, by omega⟩
  rw [tI_eq, nI_toInt (by omega)]
  omega
theorem XR_RN {T : St} (X : XR T) : ∃ N G, RN T N G :=
  ⟨fun k => (T.1 (9 + k) 4).toInt.toNat, (T.1 4 7).toInt.toNat, fun k hk => rg_nI (b := 9) (X.1 k hk).2.2.2.1 (by omega), (rg_nI (b := 9) X.2.2.2.2.2.2 (by omega)).1, (rg_nI (b := 9) X.2.2.2.2.2.2 (by omega)).2⟩
def sT (g : Nat → Nat) : Nat → Nat → Nat
  | 0, _ => 0
  | m + 1, k => g k + sT g m (k + 1)
theorem sT_c {g h : Nat → Nat} : ∀ m k, (∀ i, k ≤ i → i < k + m → g i = h i) → sT g m k = sT h m k := by
  intro m
  induction m with
  | zero => intro k _; rfl
  | succ m ih =>
    intro k e
    show g k + sT g m (k + 1) = h k + sT h m (k + 1)
    rw [e k (by omega) (by omega), ih (k + 1) (fun i h1 h2 => e i (by omega) (by omega))]
theorem atV_of2 {T : St} {k t s : Nat} {f g : Nat → Int32} (hk : k < 6) (hs : s < 4) (e : ∀ j, j < 39 → (j < 13 ∨ 24 < j) → g j = f j) : atV T k t s g = atV T k t s f := by
  unfold atV hgt
  rw [e (31 + s) (by omega) (by omega), e (35 + s) (by omega) (by omega), e (7 + k) (by omega) (by omega)]
section HS
variable {T : St} {t G : Nat} {N : Nat → Nat} {law : Int32}
theorem nK1_spec {k : Nat} {f : Nat → Int32} {L : Nat → Nat} (X : RN T N G) (hk : k < 6) (hL : LF f L) :
    ∃ a : Nat → Nat, (∀ s, s < 4 → a s ≤ L s ∧ (a s ≠ 0 → f (1 + k) = nI 1 ∧ atV T k t s f) ∧ nK1 T t k f (39 + s) = nI (L s - a s)) ∧ a 0 + a 1 + a 2 + a 3 ≤ 3 * N k ∧ nK1 T t k f (13 + k) = f (13 + k) + nI (gvN G (a 0 + a 1 + a 2 + a 3)) := by
  by_cases c : f (1 + k) = nI 1
  · have e : nK1 T t k f = nTake T k t (upd f (19 + k) (f (19 + k) + nI 1)) := if_pos c
    rw [e]
    obtain ⟨a, h1, h2, h3⟩ := nTake_spec (T := T) (t := t) (f := upd f (19 + k) (f (19 + k) + nI 1)) (L := L) hk (X.1 k hk).1 (X.1 k hk).2 X.2.1 X.2.2 (fun s hs => by rw [upd_n _ _ (by omega)]; exact hL s hs)
    refine ⟨a, fun s hs => ⟨(h1 s hs).1, fun q => ⟨c, ?_⟩, (h1 s hs).2.2⟩, h2, ?_⟩
    · have h4 := (h1 s hs).2.1 q
      unfold atV hgt at h4 ⊢
      rw [upd_n _ _ (by omega), upd_n _ _ (by omega), upd_n _ _ (by omega)] at h4
      exact h4
    · rw [h3, upd_n _ _ (by omega)]
  · have e : nK1 T t k f = f := if_neg c
    rw [e]
    refine ⟨fun _ => 0, fun s hs => ⟨Nat.zero_le _, fun q => absurd rfl q, (hL s hs).1⟩, Nat.zero_le _, ?_⟩
    show f (13 + k) = f (13 + k) + nI (gvN G 0)
    rw [gvN_0, a0]
theorem nK_spec (X : RN T N G) : ∀ (m k : Nat) (f : Nat → Int32) (L : Nat → Nat), k + m = 6 → LF f L →
    ∃ a : Nat → Nat → Nat, (∀ i s, k ≤ i → i < 6 → s < 4 → a i s ≠ 0 → f (1 + i) = nI 1 ∧ atV T i t s f) ∧
      (∀ i, k ≤ i → i < 6 → a i 0 + a i 1 + a i 2 + a i 3 ≤ 3 * N i ∧ nK T t m k f (13 + i) = f (13 + i) + nI (gvN G (a i 0 + a i 1 + a i 2 + a i 3))) ∧
      (∀ i, i < k → nK T t m k f (13 + i) = f (13 + i)) ∧ ∀ s, s < 4 → sT (fun i => a i s) m k ≤ L s ∧ nK T t m k f (39 + s) = nI (L s - sT (fun i => a i s) m k) := by
  intro m
  induction m with
  | zero =>
    intro k f L hk hL
    exact ⟨fun _ _ => 0, fun i s h1 h2 => by omega, fun i h1 h2 => by omega, fun i hi => rfl, fun s hs => ⟨Nat.zero_le _, (hL s hs).1⟩⟩
  | succ m ih =>
    intro k f L hk hL
    obtain ⟨b, b1, b2, b3⟩ := nK1_spec (t := t) X (show k < 6 by omega) hL
    obtain ⟨a, a1, a2, a3, a4⟩ := ih (k + 1) (nK1 T t k f) (fun s => L s - b s) (by omega) (fun s hs => ⟨(b1 s hs).2.2, by have := (hL s hs).2; show L s - b s ≤ 99; omega⟩)
    have ne : ∀ j, j < 39 → (j < 13 ∨ 24 < j) → nK1 T t k f j = f j := fun j h1 h2 => nK1_n (by omega) h1 (by omega) (by omega)
    refine ⟨fun i => if i = k then b else a i, fun i s h1 h2 hs q => ?_, fun i h1 h2 => ?_, fun i hi => ?_, fun s hs => ?_⟩
    · by_cases c : i = k
      · simp only [if_pos c] at q; rw [c]; exact (b1 s hs).2.1 q
      · simp only [if_neg c] at q
        have h5 := a1 i s (by omega) h2 hs q
        rw [atV_of2 h2 hs ne, ne _ (by omega) (by omega)] at h5
        exact h5
    · show _ ∧ nK T t m (k + 1) (nK1 T t k f) (13 + i) = _
      by_cases c : i = k
      · simp only [if_pos c]
        subst c
        exact ⟨b2, by rw [a3 i (by omega), b3]⟩
      · simp only [if_neg c]
        refine ⟨(a2 i (by omega) h2).1, ?_⟩
        rw [(a2 i (by omega) h2).2, nK1_n (by omega) (by omega) (by omega) (by omega)]
    · show nK T t m (k + 1) (nK1 T t k f) (13 + i) = _
      rw [a3 i (by omega), nK1_n (by omega) (by omega) (by omega) (by omega)]
    · have e : sT (fun i => (if i = k then b else a i) s) (m + 1) k = b s + sT (fun i => a i s) m (k + 1) := by
        show (if k = k then b else a k) s + sT (fun i => (if i = k then b else a i) s) m (k + 1) = _
        rw [if_pos rfl, sT_c m (k + 1) (g := fun i => (if i = k then b else a i) s) (h := fun i => a i s) (fun i h1 h2 => by show (if i = k then b else a i) s = a i s; rw [if_neg (by omega)])]
      rw [e]
      obtain ⟨e1, e2⟩ := a4 s hs
      have e3 := (b1 s hs).1
      have e1' : sT (fun i => a i s) m (k + 1) ≤ L s - b s := e1
      refine ⟨by omega, ?_⟩
      show nK T t m (k + 1) (nK1 T t k f) (39 + s) = _
      rw [e2]
      congr 1
      show L s - b s - sT (fun i => a i s) m (k + 1) = _
      omega
theorem nHour_hi {f : Nat → Int32} {j : Nat} (h1 : 1 ≤ j) (h2 : j < 31 ∨ 38 < j) : nHour T law t f j = nK T t 6 0 (nFind T law t f) j := by
  unfold nHour
  rw [upd_n _ _ (by omega), nMv_o h2]
theorem nHour_spec (X : RN T N G) {f : Nat → Int32} {L : Nat → Nat} (hL : LF f L) :
    ∃ a : Nat → Nat → Nat, (∀ i s, i < 6 → s < 4 → a i s ≠ 0 → nFind T law t f (1 + i) = nI 1 ∧ atV T i t s (nFind T law t f)) ∧
      (∀ i, i < 6 → a i 0 + a i 1 + a i 2 + a i 3 ≤ 3 * N i ∧ nHour T law t f (13 + i) = f (13 + i) + nI (gvN G (a i 0 + a i 1 + a i 2 + a i 3))) ∧
      ∀ s, s < 4 → a 0 s + a 1 s + a 2 s + a 3 s + a 4 s + a 5 s ≤ L s ∧ nHour T law t f (39 + s) = nI (L s - (a 0 s + a 1 s + a 2 s + a 3 s + a 4 s + a 5 s)) := by
  obtain ⟨a, a1, a2, -, a4⟩ := nK_spec (t := t) X 6 0 (nFind T law t f) L (by omega) (fun s hs => by rw [nFind_n (by omega) (by omega)]; exact hL s hs)
  refine ⟨a, fun i s hi hs q => a1 i s (by omega) hi hs q, fun i hi => ⟨(a2 i (by omega) hi).1, ?_⟩, fun s hs => ?_⟩
  · rw [nHour_hi (by omega) (by omega), (a2 i (by omega) hi).2, nFind_n (by omega) (by omega)]
  · have e : sT (fun i => a i s) 6 0 = a 0 s + a 1 s + a 2 s + a 3 s + a 4 s + a 5 s := by
      show a 0 s + (a 1 s + (a 2 s + (a 3 s + (a 4 s + (a 5 s + 0))))) = _
      omega
    rw [← e, nHour_hi (by omega) (by omega)]
    exact a4 s hs
theorem nHs_s : ∀ (m t : Nat) (f : Nat → Int32), nHs T law (m + 1) t f = nHour T law (t + m) (nHs T law m t f) := by
  intro m
  induction m with
  | zero => intro t f; rfl
  | succ m ih =>
    intro t f
    show nHs T law (m + 1) (t + 1) (nHour T law t f) = _
    rw [ih (t + 1), show t + 1 + m = t + (m + 1) by omega]
    rfl
theorem nHs_gain (X : RN T N G) {f : Nat → Int32} {L : Nat → Nat} (hL : LF f L) : ∀ m, ∃ (g L' : Nat → Nat), (∀ k, k < 6 → nHs T law m t f (13 + k) = f (13 + k) + nI (g k)) ∧ LF (nHs T law m t f) L' ∧
    g 0 + g 1 + g 2 + g 3 + g 4 + g 5 + (L' 0 + L' 1 + L' 2 + L' 3) ≤ L 0 + L 1 + L 2 + L 3 := by
  intro m
  induction m with
  | zero =>
    refine ⟨fun _ => 0, L, fun k hk => ?_, hL, by show 0 + 0 + 0 + 0 + 0 + 0 + (L 0 + L 1 + L 2 + L 3) ≤ _; omega⟩
    show f (13 + k) = f (13 + k) + nI 0
    rw [a0]
  | succ m ih =>
    obtain ⟨g, L', h1, h2, h3⟩ := ih
    rw [nHs_s]
    obtain ⟨a, a1, a2, a3⟩ := nHour_spec (t := t + m) (law := law) X h2
    refine ⟨fun k => g k + gvN G (a k 0 + a k 1 + a k 2 + a k 3), fun s => L' s - (a 0 s + a 1 s + a 2 s + a 3 s + a 4 s + a 5 s), fun k hk => ?_, fun s hs => ⟨(a3 s hs).2, ?_⟩, ?_⟩
    · rw [(a2 k hk).2, h1 k hk, Int32.add_assoc, nI_add]
    · have := (h2 s hs).2
      show L' s - _ ≤ 99
      omega
    · have b0 := gvN_le G (a 0 0 + a 0 1 + a 0 2 + a 0 3)
      have b1 := gvN_le G (a 1 0 + a 1 1 + a 1 2 + a 1 3)
      have b2 := gvN_le G (a 2 0 + a 2 1 + a 2 2 + a 2 3)
      have b3 := gvN_le G (a 3 0 + a 3 1 + a 3 2 + a 3 3)
      have b4 := gvN_le G (a 4 0 + a 4 1 + a 4 2 + a 4 3)
      have b5 := gvN_le G (a 5 0 + a 5 1 + a 5 2 + a 5 3)
      have c0 := (a3 0 (by omega)).1
      have c1 := (a3 1 (by omega)).1
      have c2 := (a3 2 (by omega)).1
      have c3 := (a3 3 (by omega)).1
      show g 0 + gvN G (a 0 0 + a 0 1 + a 0 2 + a 0 3) + (g 1 + gvN G (a 1 0 + a 1 1 + a 1 2 + a 1 3)) + (g 2 + gvN G (a 2 0 + a 2 1 + a 2 2 + a 2 3)) + (g 3 + gvN G (a 3 0 + a 3 1 + a 3 2 + a 3 3)) + (g 4 + gvN G (a 4 0 + a 4 1 + a 4 2 + a 4 3)) + (g 5 + gvN G (a 5 0 + a 5 1 + a 5 2 + a 5 3)) +
        (L' 0 - (a 0 0 + a 1 0 + a 2 0 + a 3 0 + a 4 0 + a 5 0) + (L' 1 - (a 0 1 + a 1 1 + a 2 1 + a 3 1 + a 4 1 + a 5 1)) + (L' 2 - (a 0 2 + a 1 2 + a 2 2 + a 3 2 + a 4 2 + a 5 2)) + (L' 3 - (a 0 3 + a 1 3 + a 2 3 + a 3 3 + a 4 3 + a 5 3))) ≤ L 0 + L 1 + L 2 + L 3
      omega
theorem i_lc (a b c : Int32) : a + (b + c) = b + (a + c) := by rw [← Int32.add_assoc, Int32.add_comm a b, Int32.add_assoc]
theorem sm6_add {f f' : Nat → Int32} {g : Nat → Nat} (h : ∀ k, k < 6 → f' (13 + k) = f (13 + k) + nI (g k)) : sm6 f' = sm6 f + nI (g 0 + g 1 + g 2 + g 3 + g 4 + g 5) := by
  have h0 : f' 13 = f 13 + nI (g 0) := h 0 (by omega)
  have h1 : f' 14 = f 14 + nI (g 1) := h 1 (by omega)
  have h2 : f' 15 = f 15 + nI (g 2) := h 2 (by omega)
  have h3 : f' 16 = f 16 + nI (g 3) := h 3 (by omega)
  have h4 : f' 17 = f 17 + nI (g 4) := h 4 (by omega)
  have h5 : f' 18 = f 18 + nI (g 5) := h 5 (by omega)
  unfold sm6
  rw [h0, h1, h2, h3, h4, h5]
  simp only [← nI_add, Int32.add_assoc, i_lc, Int32.add_comm]
end HS
