/-! ===== the class's hour ===== -/
def nEnd (T : St) (k : Nat) (q : TQ) : Nat → Int32 := upd (upd q.1 43 (q.1 43 + thV T q.2.2)) (13 + k) (q.1 (13 + k) + (q.2.2 - thV T q.2.2))
theorem nTake_e (T : St) (k t : Nat) (f : Nat → Int32) : nTake T k t f = nEnd T k (tkN T k t 4 0 (f, nI 3 * T.1 (9 + k) 4, nI 0)) := rfl
theorem tk1_id {T : St} {k t s : Nat} {q : TQ} (h : ¬ atV T k t s q.1) : tk1 T k t s q = q := by
  unfold tk1 fsV
  rw [if_neg h, if_pos (by decide)]
theorem tkN_id {T : St} {k t : Nat} : ∀ (m s : Nat) (q : TQ), (∀ j, s ≤ j → j < s + m → ¬ atV T k t j q.1) → tkN T k t m s q = q := by
  intro m
  induction m with
  | zero => intro s q _; rfl
  | succ m ih =>
    intro s q h
    show tkN T k t m (s + 1) (tk1 T k t s q) = q
    rw [tk1_id (h s (by omega) (by omega))]
    exact ih (s + 1) q (fun j h1 h2 => h j (by omega) (by omega))
theorem thV_0 (T : St) : thV T (nI 0) = nI 0 := by
  unfold thV
  by_cases h : T.1 4 7 = nI 0
  · rw [if_pos h]
  · rw [if_neg h, show nI 0 = 0 from rfl, Int32.zero_div]
theorem upd_id (f : Nat → Int32) (k : Nat) : upd f k (f k) = f := by funext j; unfold upd; by_cases h : j = k <;> simp [h]
theorem nTake_id {T : St} {k t : Nat} {f : Nat → Int32} (h : ∀ s, s < 4 → ¬ atV T k t s f) : nTake T k t f = f := by
  rw [nTake_e, tkN_id 4 0 _ (fun j _ h2 => h j (by omega))]
  unfold nEnd
  rw [thV_0, s0, a0, a0, upd_id, upd_id]
section FP
variable {T S0 S : St} {d t u : Nat} {full : Prop} {base law : Int32}
theorem PK_end {k : Nat} {q : TQ} {K : St → Prop} (p : PK T S0 d t full base S u q.1) (X : XR T) (hk : k < 6)
    (hK : ∀ S', PK T S0 d t full base S' u (nEnd T k q) → S'.1 (33 + 7 * d) 1 = S.1 (33 + 7 * d) 1 → K S') :
    q_X4_afterGulls S q.2.2 (fun r_2 => (vp_in (nI k) 6 ∧ (vp_in (nI k) 6 ∧ (∀ S_5 : St, S_5 = sI S (33 + 7 * d + 2) (nI k).toNatClampNeg ((S.1 (33 + 7 * d + 2) (nI k).toNatClampNeg) + r_2) → (∀ S_6 : St, S_6 = sI S_5 (33 + 7 * d) 2 ((S_5.1 (33 + 7 * d) 2) + r_2) → (∀ S_7 : St, S_7 = sI S_6 (33 + 7 * d) 3 ((S_6.1 (33 + 7 * d) 3) + (q.2.2 - r_2)) → (K S_7))))))) := by
  obtain ⟨p1, ⟨E, c0, n0, hub, hu, hask, hask2, hleft, hpos, hn⟩, p3, p4⟩ := p
  have er : @ite Int32 (S.1 4 7 ≤ nI 0) (Classical.propDecidable _) q.2.2 (q.2.2 - q.2.2 / S.1 4 7) = q.2.2 - thV T q.2.2 := by
    rw [E 4 (by omega) (by omega)]
    obtain ⟨g1, g2⟩ := X.2.2.2.2.2.2
    unfold thV
    by_cases h : T.1 4 7 = nI 0
    · rw [if_pos (by rw [h]; decide), if_pos h, s0]
    · have h2 : ¬ T.1 4 7 ≤ nI 0 := by
        rw [tI_eq, show (nI 0).toInt = 0 from rfl] at h
        rw [tI_le, show (nI 0).toInt = 0 from rfl]; omega
      rw [if_neg h2, if_neg h]
  rw [f_X4_afterGulls, er]
  simp (disch := omega) only [vin, ncl, all_eq]
  refine ⟨hk, hk, ?_⟩
  rw [sub_sub_s]
  have en : ∀ j, j ≠ 43 → j ≠ 13 + k → nEnd T k q j = q.1 j := fun j h1 h2 => by unfold nEnd; rw [upd_n _ _ h2, upd_n _ _ h1]
  have e13 : nEnd T k q (13 + k) = q.1 (13 + k) + (q.2.2 - thV T q.2.2) := by unfold nEnd; rw [upd_s]
  have e43 : nEnd T k q 43 = q.1 43 + thV T q.2.2 := by unfold nEnd; rw [upd_n _ _ (by omega), upd_s]
  have esm : sm6 (nEnd T k q) = sm6 q.1 + (q.2.2 - thV T q.2.2) := by
    have : sm6 (upd q.1 43 (q.1 43 + thV T q.2.2)) = sm6 q.1 := sm6_eq (fun j h1 h2 => upd_n _ _ (by omega))
    rw [← this, ← sm6_upd hk, upd_n _ _ (show 13 + k ≠ 43 by omega)]
    rfl
  have o1 : ∀ c, c ≠ 33 + 7 * d → c ≠ 33 + 7 * d + 2 → (sI (sI (sI S (33 + 7 * d + 2) k (S.1 (33 + 7 * d + 2) k + (q.2.2 - thV T q.2.2))) (33 + 7 * d) 2 ((sI S (33 + 7 * d + 2) k (S.1 (33 + 7 * d + 2) k + (q.2.2 - thV T q.2.2))).1 (33 + 7 * d) 2 + (q.2.2 - thV T q.2.2))) (33 + 7 * d) 3 ((sI (sI S (33 + 7 * d + 2) k (S.1 (33 + 7 * d + 2) k + (q.2.2 - thV T q.2.2))) (33 + 7 * d) 2 ((sI S (33 + 7 * d + 2) k (S.1 (33 + 7 * d + 2) k + (q.2.2 - thV T q.2.2))).1 (33 + 7 * d) 2 + (q.2.2 - thV T q.2.2))).1 (33 + 7 * d) 3 + thV T q.2.2)).1 c = S.1 c := fun c h1 h2 => by
    rw [sI_ne _ _ _ _ h1, sI_ne _ _ _ _ h1, sI_ne _ _ _ _ h2]
  generalize hS1 : sI S (33 + 7 * d + 2) k (S.1 (33 + 7 * d + 2) k + (q.2.2 - thV T q.2.2)) = S1 at o1 ⊢
  have s1 : S1.1 (33 + 7 * d) = S.1 (33 + 7 * d) := by rw [← hS1, sI_ne _ _ _ _ (by omega)]
  have s1c : ∀ j, S1.1 (33 + 7 * d + 2) j = if j = k then S.1 (33 + 7 * d + 2) k + (q.2.2 - thV T q.2.2) else S.1 (33 + 7 * d + 2) j := fun j => by rw [← hS1, sI_1, if_pos rfl]
  have D1 : DayOnly S0 S1 d := by rw [← hS1]; exact p1.sI (by omega) (by omega) (by omega)
  generalize hS2 : sI S1 (33 + 7 * d) 2 (S1.1 (33 + 7 * d) 2 + (q.2.2 - thV T q.2.2)) = S2 at o1 ⊢
  have s2 : ∀ j, S2.1 (33 + 7 * d) j = if j = 2 then S.1 (33 + 7 * d) 2 + (q.2.2 - thV T q.2.2) else S.1 (33 + 7 * d) j := fun j => by rw [← hS2, sI_1, if_pos rfl, s1]
  have D2 : DayOnly S0 S2 d := by rw [← hS2]; exact D1.sI (by omega) (by omega) (by omega)
  have s2c : S2.1 (33 + 7 * d + 2) = S1.1 (33 + 7 * d + 2) := by rw [← hS2, sI_ne _ _ _ _ (by omega)]
  generalize hS3 : sI S2 (33 + 7 * d) 3 (S2.1 (33 + 7 * d) 3 + thV T q.2.2) = S3 at o1 ⊢
  have s3 : ∀ j, S3.1 (33 + 7 * d) j = if j = 3 then S.1 (33 + 7 * d) 3 + thV T q.2.2 else if j = 2 then S.1 (33 + 7 * d) 2 + (q.2.2 - thV T q.2.2) else S.1 (33 + 7 * d) j := fun j => by
    have h23 : S2.1 (33 + 7 * d) 3 = S.1 (33 + 7 * d) 3 := (s2 3).trans (if_neg (by omega))
    rw [← hS3, sI_1, if_pos rfl, h23, s2 j]
  have D3 : DayOnly S0 S3 d := by rw [← hS3]; exact D2.sI (by omega) (by omega) (by omega)
  have s3c : ∀ j, S3.1 (33 + 7 * d + 2) j = if j = k then S.1 (33 + 7 * d + 2) k + (q.2.2 - thV T q.2.2) else S.1 (33 + 7 * d + 2) j := fun j => by rw [← hS3, sI_ne _ _ _ _ (by omega), s2c, s1c j]
  refine hK S3 ⟨D3, ⟨fun c h1 h2 => by rw [o1 c (by omega) (by omega)]; exact E c h1 h2, by rw [s3 0, if_neg (by omega), if_neg (by omega)]; exact c0, by rw [en 0 (by omega) (by omega)]; exact n0, hub, fun j hj => by rw [en _ (by omega) (by omega)]; exact hu j hj, hask.of (fun j hj => en _ (by omega) (by omega)), fun j hj => by rw [o1 _ (by omega) (by omega), en _ (by omega) (by omega)]; exact hask2 j hj, fun j hj => by rw [o1 _ (by omega) (by omega), en _ (by omega) (by omega)]; exact hleft j hj, fun j hj => by rw [en _ (by omega) (by omega), en _ (by omega) (by omega)]; exact hpos j hj, ?_⟩, ?_, fun hf => ?_⟩ (by rw [s3 1, if_neg (by omega), if_neg (by omega)])
  · rw [s3 4, if_neg (by omega), if_neg (by omega)]; exact hn
  · rw [s3 2, if_neg (by omega), if_pos rfl, p3, esm, add_sub_r]
  · obtain ⟨f1, f2, n, f3, f4, f5, f6⟩ := p4 hf
    refine ⟨fun j hj => ?_, ?_, n, f3, ?_, ?_, fun i hi => ?_⟩
    · rw [s3c j, o1 _ (by omega) (by omega), o1 _ (by omega) (by omega), en (19 + j) (by omega) (by omega), en (25 + j) (by omega) (by omega)]
      refine ⟨?_, (f1 j hj).2⟩
      by_cases e : j = k
      · rw [if_pos e, e, e13, (f1 k hk).1]
      · rw [if_neg e, en _ (by omega) (by omega)]; exact (f1 j hj).1
    · rw [s3 3, if_pos rfl, f2, e43]
    · rw [s3 4, if_neg (by omega), if_neg (by omega)]; exact f4
    · rw [en 44 (by omega) (by omega)]; exact f5
    · rw [o1 _ (by omega) (by omega)]
      exact noteP_of (f6 i hi) (fun j h1 h2 => en j (by omega) (by omega))
theorem X_fishL {k m0 : Nat} {K : St → Prop} {x5 : Int32} (X : XR T) (hk : k < 6) (ht : t < 12) (hm : m0 < 16) :
    ∀ (m s : Nat) (S : St) (q : TQ), s + m = 4 → PK T S0 d t full base S u q.1 → (∀ j, s ≤ j → j < 4 → (m0.testBit j = true ↔ atV T k t j q.1)) → q.2.1 = x5 - q.2.2 → (full → ∃ n, q.1 44 = nI n ∧ n + m ≤ 288) →
      (∀ S', PK T S0 d t full base S' u (nEnd T k (tkN T k t m s q)) → S'.1 (33 + 7 * d) 1 = S.1 (33 + 7 * d) 1 → K S') → q_X1_fish_42 d (nI k) K (m + 1) S (nI m0) x5 q.2.2 (nI s) := by
  intro m
  induction m with
  | zero =>
    intro s S q hs p _ _ _ hK
    rw [q_X1_fish_42_s, show s = 4 by omega, and_if (by decide)]
    exact PK_end p X hk hK
  | succ m ih =>
    intro s S q hs p hb hl hN hK
    have hs4 : s < 4 := by omega
    rw [q_X1_fish_42_s, and_nif (nI_ge hs4 (by omega)), f_X8_isIn, bbr, hasB_nI (by omega) (by omega)]
    obtain ⟨E, c0, n0, hub, hu, hask, hask2, hleft, hpos, hn⟩ := p.2.1
    have hat : ∀ j, s + 1 ≤ j → j < 4 → (atV T k t j (tk1 T k t s q).1 ↔ atV T k t j q.1) := fun j h1 h2 => by
      unfold atV hgt
      rw [tk1_n (by omega) (by omega), tk1_n (by omega) (by omega), tk1_n (by omega) (by omega)]
    have nx : ∀ S' x6, PK T S0 d t full base S' u (tk1 T k t s q).1 → S'.1 (33 + 7 * d) 1 = S.1 (33 + 7 * d) 1 → x6 = (tk1 T k t s q).2.2 → (tk1 T k t s q).2.1 = x5 - (tk1 T k t s q).2.2 → q_X1_fish_112 d (nI k) K (q_X1_fish_42 d (nI k) K (m + 1)) S' (nI m0) x5 x6 (nI s) := by
      intro S' x6 p' hu' e6 el
      unfold q_X1_fish_112
      rw [all_eq, nI_add, e6]
      refine ih (s + 1) S' (tk1 T k t s q) (by omega) p' (fun j h1 h2 => by rw [hat j h1 h2]; exact hb j (by omega) h2) el (fun hf => ?_) (fun S2 p2 h2 => hK S2 p2 (by rw [h2, hu']))
      obtain ⟨n, e1, e2⟩ := hN hf
      rcases tk1_44 (T := T) (k := k) (t := t) (s := s) hs4 e1 with h | h
      · exact ⟨n, h, by omega⟩
      · exact ⟨n + 1, h, by omega⟩
    have h77 : ∀ v, v = fsV T k t s q.1 q.2.1 → q_X1_fish_77 d (nI k) K (q_X1_fish_42 d (nI k) K (m + 1)) S (nI m0) x5 q.2.2 (nI s) v := by
      intro v hv
      unfold q_X1_fish_77
      refine ⟨fun c => ?_, fun c => ?_⟩
      · have e : tk1 T k t s q = q := by unfold tk1; rw [← hv, if_pos c]
        refine nx S _ ?_ rfl ?_ ?_
        · rw [e]; exact p
        · rw [e]
        · rw [e]; exact hl
      · have e : tk1 T k t s q = (wrT k s t (fsV T k t s q.1 q.2.1) q.1, q.2.1 - fsV T k t s q.1 q.2.1, q.2.2 + fsV T k t s q.1 q.2.1) := by unfold tk1; rw [← hv, if_neg c]
        obtain ⟨w, w1, w2, w3, w4⟩ := fs_rng (T := T) (k := k) (t := t) (s := s) (f := q.1) (l := q.2.1) (by rw [← hv]; exact c) (hleft s hs4).2
        rw [and_t (vp_in_nI hs4 (by omega)), and_t (vp_in_nI hs4 (by omega)), all_eq, all_eq, ncl _ (by omega), hv, w3]
        refine PK_wr p hk hs4 ht w1 w2 w4 (fun hf => ?_) (fun S' p' h' => nx S' _ ?_ h' ?_ ?_)
        · obtain ⟨n, e1, e2⟩ := hN hf
          exact ⟨n, e1, by omega⟩
        · rw [e, w3]; exact p'
        · rw [e, w3]
        · rw [e]; show q.2.1 - _ = x5 - (q.2.2 + _); rw [hl, sub_add1]
    refine ⟨fun c => h77 _ ?_, fun c => ⟨vp_in_nI hs4 (by omega), ?_⟩⟩
    · unfold fsV; rw [if_neg (fun h => c ((hb s (by omega) hs4).mpr h))]
    · rw [ncl _ (by omega), (hleft s hs4).1, min_le, ← hl]
      refine h77 _ ?_
      unfold fsV; rw [if_pos ((hb s (by omega) hs4).mp c)]
theorem X_fish {k : Nat} {f : Nat → Int32} {K : St → Prop} (X : XR T) (C : RC T) (hk : k < 6) (ht : t < 12) (p : PK T S0 d t full base S u f) (hF : frP T k (hgt f k) t) (hN : full → ∃ n, f 44 = nI n ∧ n + 4 ≤ 288)
    (hK : ∀ S', PK T S0 d t full base S' u (nTake T k t f) → S'.1 (33 + 7 * d) 1 = S.1 (33 + 7 * d) 1 → K S') : q_X1_fish d S (nI k) K := by
  obtain ⟨E, c0, n0, hub, hu, hask, hask2, hleft, hpos, hn⟩ := p.2.1
  obtain ⟨e7, h3⟩ := hask.eq hk
  obtain ⟨-, hC⟩ := C k (hgt f k) hk h3
  obtain ⟨⟨m0, hm0, e0, hb0⟩, -⟩ := hC t ht
  have hat : ∀ j, j < 4 → (m0.testBit j = true ↔ atV T k t j f) := fun j hj => by
    rw [hb0 j hj]
    unfold atV
    rw [(hpos j hj).1, (hpos j hj).2]
    exact ⟨fun h => h.2, fun h => ⟨hF, h⟩⟩
  unfold q_X1_fish
  rw [and_t (vp_in_nI hk (by omega)), ncl _ (by omega), hask2 k hk, e7, c0, f_X0_met E hk h3 ht, e0, neq _ _ (by omega) (by omega)]
  refine ⟨fun c => ?_, fun c => ?_⟩
  · refine hK S ?_ rfl
    rw [nTake_id]
    · exact p
    · intro s hs h
      have := (hat s hs).mpr h
      rw [c] at this
      simp at this
  · rw [and_t (vp_in_nI hk (by omega)), all_eq, E (9 + k) (by omega) (by omega)]
    exact ⟨5, X_fishL X hk ht hm0 4 0 S (f, nI 3 * T.1 (9 + k) 4, nI 0) (by omega) p (fun j _ h => hat j h) (by rw [s0]) hN hK⟩
end FP
