def ob_write (Rel : St → St → Prop) : Prop := ∀ SX SM : St, Rel SX SM → ∀ (a1 : Int64) (a2 : Int32),  q_X8_write SX a1 a2 (fun r SX' => q_X9_write SM a1 a2 (fun r' SM' => r = r' ∧ Rel SX' SM'))
def ob_erase (Rel : St → St → Prop) : Prop := ∀ SX SM : St, Rel SX SM → q_X8_erase SX (fun r SX' => q_X9_erase SM (fun r' SM' => r = r' ∧ Rel SX' SM'))
def ob_fault (Rel : St → St → Prop) : Prop := ∀ SX SM : St, Rel SX SM → q_X8_fault SX (fun r SX' => q_X9_fault SM (fun r' SM' => r = r' ∧ Rel SX' SM'))
def ob_cliff (Rel : St → St → Prop) : Prop := ∀ SX SM : St, Rel SX SM → q_X8_cliff SX (fun r SX' => q_X9_cliff SM (fun r' SM' => r = r' ∧ Rel SX' SM'))
def ob_wind (Rel : St → St → Prop) : Prop := ∀ SX SM : St, Rel SX SM → ∀ (a1 : Int32) (a2 : Int32) (a3 : Int32),  q_X8_wind SX a1 a2 a3 (fun r => q_X9_wind SM a1 a2 a3 (fun r' => r = r' ∧ Rel SX SM))
def ob_shoal (Rel : St → St → Prop) : Prop := ∀ SX SM : St, Rel SX SM → ∀ (a1 : Int32) (a2 : Int32),  q_X8_shoal SX a1 a2 (fun r => q_X9_shoal SM a1 a2 (fun r' => r = r' ∧ Rel SX SM))
def ob_ask (Rel : St → St → Prop) : Prop := ∀ SX SM : St, Rel SX SM → ∀ (a1 : Int32) (a2 : Int32),  q_X8_ask SX a1 a2 (fun r SX' => q_X9_ask SM a1 a2 (fun r' SM' => r = r' ∧ Rel SX' SM'))
def ob_go (Rel : St → St → Prop) : Prop := ∀ SX SM : St, Rel SX SM → ∀ (a1 : Int32),  q_X8_go SX a1 (fun r SX' => q_X9_go SM a1 (fun r' SM' => r = r' ∧ Rel SX' SM'))
def ob_kite (Rel : St → St → Prop) : Prop := ∀ SX SM : St, Rel SX SM → ∀ (a1 : Int32) (a2 : Int32),  q_X8_kite SX a1 a2 (fun r => q_X9_kite SM a1 a2 (fun r' => r = r' ∧ Rel SX SM))
def ob_where (Rel : St → St → Prop) : Prop := ∀ SX SM : St, Rel SX SM → ∀ (a1 : Int32) (a2 : Int32) (a3 : Int32),  q_X8_where SX a1 a2 a3 (fun r => q_X9_where SM a1 a2 a3 (fun r' => r = r' ∧ Rel SX SM))
def ob_hinders (Rel : St → St → Prop) : Prop := ∀ SX SM : St, Rel SX SM → ∀ (a1 : Int32) (a2 : Int32) (a3 : Int32),  q_X8_hinders SX a1 a2 a3 (fun r => q_X9_hinders SM a1 a2 a3 (fun r' => r = r' ∧ Rel SX SM))
def ob_tangle (Rel : St → St → Prop) : Prop := ∀ SX SM : St, Rel SX SM → ∀ (a1 : Int32) (a2 : Int32) (a3 : Int32) (a4 : Int32),  q_X8_tangle SX a1 a2 a3 a4 (fun r => q_X9_tangle SM a1 a2 a3 a4 (fun r' => r = r' ∧ Rel SX SM))
def ob_taking (Rel : St → St → Prop) : Prop := ∀ SX SM : St, Rel SX SM → ∀ (a1 : Int32) (a2 : Int32),  q_X8_taking SX a1 a2 (fun r => q_X9_taking SM a1 a2 (fun r' => r = r' ∧ Rel SX SM))
def ob_keep (Rel : St → St → Prop) : Prop := ∀ SX SM : St, Rel SX SM → ∀ (a1 : Int32),  q_X8_keep SX a1 (fun r SX' => q_X9_keep SM a1 (fun r' SM' => r = r' ∧ Rel SX' SM'))
def ob_back (Rel : St → St → Prop) : Prop := ∀ SX SM : St, Rel SX SM → ∀ (a1 : Int32),  q_X8_back SX a1 (fun r SX' => q_X9_back SM a1 (fun r' SM' => r = r' ∧ Rel SX' SM'))
def ob_best (Rel : St → St → Prop) : Prop := ∀ SX SM : St, Rel SX SM → ∀ (a1 : Int32),  q_X8_best SX a1 (fun r SX' => q_X9_best SM a1 (fun r' SM' => r = r' ∧ Rel SX' SM'))
def ob_allDay (Rel : St → St → Prop) : Prop := ∀ SX SM : St, Rel SX SM → ∀ (a1 : Int32),  q_X8_allDay SX a1 (fun r SX' => q_X9_allDay SM a1 (fun r' SM' => r = r' ∧ Rel SX' SM'))
def ob_laws (Rel : St → St → Prop) : Prop := ∀ SX SM : St, Rel SX SM → ∀ (a1 : Int32),  q_X8_laws SX a1 (fun r SX' => q_X9_laws SM a1 (fun r' SM' => r = r' ∧ Rel SX' SM'))
def ob_food (Rel : St → St → Prop) : Prop := ∀ SX SM : St, Rel SX SM → ∀ (a1 : Int32) (a2 : Int32) (a3 : Int32) (a4 : Int32) (a5 : Int32) (a6 : Int32),  q_X8_food SX a1 a2 a3 a4 a5 a6 (fun r SX' => q_X9_food SM a1 a2 a3 a4 a5 a6 (fun r' => r = r' ∧ Rel SX' SM))
def ob_cut (Rel : St → St → Prop) : Prop := ∀ SX SM : St, Rel SX SM → ∀ (a1 : Int32) (a2 : Int32) (a3 : Int32) (a4 : Int32) (a5 : Int32),  q_X8_cut SX a1 a2 a3 a4 a5 (fun r SX' => q_X9_cut SM a1 a2 a3 a4 a5 (fun r' => r = r' ∧ Rel SX' SM))
def ob_share (Rel : St → St → Prop) : Prop := ∀ SX SM : St, Rel SX SM → ∀ (a1 : Int32) (a2 : Int32),  q_X8_share SX a1 a2 (fun r => q_X9_share SM a1 a2 (fun r' => r = r' ∧ Rel SX SM))
def ob_count (Rel : St → St → Prop) : Prop := ∀ SX SM : St, Rel SX SM → ∀ (a1 : Int32),  q_X8_count SX a1 (fun r => q_X9_count SM a1 (fun r' => r = r' ∧ Rel SX SM))
def Obs (Rel : St → St → Prop) : Prop := ob_write Rel ∧ ob_erase Rel ∧ ob_fault Rel ∧ ob_cliff Rel ∧ ob_wind Rel ∧ ob_shoal Rel ∧ ob_ask Rel ∧ ob_go Rel ∧ ob_kite Rel ∧ ob_where Rel ∧ ob_hinders Rel ∧ ob_tangle Rel ∧ ob_taking Rel ∧ ob_keep Rel ∧ ob_back Rel ∧ ob_best Rel ∧ ob_allDay Rel ∧ ob_laws Rel ∧ ob_food Rel ∧ ob_cut Rel ∧ ob_share Rel ∧ ob_count Rel
theorem lg_self (x : Int64) : lg_cmp x x = 0 := by simp [lg_cmp]
theorem law_next {L i : Nat} (hL : L ≤ 448) (hi : i ≤ L) (h : ¬ nI L - 7 < nI i) : i + 7 ≤ L := by
  have h7 : (7 : Int32) = nI 7 := rfl
  rw [Int32.lt_iff_toInt_lt, h7, pk_sub_toInt (by omega) (by omega), nI_toInt (by omega)] at h
  omega
theorem law_in {L i j : Nat} {x v : Int32} (hL : L ≤ 448) (h : i + 7 ≤ L) (hx : x = nI i) (hv : v = nI j) (hj : j < 7) : vp_in (x + v) L := by
  rw [hx, hv, nI_add]
  exact vp_in_nI (by omega) (by omega)
set_option maxRecDepth 100000 in
set_option maxHeartbeats 8000000 in
theorem law_loop {p : Program} {l : Launch} {e : Env} {s : State} {m : MethodId} {below : List Frame} {meth : Method} {c : Code} {b L : Nat} {xs : Nat → Int32} {Rel : St → St → Prop} {ZX ZM : ZT} (hL : L ≤ 448) (C0 : lw_At p s m meth c b L xs) (obs : Obs Rel) (hiX : injZ 68 ZX) (hiM : injZ 10 ZM) (hgX : gXa (fun q : Nat => s.heap.size ≤ q) ZX s) (eD : ZM.1 = ZX.1) (ecy : ZM.2.1 = ZX.2.1) (hXA : ∀ c, c < 68 → s.heap.size ≤ ZX.2.2.1 c) (hMA : ∀ c, c < 10 → s.heap.size ≤ ZM.2.2.1 c) (hdis : ∀ i, i < 68 → ∀ j, j < 10 → ZX.2.2.1 i ≠ ZM.2.2.1 j) :
    ∀ (n i : Nat) (x3 : Int32), i ≤ L → L < i + n → x3 = nI i → ∀ (SX SM : St), Rel SX SM → ∀ (H : Heap) (locs : List Loc), va_P ZX.1 vwCl (wl shX 68 ZX SX) H → va_P ZX.1 vwCl (wl shM 10 ZM SM) H → va_S (fun q : Nat => s.heap.size ≤ q) s.heap H locs → ∀ (ls : Array Slot), lv_has ls 4 [(0, .ref b), (1, .ref (ZX.2.2.1 0)), (2, .ref (ZM.2.2.1 0)), (3, .int x3)] → W p l e room_1 s m #[Value.ref b] below meth c H locs 78 8116 (lw_Z below #[Value.ref b] s) (F0 m 18 ls []) := by
  obtain ⟨hx, hb, hr, hml, hown, hts, hX, hbl, hlocks, hgv⟩ := C0
  have hbA : ¬ (fun q : Nat => s.heap.size ≤ q) b := Nat.not_le.mpr hbl
  have F : CallFix p m c code 4 s #[Value.ref b] lw_tbl R_law := ⟨hx, hb, hml, hown, hts⟩
  have hKX : va_K ZX.1 vwCl (tysG ZX.2.1) s := hgX.1
  have hKM : va_K ZM.1 vwCl (tysG ZM.2.1) s := by rw [eD, ecy]; exact hKX
  have aX : ∀ q, aa 68 ZX q → (fun q : Nat => s.heap.size ≤ q) q := fun q hq => by
    obtain ⟨c, hc, he⟩ := hq
    rw [← he]
    exact hXA c hc
  have aM : ∀ q, aa 10 ZM q → (fun q : Nat => s.heap.size ≤ q) q := fun q hq => by
    obtain ⟨c, hc, he⟩ := hq
    rw [← he]
    exact hMA c hc
  have keyX : ∀ (S : St) (k : Nat) (q : Nat × va_E), (wl shX 68 ZX S)[k]? = some q → ∃ c, c < 68 ∧ ZX.2.2.1 c = q.1 := fun S k q hk => (wl_D (sh := shX) (S := S) hiX).2 k q hk
  have keyM : ∀ (S : St) (k : Nat) (q : Nat × va_E), (wl shM 10 ZM S)[k]? = some q → ∃ c, c < 10 ∧ ZM.2.2.1 c = q.1 := fun S k q hk => (wl_D (sh := shM) (S := S) hiM).2 k q hk
  have dX : ∀ (S : St) (k : Nat) (q : Nat × va_E), (wl shM 10 ZM S)[k]? = some q → ¬ aa 68 ZX q.1 := fun S k q hk hq => by
    obtain ⟨c1, h1, e1⟩ := keyM S k q hk
    obtain ⟨c2, h2, e2⟩ := hq
    exact hdis c2 h2 c1 h1 (e2.trans e1.symm)
  have dM : ∀ (S : St) (k : Nat) (q : Nat × va_E), (wl shX 68 ZX S)[k]? = some q → ¬ aa 10 ZM q.1 := fun S k q hk hq => by
    obtain ⟨c1, h1, e1⟩ := keyX S k q hk
    obtain ⟨c2, h2, e2⟩ := hq
    exact hdis c1 h1 c2 h2 (e1.trans e2.symm)
  intro n
  induction n with
  | zero => intro i x3 h1 h2; exact absurd h2 (by omega)
  | succ n ih =>
    intro i x3 hi hin ex3 SX SM hR H locs hPX hPM hS ls hl
    refine lv_iload_n hx hb dL_law_18 rfl (lv_at hl 3 rfl) ?_
    refine lv_aload_n hx hb dL_law_19 rfl (lv_at hl 0 rfl) ?_
    refine va_slen hx hb hX hbl hbA hS dL_law_20 ?_
    refine lv_bipush (v := (7 : Int32)) hx hb dL_law_21 (by decide) ?_
    refine lv_isub hx hb dL_law_23 ?_
    refine lv_icmp_gt (tgt := 892) hx hb dL_law_24 (by decide) (fun c_1 => ?_) (fun c_1 => ?_)
    · refine lv_iconst (v := 1) hx hb dL_law_892 (by decide) ?_
      refine va_forget (fun q hq => hS.2.2 q hq) ?_
      refine W.widen (k := 600000) (n := 7302250) (Nat.le_of_ble_eq_true rfl) (Nat.le_of_ble_eq_true rfl) ?_
      exact lw_ret hx hb hr hlocks dL_law_893
    have hnx : i + 7 ≤ L := law_next hL hi (by rw [ex3] at c_1; exact c_1)
    have in_1 : vp_in (x3 + (1 : Int32)) L := law_in (j := 1) hL hnx ex3 rfl (by omega)
    have in_2 : vp_in (x3 + (2 : Int32)) L := law_in (j := 2) hL hnx ex3 rfl (by omega)
    have in_3 : vp_in (x3 + (3 : Int32)) L := law_in (j := 3) hL hnx ex3 rfl (by omega)
    have in_4 : vp_in (x3 + (4 : Int32)) L := law_in (j := 4) hL hnx ex3 rfl (by omega)
    have in_5 : vp_in (x3 + (5 : Int32)) L := law_in (j := 5) hL hnx ex3 rfl (by omega)
    have in_6 : vp_in (x3 + (6 : Int32)) L := law_in (j := 6) hL hnx ex3 rfl (by omega)
    have in_0 : vp_in x3 L := by rw [ex3]; exact vp_in_nI (by omega) (by omega)
    have tail : ∀ (SX SM : St) (H : Heap) (locs : List Loc), Rel SX SM → va_P ZX.1 vwCl (wl shX 68 ZX SX) H → va_P ZX.1 vwCl (wl shM 10 ZM SM) H → va_S (fun q : Nat => s.heap.size ≤ q) s.heap H locs → W p l e room_1 s m #[Value.ref b] below meth c H locs 78 8116 (lw_Z below #[Value.ref b] s) (F0 m 886 ls []) := by
      intro SX SM H locs hR hPX hPM hS
      obtain ⟨x4, ex4⟩ : ∃ y_ : Int32, y_ = x3 + (7 : Int32) := ⟨_, rfl⟩
      refine lv_iinc (v := x4) (lv' := [(3, .int x4), (0, .ref b), (1, .ref (ZX.2.2.1 0)), (2, .ref (ZM.2.2.1 0))]) hx hb dL_law_886 hl (k := 3) rfl (by rw [ex4]; rfl) (by decide) rfl (fun ls hl => ?_)
      refine lv_goto (tgt := 18) hx hb dL_law_889 (by decide) ?_
      exact ih (i + 7) x4 hnx (by omega) (by rw [ex4, ex3, show (7 : Int32) = nI 7 from rfl, nI_add]) SX SM hR H locs hPX hPM hS ls (lv_sub hl [1, 2, 3, 0] rfl)
    refine lv_aload_n hx hb dL_law_27 rfl (lv_at hl 0 rfl) ?_
    refine lv_iload_n hx hb dL_law_28 rfl (lv_at hl 3 rfl) ?_
    refine va_sld hx hb hX hbl hbA hS in_0 dL_law_29 ?_
    refine lv_bipush (v := (31 : Int32)) hx hb dL_law_30 (by decide) ?_
    refine lv_iand hx hb dL_law_32 ?_
    refine lv_topi (fun sw esw => ?_)
    by_cases cs_0 : sw = (nI 0)
    · rw [cs_0]
      refine lv_tableIn (tgt := 136) hx hb dL_law_33 (by decide) (by decide) rfl (by decide) ?_
      refine lv_aload_n hx hb dL_law_136 rfl (lv_at hl 1 rfl) ?_
      refine lv_aload_n hx hb dL_law_137 rfl (lv_at hl 0 rfl) ?_
      refine lv_iload_n hx hb dL_law_138 rfl (lv_at hl 3 rfl) ?_
      refine lv_iconst (v := (nI 1)) hx hb dL_law_139 (by decide) ?_
      refine lv_iadd hx hb dL_law_140 ?_
      refine va_sld hx hb hX hbl hbA hS in_1 dL_law_141 ?_
      refine lv_i2l hx hb dL_law_142 rfl ?_
      refine lv_bipush (v := (nI 32)) hx hb dL_law_143 (by decide) ?_
      refine lv_lshl hx hb dL_law_145 rfl ?_
      refine lv_aload_n hx hb dL_law_146 rfl (lv_at hl 0 rfl) ?_
      refine lv_iload_n hx hb dL_law_147 rfl (lv_at hl 3 rfl) ?_
      refine lv_iconst (v := (nI 2)) hx hb dL_law_148 (by decide) ?_
      refine lv_iadd hx hb dL_law_149 ?_
      refine va_sld hx hb hX hbl hbA hS in_2 dL_law_150 ?_
      refine lv_i2l hx hb dL_law_151 rfl ?_
      refine lv_ldc2 (v := (4294967295 : Int64)) hx hb hown (hts _ (BIG_in _ kCO_L_13)) dL_law_152 ?_
      refine lv_land hx hb dL_law_155 ?_
      refine lv_lor hx hb dL_law_156 ?_
      refine lv_aload_n hx hb dL_law_157 rfl (lv_at hl 0 rfl) ?_
      refine lv_iload_n hx hb dL_law_158 rfl (lv_at hl 3 rfl) ?_
      refine lv_iconst (v := (nI 3)) hx hb dL_law_159 (by decide) ?_
      refine lv_iadd hx hb dL_law_160 ?_
      refine va_sld hx hb hX hbl hbA hS in_3 dL_law_161 ?_
      have h := obs.1 SX SM hR (((xs (x3 + (nI 1)).toNatClampNeg).toInt64 <<< ((nI 32).toInt64 &&& 63)) ||| ((xs (x3 + (nI 2)).toNatClampNeg).toInt64 &&& (4294967295 : Int64))) (xs (x3 + (nI 3)).toNatClampNeg)
      refine x_i (x_V (gokX hiX) (c0 := 0) (As := [.long (((xs (x3 + (nI 1)).toNatClampNeg).toInt64 <<< ((nI 32).toInt64 &&& 63)) ||| ((xs (x3 + (nI 2)).toNatClampNeg).toInt64 &&& (4294967295 : Int64))), .int (xs (x3 + (nI 3)).toNatClampNeg)]) (rest := []) F BIG_in hKX hPX (fun U hU hW => hgX.to aX hS hU hW) (c_X8_write hiX SX (((xs (x3 + (nI 1)).toNatClampNeg).toInt64 <<< ((nI 32).toInt64 &&& 63)) ||| ((xs (x3 + (nI 2)).toNatClampNeg).toInt64 &&& (4294967295 : Int64))) (xs (x3 + (nI 3)).toNatClampNeg) _ h) cal_X8_write kML_L_15 (by decide) rfl cfX8 ⟨rfl, rfl, Nat.le_of_ble_eq_true rfl, Nat.le_of_ble_eq_true rfl⟩ rfl rfl hl.1 (Nat.le_of_ble_eq_true rfl) ⟨Nat.le_of_ble_eq_true rfl, Nat.le_of_ble_eq_true rfl⟩ dL_law_162) hS aX hPM (dX SM) (fun r_0 SX1 H locs h hPX hPM hS => ?_)
      refine lv_aload_n hx hb dL_law_165 rfl (lv_at hl 2 rfl) ?_
      refine lv_aload_n hx hb dL_law_166 rfl (lv_at hl 0 rfl) ?_
      refine lv_iload_n hx hb dL_law_167 rfl (lv_at hl 3 rfl) ?_
      refine lv_iconst (v := (nI 1)) hx hb dL_law_168 (by decide) ?_
      refine lv_iadd hx hb dL_law_169 ?_
      refine va_sld hx hb hX hbl hbA hS in_1 dL_law_170 ?_
      refine lv_i2l hx hb dL_law_171 rfl ?_
      refine lv_bipush (v := (nI 32)) hx hb dL_law_172 (by decide) ?_
      refine lv_lshl hx hb dL_law_174 rfl ?_
      refine lv_aload_n hx hb dL_law_175 rfl (lv_at hl 0 rfl) ?_
      refine lv_iload_n hx hb dL_law_176 rfl (lv_at hl 3 rfl) ?_
      refine lv_iconst (v := (nI 2)) hx hb dL_law_177 (by decide) ?_
      refine lv_iadd hx hb dL_law_178 ?_
      refine va_sld hx hb hX hbl hbA hS in_2 dL_law_179 ?_
      refine lv_i2l hx hb dL_law_180 rfl ?_
      refine lv_ldc2 (v := (4294967295 : Int64)) hx hb hown (hts _ (BIG_in _ kCO_L_13)) dL_law_181 ?_
      refine lv_land hx hb dL_law_184 ?_
      refine lv_lor hx hb dL_law_185 ?_
      refine lv_aload_n hx hb dL_law_186 rfl (lv_at hl 0 rfl) ?_
      refine lv_iload_n hx hb dL_law_187 rfl (lv_at hl 3 rfl) ?_
      refine lv_iconst (v := (nI 3)) hx hb dL_law_188 (by decide) ?_
      refine lv_iadd hx hb dL_law_189 ?_
      refine va_sld hx hb hX hbl hbA hS in_3 dL_law_190 ?_
      refine x_i (x_V (gokM hiM) (c0 := 0) (As := [.long (((xs (x3 + (nI 1)).toNatClampNeg).toInt64 <<< ((nI 32).toInt64 &&& 63)) ||| ((xs (x3 + (nI 2)).toNatClampNeg).toInt64 &&& (4294967295 : Int64))), .int (xs (x3 + (nI 3)).toNatClampNeg)]) (rest := [.int r_0]) F BIG_in hKM (show va_P ZM.1 vwCl _ H by rw [eD]; exact hPM) (fun U hU hW => va_K.moved hW.alike hKM) (c_X9_write hiM SM (((xs (x3 + (nI 1)).toNatClampNeg).toInt64 <<< ((nI 32).toInt64 &&& 63)) ||| ((xs (x3 + (nI 2)).toNatClampNeg).toInt64 &&& (4294967295 : Int64))) (xs (x3 + (nI 3)).toNatClampNeg) _ h) cal_X9_write kML_L_19 (by decide) rfl cfX9 ⟨rfl, rfl, Nat.le_of_ble_eq_true rfl, Nat.le_of_ble_eq_true rfl⟩ rfl rfl hl.1 (Nat.le_of_ble_eq_true rfl) ⟨Nat.le_of_ble_eq_true rfl, Nat.le_of_ble_eq_true rfl⟩ dL_law_191) hS aM (show va_P ZM.1 vwCl (wl shX 68 ZX SX1) H by rw [eD]; exact hPX) (dM SX1) (fun r_1 SM1 H locs h hPM hPX hS => ?_)
      rw [eD] at hPM hPX
      refine lv_icmp_eq (tgt := 886) hx hb dL_law_194 (by decide) (fun _ => ?_) (fun c_2 => absurd h.1 c_2)
      exact tail SX1 SM1 H locs h.2 hPX hPM hS
    by_cases cs_1 : sw = (nI 1)
    · rw [cs_1]
      refine lv_tableIn (tgt := 199) hx hb dL_law_33 (by decide) (by decide) rfl (by decide) ?_
      refine lv_aload_n hx hb dL_law_199 rfl (lv_at hl 1 rfl) ?_
      have h := obs.2.1 SX SM hR 
      refine x_i (x_V (gokX hiX) (c0 := 0) (As := []) (rest := []) F BIG_in hKX hPX (fun U hU hW => hgX.to aX hS hU hW) (c_X8_erase hiX SX  _ h) cal_X8_erase kML_L_20 (by decide) rfl cfX8 ⟨rfl, rfl, Nat.le_of_ble_eq_true rfl, Nat.le_of_ble_eq_true rfl⟩ rfl rfl hl.1 (Nat.le_of_ble_eq_true rfl) ⟨Nat.le_of_ble_eq_true rfl, Nat.le_of_ble_eq_true rfl⟩ dL_law_200) hS aX hPM (dX SM) (fun r_0 SX1 H locs h hPX hPM hS => ?_)
      refine lv_aload_n hx hb dL_law_203 rfl (lv_at hl 2 rfl) ?_
      refine x_i (x_V (gokM hiM) (c0 := 0) (As := []) (rest := [.int r_0]) F BIG_in hKM (show va_P ZM.1 vwCl _ H by rw [eD]; exact hPM) (fun U hU hW => va_K.moved hW.alike hKM) (c_X9_erase hiM SM  _ h) cal_X9_erase kML_L_24 (by decide) rfl cfX9 ⟨rfl, rfl, Nat.le_of_ble_eq_true rfl, Nat.le_of_ble_eq_true rfl⟩ rfl rfl hl.1 (Nat.le_of_ble_eq_true rfl) ⟨Nat.le_of_ble_eq_true rfl, Nat.le_of_ble_eq_true rfl⟩ dL_law_204) hS aM (show va_P ZM.1 vwCl (wl shX 68 ZX SX1) H by rw [eD]; exact hPX) (dM SX1) (fun r_1 SM1 H locs h hPM hPX hS => ?_)
      rw [eD] at hPM hPX
      refine lv_icmp_eq (tgt := 886) hx hb dL_law_207 (by decide) (fun _ => ?_) (fun c_2 => absurd h.1 c_2)
      exact tail SX1 SM1 H locs h.2 hPX hPM hS
    by_cases cs_2 : sw = (nI 2)
    · rw [cs_2]
      refine lv_tableIn (tgt := 212) hx hb dL_law_33 (by decide) (by decide) rfl (by decide) ?_
      refine lv_aload_n hx hb dL_law_212 rfl (lv_at hl 1 rfl) ?_
      have h := obs.2.2.1 SX SM hR 
      refine x_i (x_V (gokX hiX) (c0 := 0) (As := []) (rest := []) F BIG_in hKX hPX (fun U hU hW => hgX.to aX hS hU hW) (c_X8_fault hiX SX  _ h) cal_X8_fault kML_L_25 (by decide) rfl cfX8 ⟨rfl, rfl, Nat.le_of_ble_eq_true rfl, Nat.le_of_ble_eq_true rfl⟩ rfl rfl hl.1 (Nat.le_of_ble_eq_true rfl) ⟨Nat.le_of_ble_eq_true rfl, Nat.le_of_ble_eq_true rfl⟩ dL_law_213) hS aX hPM (dX SM) (fun r_0 SX1 H locs h hPX hPM hS => ?_)
      refine lv_aload_n hx hb dL_law_216 rfl (lv_at hl 2 rfl) ?_
      refine x_i (x_V (gokM hiM) (c0 := 0) (As := []) (rest := [.int r_0]) F BIG_in hKM (show va_P ZM.1 vwCl _ H by rw [eD]; exact hPM) (fun U hU hW => va_K.moved hW.alike hKM) (c_X9_fault hiM SM  _ h) cal_X9_fault kML_L_28 (by decide) rfl cfX9 ⟨rfl, rfl, Nat.le_of_ble_eq_true rfl, Nat.le_of_ble_eq_true rfl⟩ rfl rfl hl.1 (Nat.le_of_ble_eq_true rfl) ⟨Nat.le_of_ble_eq_true rfl, Nat.le_of_ble_eq_true rfl⟩ dL_law_217) hS aM (show va_P ZM.1 vwCl (wl shX 68 ZX SX1) H by rw [eD]; exact hPX) (dM SX1) (fun r_1 SM1 H locs h hPM hPX hS => ?_)
      rw [eD] at hPM hPX
      refine lv_icmp_eq (tgt := 886) hx hb dL_law_220 (by decide) (fun _ => ?_) (fun c_2 => absurd h.1 c_2)
      exact tail SX1 SM1 H locs h.2 hPX hPM hS
    by_cases cs_3 : sw = (nI 3)
    · rw [cs_3]
      refine lv_tableIn (tgt := 225) hx hb dL_law_33 (by decide) (by decide) rfl (by decide) ?_
      refine lv_aload_n hx hb dL_law_225 rfl (lv_at hl 1 rfl) ?_
      have h := obs.2.2.2.1 SX SM hR 
      refine x_i (x_V (gokX hiX) (c0 := 0) (As := []) (rest := []) F BIG_in hKX hPX (fun U hU hW => hgX.to aX hS hU hW) (c_X8_cliff hiX SX  _ h) cal_X8_cliff kML_L_29 (by decide) rfl cfX8 ⟨rfl, rfl, Nat.le_of_ble_eq_true rfl, Nat.le_of_ble_eq_true rfl⟩ rfl rfl hl.1 (Nat.le_of_ble_eq_true rfl) ⟨Nat.le_of_ble_eq_true rfl, Nat.le_of_ble_eq_true rfl⟩ dL_law_226) hS aX hPM (dX SM) (fun r_0 SX1 H locs h hPX hPM hS => ?_)
      refine lv_aload_n hx hb dL_law_229 rfl (lv_at hl 2 rfl) ?_
      refine x_i (x_V (gokM hiM) (c0 := 0) (As := []) (rest := [.int r_0]) F BIG_in hKM (show va_P ZM.1 vwCl _ H by rw [eD]; exact hPM) (fun U hU hW => va_K.moved hW.alike hKM) (c_X9_cliff hiM SM  _ h) cal_X9_cliff kML_L_32 (by decide) rfl cfX9 ⟨rfl, rfl, Nat.le_of_ble_eq_true rfl, Nat.le_of_ble_eq_true rfl⟩ rfl rfl hl.1 (Nat.le_of_ble_eq_true rfl) ⟨Nat.le_of_ble_eq_true rfl, Nat.le_of_ble_eq_true rfl⟩ dL_law_230) hS aM (show va_P ZM.1 vwCl (wl shX 68 ZX SX1) H by rw [eD]; exact hPX) (dM SX1) (fun r_1 SM1 H locs h hPM hPX hS => ?_)
      rw [eD] at hPM hPX
      refine lv_icmp_eq (tgt := 886) hx hb dL_law_233 (by decide) (fun _ => ?_) (fun c_2 => absurd h.1 c_2)
      exact tail SX1 SM1 H locs h.2 hPX hPM hS
    by_cases cs_4 : sw = (nI 4)
    · rw [cs_4]
      refine lv_tableIn (tgt := 238) hx hb dL_law_33 (by decide) (by decide) rfl (by decide) ?_
      refine lv_aload_n hx hb dL_law_238 rfl (lv_at hl 1 rfl) ?_
      refine lv_aload_n hx hb dL_law_239 rfl (lv_at hl 0 rfl) ?_
      refine lv_iload_n hx hb dL_law_240 rfl (lv_at hl 3 rfl) ?_
      refine lv_iconst (v := (nI 1)) hx hb dL_law_241 (by decide) ?_
      refine lv_iadd hx hb dL_law_242 ?_
      refine va_sld hx hb hX hbl hbA hS in_1 dL_law_243 ?_
      refine lv_aload_n hx hb dL_law_244 rfl (lv_at hl 0 rfl) ?_
      refine lv_iload_n hx hb dL_law_245 rfl (lv_at hl 3 rfl) ?_
      refine lv_iconst (v := (nI 2)) hx hb dL_law_246 (by decide) ?_
      refine lv_iadd hx hb dL_law_247 ?_
      refine va_sld hx hb hX hbl hbA hS in_2 dL_law_248 ?_
      refine lv_aload_n hx hb dL_law_249 rfl (lv_at hl 0 rfl) ?_
      refine lv_iload_n hx hb dL_law_250 rfl (lv_at hl 3 rfl) ?_
      refine lv_iconst (v := (nI 3)) hx hb dL_law_251 (by decide) ?_
      refine lv_iadd hx hb dL_law_252 ?_
      refine va_sld hx hb hX hbl hbA hS in_3 dL_law_253 ?_
      have h := obs.2.2.2.2.1 SX SM hR (xs (x3 + (nI 1)).toNatClampNeg) (xs (x3 + (nI 2)).toNatClampNeg) (xs (x3 + (nI 3)).toNatClampNeg)
      refine x_i (x_V (gokX hiX) (c0 := 0) (As := [.int (xs (x3 + (nI 1)).toNatClampNeg), .int (xs (x3 + (nI 2)).toNatClampNeg), .int (xs (x3 + (nI 3)).toNatClampNeg)]) (rest := []) F BIG_in hKX hPX (fun U hU hW => hgX.to aX hS hU hW) (c_X8_wind hiX SX (xs (x3 + (nI 1)).toNatClampNeg) (xs (x3 + (nI 2)).toNatClampNeg) (xs (x3 + (nI 3)).toNatClampNeg) _ h) cal_X8_wind kML_L_33 (by decide) rfl cfX8 ⟨rfl, rfl, Nat.le_of_ble_eq_true rfl, Nat.le_of_ble_eq_true rfl⟩ rfl rfl hl.1 (Nat.le_of_ble_eq_true rfl) ⟨Nat.le_of_ble_eq_true rfl, Nat.le_of_ble_eq_true rfl⟩ dL_law_254) hS aX hPM (dX SM) (fun r_0 SX1 H locs h hPX hPM hS => ?_)
      obtain ⟨eS_, h⟩ := h
      rw [eS_] at hPX
      refine lv_aload_n hx hb dL_law_257 rfl (lv_at hl 2 rfl) ?_
      refine lv_aload_n hx hb dL_law_258 rfl (lv_at hl 0 rfl) ?_
      refine lv_iload_n hx hb dL_law_259 rfl (lv_at hl 3 rfl) ?_
      refine lv_iconst (v := (nI 1)) hx hb dL_law_260 (by decide) ?_
      refine lv_iadd hx hb dL_law_261 ?_
      refine va_sld hx hb hX hbl hbA hS in_1 dL_law_262 ?_
      refine lv_aload_n hx hb dL_law_263 rfl (lv_at hl 0 rfl) ?_
      refine lv_iload_n hx hb dL_law_264 rfl (lv_at hl 3 rfl) ?_
      refine lv_iconst (v := (nI 2)) hx hb dL_law_265 (by decide) ?_
      refine lv_iadd hx hb dL_law_266 ?_
      refine va_sld hx hb hX hbl hbA hS in_2 dL_law_267 ?_
      refine lv_aload_n hx hb dL_law_268 rfl (lv_at hl 0 rfl) ?_
      refine lv_iload_n hx hb dL_law_269 rfl (lv_at hl 3 rfl) ?_
      refine lv_iconst (v := (nI 3)) hx hb dL_law_270 (by decide) ?_
      refine lv_iadd hx hb dL_law_271 ?_
      refine va_sld hx hb hX hbl hbA hS in_3 dL_law_272 ?_
      refine x_i (x_V (gokM hiM) (c0 := 0) (As := [.int (xs (x3 + (nI 1)).toNatClampNeg), .int (xs (x3 + (nI 2)).toNatClampNeg), .int (xs (x3 + (nI 3)).toNatClampNeg)]) (rest := [.int r_0]) F BIG_in hKM (show va_P ZM.1 vwCl _ H by rw [eD]; exact hPM) (fun U hU hW => va_K.moved hW.alike hKM) (c_X9_wind hiM SM (xs (x3 + (nI 1)).toNatClampNeg) (xs (x3 + (nI 2)).toNatClampNeg) (xs (x3 + (nI 3)).toNatClampNeg) _ h) cal_X9_wind kML_L_37 (by decide) rfl cfX9 ⟨rfl, rfl, Nat.le_of_ble_eq_true rfl, Nat.le_of_ble_eq_true rfl⟩ rfl rfl hl.1 (Nat.le_of_ble_eq_true rfl) ⟨Nat.le_of_ble_eq_true rfl, Nat.le_of_ble_eq_true rfl⟩ dL_law_273) hS aM (show va_P ZM.1 vwCl (wl shX 68 ZX SX) H by rw [eD]; exact hPX) (dM SX) (fun r_1 SM1 H locs h hPM hPX hS => ?_)
      obtain ⟨eS_, h⟩ := h
      rw [eS_] at hPM
      rw [eD] at hPM hPX
      refine lv_icmp_eq (tgt := 886) hx hb dL_law_276 (by decide) (fun _ => ?_) (fun c_2 => absurd h.1 c_2)
      exact tail SX SM H locs h.2 hPX hPM hS
    by_cases cs_5 : sw = (nI 5)
    · rw [cs_5]
      refine lv_tableIn (tgt := 281) hx hb dL_law_33 (by decide) (by decide) rfl (by decide) ?_
      refine lv_aload_n hx hb dL_law_281 rfl (lv_at hl 1 rfl) ?_
      refine lv_aload_n hx hb dL_law_282 rfl (lv_at hl 0 rfl) ?_
      refine lv_iload_n hx hb dL_law_283 rfl (lv_at hl 3 rfl) ?_
      refine lv_iconst (v := (nI 1)) hx hb dL_law_284 (by decide) ?_
      refine lv_iadd hx hb dL_law_285 ?_
      refine va_sld hx hb hX hbl hbA hS in_1 dL_law_286 ?_
      refine lv_aload_n hx hb dL_law_287 rfl (lv_at hl 0 rfl) ?_
      refine lv_iload_n hx hb dL_law_288 rfl (lv_at hl 3 rfl) ?_
      refine lv_iconst (v := (nI 2)) hx hb dL_law_289 (by decide) ?_
      refine lv_iadd hx hb dL_law_290 ?_
      refine va_sld hx hb hX hbl hbA hS in_2 dL_law_291 ?_
      have h := obs.2.2.2.2.2.1 SX SM hR (xs (x3 + (nI 1)).toNatClampNeg) (xs (x3 + (nI 2)).toNatClampNeg)
      refine x_i (x_V (gokX hiX) (c0 := 0) (As := [.int (xs (x3 + (nI 1)).toNatClampNeg), .int (xs (x3 + (nI 2)).toNatClampNeg)]) (rest := []) F BIG_in hKX hPX (fun U hU hW => hgX.to aX hS hU hW) (c_X8_shoal hiX SX (xs (x3 + (nI 1)).toNatClampNeg) (xs (x3 + (nI 2)).toNatClampNeg) _ h) cal_X8_shoal kML_L_38 (by decide) rfl cfX8 ⟨rfl, rfl, Nat.le_of_ble_eq_true rfl, Nat.le_of_ble_eq_true rfl⟩ rfl rfl hl.1 (Nat.le_of_ble_eq_true rfl) ⟨Nat.le_of_ble_eq_true rfl, Nat.le_of_ble_eq_true rfl⟩ dL_law_292) hS aX hPM (dX SM) (fun r_0 SX1 H locs h hPX hPM hS => ?_)
      obtain ⟨eS_, h⟩ := h
      rw [eS_] at hPX
      refine lv_aload_n hx hb dL_law_295 rfl (lv_at hl 2 rfl) ?_
      refine lv_aload_n hx hb dL_law_296 rfl (lv_at hl 0 rfl) ?_
      refine lv_iload_n hx hb dL_law_297 rfl (lv_at hl 3 rfl) ?_
      refine lv_iconst (v := (nI 1)) hx hb dL_law_298 (by decide) ?_
      refine lv_iadd hx hb dL_law_299 ?_
      refine va_sld hx hb hX hbl hbA hS in_1 dL_law_300 ?_
      refine lv_aload_n hx hb dL_law_301 rfl (lv_at hl 0 rfl) ?_
      refine lv_iload_n hx hb dL_law_302 rfl (lv_at hl 3 rfl) ?_
      refine lv_iconst (v := (nI 2)) hx hb dL_law_303 (by decide) ?_
      refine lv_iadd hx hb dL_law_304 ?_
      refine va_sld hx hb hX hbl hbA hS in_2 dL_law_305 ?_
      refine x_i (x_V (gokM hiM) (c0 := 0) (As := [.int (xs (x3 + (nI 1)).toNatClampNeg), .int (xs (x3 + (nI 2)).toNatClampNeg)]) (rest := [.int r_0]) F BIG_in hKM (show va_P ZM.1 vwCl _ H by rw [eD]; exact hPM) (fun U hU hW => va_K.moved hW.alike hKM) (c_X9_shoal hiM SM (xs (x3 + (nI 1)).toNatClampNeg) (xs (x3 + (nI 2)).toNatClampNeg) _ h) cal_X9_shoal kML_L_42 (by decide) rfl cfX9 ⟨rfl, rfl, Nat.le_of_ble_eq_true rfl, Nat.le_of_ble_eq_true rfl⟩ rfl rfl hl.1 (Nat.le_of_ble_eq_true rfl) ⟨Nat.le_of_ble_eq_true rfl, Nat.le_of_ble_eq_true rfl⟩ dL_law_306) hS aM (show va_P ZM.1 vwCl (wl shX 68 ZX SX) H by rw [eD]; exact hPX) (dM SX) (fun r_1 SM1 H locs h hPM hPX hS => ?_)
      obtain ⟨eS_, h⟩ := h
      rw [eS_] at hPM
      rw [eD] at hPM hPX
      refine lv_icmp_eq (tgt := 886) hx hb dL_law_309 (by decide) (fun _ => ?_) (fun c_2 => absurd h.1 c_2)
      exact tail SX SM H locs h.2 hPX hPM hS
    by_cases cs_6 : sw = (nI 6)
    · rw [cs_6]
      refine lv_tableIn (tgt := 314) hx hb dL_law_33 (by decide) (by decide) rfl (by decide) ?_
      refine lv_aload_n hx hb dL_law_314 rfl (lv_at hl 1 rfl) ?_
      refine lv_aload_n hx hb dL_law_315 rfl (lv_at hl 0 rfl) ?_
      refine lv_iload_n hx hb dL_law_316 rfl (lv_at hl 3 rfl) ?_
      refine lv_iconst (v := (nI 1)) hx hb dL_law_317 (by decide) ?_
      refine lv_iadd hx hb dL_law_318 ?_
      refine va_sld hx hb hX hbl hbA hS in_1 dL_law_319 ?_
      refine lv_aload_n hx hb dL_law_320 rfl (lv_at hl 0 rfl) ?_
      refine lv_iload_n hx hb dL_law_321 rfl (lv_at hl 3 rfl) ?_
      refine lv_iconst (v := (nI 2)) hx hb dL_law_322 (by decide) ?_
      refine lv_iadd hx hb dL_law_323 ?_
      refine va_sld hx hb hX hbl hbA hS in_2 dL_law_324 ?_
      have h := obs.2.2.2.2.2.2.1 SX SM hR (xs (x3 + (nI 1)).toNatClampNeg) (xs (x3 + (nI 2)).toNatClampNeg)
      refine x_i (x_V (gokX hiX) (c0 := 0) (As := [.int (xs (x3 + (nI 1)).toNatClampNeg), .int (xs (x3 + (nI 2)).toNatClampNeg)]) (rest := []) F BIG_in hKX hPX (fun U hU hW => hgX.to aX hS hU hW) (c_X8_ask hiX SX (xs (x3 + (nI 1)).toNatClampNeg) (xs (x3 + (nI 2)).toNatClampNeg) _ h) cal_X8_ask kML_L_43 (by decide) rfl cfX8 ⟨rfl, rfl, Nat.le_of_ble_eq_true rfl, Nat.le_of_ble_eq_true rfl⟩ rfl rfl hl.1 (Nat.le_of_ble_eq_true rfl) ⟨Nat.le_of_ble_eq_true rfl, Nat.le_of_ble_eq_true rfl⟩ dL_law_325) hS aX hPM (dX SM) (fun r_0 SX1 H locs h hPX hPM hS => ?_)
      refine lv_aload_n hx hb dL_law_328 rfl (lv_at hl 2 rfl) ?_
      refine lv_aload_n hx hb dL_law_329 rfl (lv_at hl 0 rfl) ?_
      refine lv_iload_n hx hb dL_law_330 rfl (lv_at hl 3 rfl) ?_
      refine lv_iconst (v := (nI 1)) hx hb dL_law_331 (by decide) ?_
      refine lv_iadd hx hb dL_law_332 ?_
      refine va_sld hx hb hX hbl hbA hS in_1 dL_law_333 ?_
      refine lv_aload_n hx hb dL_law_334 rfl (lv_at hl 0 rfl) ?_
      refine lv_iload_n hx hb dL_law_335 rfl (lv_at hl 3 rfl) ?_
      refine lv_iconst (v := (nI 2)) hx hb dL_law_336 (by decide) ?_
      refine lv_iadd hx hb dL_law_337 ?_
      refine va_sld hx hb hX hbl hbA hS in_2 dL_law_338 ?_
      refine x_i (x_V (gokM hiM) (c0 := 0) (As := [.int (xs (x3 + (nI 1)).toNatClampNeg), .int (xs (x3 + (nI 2)).toNatClampNeg)]) (rest := [.int r_0]) F BIG_in hKM (show va_P ZM.1 vwCl _ H by rw [eD]; exact hPM) (fun U hU hW => va_K.moved hW.alike hKM) (c_X9_ask hiM SM (xs (x3 + (nI 1)).toNatClampNeg) (xs (x3 + (nI 2)).toNatClampNeg) _ h) cal_X9_ask kML_L_46 (by decide) rfl cfX9 ⟨rfl, rfl, Nat.le_of_ble_eq_true rfl, Nat.le_of_ble_eq_true rfl⟩ rfl rfl hl.1 (Nat.le_of_ble_eq_true rfl) ⟨Nat.le_of_ble_eq_true rfl, Nat.le_of_ble_eq_true rfl⟩ dL_law_339) hS aM (show va_P ZM.1 vwCl (wl shX 68 ZX SX1) H by rw [eD]; exact hPX) (dM SX1) (fun r_1 SM1 H locs h hPM hPX hS => ?_)
      rw [eD] at hPM hPX
      refine lv_icmp_eq (tgt := 886) hx hb dL_law_342 (by decide) (fun _ => ?_) (fun c_2 => absurd h.1 c_2)
      exact tail SX1 SM1 H locs h.2 hPX hPM hS
    by_cases cs_7 : sw = (nI 7)
    · rw [cs_7]
      refine lv_tableIn (tgt := 347) hx hb dL_law_33 (by decide) (by decide) rfl (by decide) ?_
      refine lv_aload_n hx hb dL_law_347 rfl (lv_at hl 1 rfl) ?_
      refine lv_aload_n hx hb dL_law_348 rfl (lv_at hl 0 rfl) ?_
      refine lv_iload_n hx hb dL_law_349 rfl (lv_at hl 3 rfl) ?_
      refine lv_iconst (v := (nI 1)) hx hb dL_law_350 (by decide) ?_
      refine lv_iadd hx hb dL_law_351 ?_
      refine va_sld hx hb hX hbl hbA hS in_1 dL_law_352 ?_
      have h := obs.2.2.2.2.2.2.2.1 SX SM hR (xs (x3 + (nI 1)).toNatClampNeg)
      refine x_i (x_V (gokX hiX) (c0 := 0) (As := [.int (xs (x3 + (nI 1)).toNatClampNeg)]) (rest := []) F BIG_in hKX hPX (fun U hU hW => hgX.to aX hS hU hW) (c_X8_go hiX SX (xs (x3 + (nI 1)).toNatClampNeg) _ h) cal_X8_go kML_L_47 (by decide) rfl cfX8 ⟨rfl, rfl, Nat.le_of_ble_eq_true rfl, Nat.le_of_ble_eq_true rfl⟩ rfl rfl hl.1 (Nat.le_of_ble_eq_true rfl) ⟨Nat.le_of_ble_eq_true rfl, Nat.le_of_ble_eq_true rfl⟩ dL_law_353) hS aX hPM (dX SM) (fun r_0 SX1 H locs h hPX hPM hS => ?_)
      refine lv_aload_n hx hb dL_law_356 rfl (lv_at hl 2 rfl) ?_
      refine lv_aload_n hx hb dL_law_357 rfl (lv_at hl 0 rfl) ?_
      refine lv_iload_n hx hb dL_law_358 rfl (lv_at hl 3 rfl) ?_
      refine lv_iconst (v := (nI 1)) hx hb dL_law_359 (by decide) ?_
      refine lv_iadd hx hb dL_law_360 ?_
      refine va_sld hx hb hX hbl hbA hS in_1 dL_law_361 ?_
      refine x_i (x_V (gokM hiM) (c0 := 0) (As := [.int (xs (x3 + (nI 1)).toNatClampNeg)]) (rest := [.int r_0]) F BIG_in hKM (show va_P ZM.1 vwCl _ H by rw [eD]; exact hPM) (fun U hU hW => va_K.moved hW.alike hKM) (c_X9_go hiM SM (xs (x3 + (nI 1)).toNatClampNeg) _ h) cal_X9_go kML_L_51 (by decide) rfl cfX9 ⟨rfl, rfl, Nat.le_of_ble_eq_true rfl, Nat.le_of_ble_eq_true rfl⟩ rfl rfl hl.1 (Nat.le_of_ble_eq_true rfl) ⟨Nat.le_of_ble_eq_true rfl, Nat.le_of_ble_eq_true rfl⟩ dL_law_362) hS aM (show va_P ZM.1 vwCl (wl shX 68 ZX SX1) H by rw [eD]; exact hPX) (dM SX1) (fun r_1 SM1 H locs h hPM hPX hS => ?_)
      rw [eD] at hPM hPX
      refine lv_icmp_eq (tgt := 886) hx hb dL_law_365 (by decide) (fun _ => ?_) (fun c_2 => absurd h.1 c_2)
      exact tail SX1 SM1 H locs h.2 hPX hPM hS
    by_cases cs_8 : sw = (nI 8)
    · rw [cs_8]
      refine lv_tableIn (tgt := 370) hx hb dL_law_33 (by decide) (by decide) rfl (by decide) ?_
      refine lv_aload_n hx hb dL_law_370 rfl (lv_at hl 1 rfl) ?_
      refine lv_aload_n hx hb dL_law_371 rfl (lv_at hl 0 rfl) ?_
      refine lv_iload_n hx hb dL_law_372 rfl (lv_at hl 3 rfl) ?_
      refine lv_iconst (v := (nI 1)) hx hb dL_law_373 (by decide) ?_
      refine lv_iadd hx hb dL_law_374 ?_
      refine va_sld hx hb hX hbl hbA hS in_1 dL_law_375 ?_
      refine lv_aload_n hx hb dL_law_376 rfl (lv_at hl 0 rfl) ?_
      refine lv_iload_n hx hb dL_law_377 rfl (lv_at hl 3 rfl) ?_
      refine lv_iconst (v := (nI 2)) hx hb dL_law_378 (by decide) ?_
      refine lv_iadd hx hb dL_law_379 ?_
      refine va_sld hx hb hX hbl hbA hS in_2 dL_law_380 ?_
      have h := obs.2.2.2.2.2.2.2.2.1 SX SM hR (xs (x3 + (nI 1)).toNatClampNeg) (xs (x3 + (nI 2)).toNatClampNeg)
      refine x_i (x_V (gokX hiX) (c0 := 0) (As := [.int (xs (x3 + (nI 1)).toNatClampNeg), .int (xs (x3 + (nI 2)).toNatClampNeg)]) (rest := []) F BIG_in hKX hPX (fun U hU hW => hgX.to aX hS hU hW) (c_X8_kite hiX SX (xs (x3 + (nI 1)).toNatClampNeg) (xs (x3 + (nI 2)).toNatClampNeg) _ h) cal_X8_kite kML_L_52 (by decide) rfl cfX8 ⟨rfl, rfl, Nat.le_of_ble_eq_true rfl, Nat.le_of_ble_eq_true rfl⟩ rfl rfl hl.1 (Nat.le_of_ble_eq_true rfl) ⟨Nat.le_of_ble_eq_true rfl, Nat.le_of_ble_eq_true rfl⟩ dL_law_381) hS aX hPM (dX SM) (fun r_0 SX1 H locs h hPX hPM hS => ?_)
      obtain ⟨eS_, h⟩ := h
      rw [eS_] at hPX
      refine lv_aload_n hx hb dL_law_384 rfl (lv_at hl 2 rfl) ?_
      refine lv_aload_n hx hb dL_law_385 rfl (lv_at hl 0 rfl) ?_
      refine lv_iload_n hx hb dL_law_386 rfl (lv_at hl 3 rfl) ?_
      refine lv_iconst (v := (nI 1)) hx hb dL_law_387 (by decide) ?_
      refine lv_iadd hx hb dL_law_388 ?_
      refine va_sld hx hb hX hbl hbA hS in_1 dL_law_389 ?_
      refine lv_aload_n hx hb dL_law_390 rfl (lv_at hl 0 rfl) ?_
      refine lv_iload_n hx hb dL_law_391 rfl (lv_at hl 3 rfl) ?_
      refine lv_iconst (v := (nI 2)) hx hb dL_law_392 (by decide) ?_
      refine lv_iadd hx hb dL_law_393 ?_
      refine va_sld hx hb hX hbl hbA hS in_2 dL_law_394 ?_
      refine x_i (x_V (gokM hiM) (c0 := 0) (As := [.int (xs (x3 + (nI 1)).toNatClampNeg), .int (xs (x3 + (nI 2)).toNatClampNeg)]) (rest := [.int r_0]) F BIG_in hKM (show va_P ZM.1 vwCl _ H by rw [eD]; exact hPM) (fun U hU hW => va_K.moved hW.alike hKM) (c_X9_kite hiM SM (xs (x3 + (nI 1)).toNatClampNeg) (xs (x3 + (nI 2)).toNatClampNeg) _ h) cal_X9_kite kML_L_55 (by decide) rfl cfX9 ⟨rfl, rfl, Nat.le_of_ble_eq_true rfl, Nat.le_of_ble_eq_true rfl⟩ rfl rfl hl.1 (Nat.le_of_ble_eq_true rfl) ⟨Nat.le_of_ble_eq_true rfl, Nat.le_of_ble_eq_true rfl⟩ dL_law_395) hS aM (show va_P ZM.1 vwCl (wl shX 68 ZX SX) H by rw [eD]; exact hPX) (dM SX) (fun r_1 SM1 H locs h hPM hPX hS => ?_)
      obtain ⟨eS_, h⟩ := h
      rw [eS_] at hPM
      rw [eD] at hPM hPX
      refine lv_icmp_eq (tgt := 886) hx hb dL_law_398 (by decide) (fun _ => ?_) (fun c_2 => absurd h.1 c_2)
      exact tail SX SM H locs h.2 hPX hPM hS
    by_cases cs_9 : sw = (nI 9)
    · rw [cs_9]
      refine lv_tableIn (tgt := 403) hx hb dL_law_33 (by decide) (by decide) rfl (by decide) ?_
      refine lv_aload_n hx hb dL_law_403 rfl (lv_at hl 1 rfl) ?_
      refine lv_aload_n hx hb dL_law_404 rfl (lv_at hl 0 rfl) ?_
      refine lv_iload_n hx hb dL_law_405 rfl (lv_at hl 3 rfl) ?_
      refine lv_iconst (v := (nI 1)) hx hb dL_law_406 (by decide) ?_
      refine lv_iadd hx hb dL_law_407 ?_
      refine va_sld hx hb hX hbl hbA hS in_1 dL_law_408 ?_
      refine lv_aload_n hx hb dL_law_409 rfl (lv_at hl 0 rfl) ?_
      refine lv_iload_n hx hb dL_law_410 rfl (lv_at hl 3 rfl) ?_
      refine lv_iconst (v := (nI 2)) hx hb dL_law_411 (by decide) ?_
      refine lv_iadd hx hb dL_law_412 ?_
      refine va_sld hx hb hX hbl hbA hS in_2 dL_law_413 ?_
      refine lv_aload_n hx hb dL_law_414 rfl (lv_at hl 0 rfl) ?_
      refine lv_iload_n hx hb dL_law_415 rfl (lv_at hl 3 rfl) ?_
      refine lv_iconst (v := (nI 3)) hx hb dL_law_416 (by decide) ?_
      refine lv_iadd hx hb dL_law_417 ?_
      refine va_sld hx hb hX hbl hbA hS in_3 dL_law_418 ?_
      have h := obs.2.2.2.2.2.2.2.2.2.1 SX SM hR (xs (x3 + (nI 1)).toNatClampNeg) (xs (x3 + (nI 2)).toNatClampNeg) (xs (x3 + (nI 3)).toNatClampNeg)
      refine x_i (x_V (gokX hiX) (c0 := 0) (As := [.int (xs (x3 + (nI 1)).toNatClampNeg), .int (xs (x3 + (nI 2)).toNatClampNeg), .int (xs (x3 + (nI 3)).toNatClampNeg)]) (rest := []) F BIG_in hKX hPX (fun U hU hW => hgX.to aX hS hU hW) (c_X8_where hiX SX (xs (x3 + (nI 1)).toNatClampNeg) (xs (x3 + (nI 2)).toNatClampNeg) (xs (x3 + (nI 3)).toNatClampNeg) _ h) cal_X8_where kML_L_56 (by decide) rfl cfX8 ⟨rfl, rfl, Nat.le_of_ble_eq_true rfl, Nat.le_of_ble_eq_true rfl⟩ rfl rfl hl.1 (Nat.le_of_ble_eq_true rfl) ⟨Nat.le_of_ble_eq_true rfl, Nat.le_of_ble_eq_true rfl⟩ dL_law_419) hS aX hPM (dX SM) (fun r_0 SX1 H locs h hPX hPM hS => ?_)
      obtain ⟨eS_, h⟩ := h
      rw [eS_] at hPX
      refine lv_aload_n hx hb dL_law_422 rfl (lv_at hl 2 rfl) ?_
      refine lv_aload_n hx hb dL_law_423 rfl (lv_at hl 0 rfl) ?_
      refine lv_iload_n hx hb dL_law_424 rfl (lv_at hl 3 rfl) ?_
      refine lv_iconst (v := (nI 1)) hx hb dL_law_425 (by decide) ?_
      refine lv_iadd hx hb dL_law_426 ?_
      refine va_sld hx hb hX hbl hbA hS in_1 dL_law_427 ?_
      refine lv_aload_n hx hb dL_law_428 rfl (lv_at hl 0 rfl) ?_
      refine lv_iload_n hx hb dL_law_429 rfl (lv_at hl 3 rfl) ?_
      refine lv_iconst (v := (nI 2)) hx hb dL_law_430 (by decide) ?_
      refine lv_iadd hx hb dL_law_431 ?_
      refine va_sld hx hb hX hbl hbA hS in_2 dL_law_432 ?_
      refine lv_aload_n hx hb dL_law_433 rfl (lv_at hl 0 rfl) ?_
      refine lv_iload_n hx hb dL_law_434 rfl (lv_at hl 3 rfl) ?_
      refine lv_iconst (v := (nI 3)) hx hb dL_law_435 (by decide) ?_
      refine lv_iadd hx hb dL_law_436 ?_
      refine va_sld hx hb hX hbl hbA hS in_3 dL_law_437 ?_
      refine x_i (x_V (gokM hiM) (c0 := 0) (As := [.int (xs (x3 + (nI 1)).toNatClampNeg), .int (xs (x3 + (nI 2)).toNatClampNeg), .int (xs (x3 + (nI 3)).toNatClampNeg)]) (rest := [.int r_0]) F BIG_in hKM (show va_P ZM.1 vwCl _ H by rw [eD]; exact hPM) (fun U hU hW => va_K.moved hW.alike hKM) (c_X9_where hiM SM (xs (x3 + (nI 1)).toNatClampNeg) (xs (x3 + (nI 2)).toNatClampNeg) (xs (x3 + (nI 3)).toNatClampNeg) _ h) cal_X9_where kML_L_59 (by decide) rfl cfX9 ⟨rfl, rfl, Nat.le_of_ble_eq_true rfl, Nat.le_of_ble_eq_true rfl⟩ rfl rfl hl.1 (Nat.le_of_ble_eq_true rfl) ⟨Nat.le_of_ble_eq_true rfl, Nat.le_of_ble_eq_true rfl⟩ dL_law_438) hS aM (show va_P ZM.1 vwCl (wl shX 68 ZX SX) H by rw [eD]; exact hPX) (dM SX) (fun r_1 SM1 H locs h hPM hPX hS => ?_)
      obtain ⟨eS_, h⟩ := h
      rw [eS_] at hPM
      rw [eD] at hPM hPX
      refine lv_icmp_eq (tgt := 886) hx hb dL_law_441 (by decide) (fun _ => ?_) (fun c_2 => absurd h.1 c_2)
      exact tail SX SM H locs h.2 hPX hPM hS
    by_cases cs_10 : sw = (nI 10)
    · rw [cs_10]
      refine lv_tableIn (tgt := 446) hx hb dL_law_33 (by decide) (by decide) rfl (by decide) ?_
      refine lv_aload_n hx hb dL_law_446 rfl (lv_at hl 1 rfl) ?_
      refine lv_aload_n hx hb dL_law_447 rfl (lv_at hl 0 rfl) ?_
      refine lv_iload_n hx hb dL_law_448 rfl (lv_at hl 3 rfl) ?_
      refine lv_iconst (v := (nI 1)) hx hb dL_law_449 (by decide) ?_
      refine lv_iadd hx hb dL_law_450 ?_
      refine va_sld hx hb hX hbl hbA hS in_1 dL_law_451 ?_
      refine lv_aload_n hx hb dL_law_452 rfl (lv_at hl 0 rfl) ?_
      refine lv_iload_n hx hb dL_law_453 rfl (lv_at hl 3 rfl) ?_
      refine lv_iconst (v := (nI 2)) hx hb dL_law_454 (by decide) ?_
      refine lv_iadd hx hb dL_law_455 ?_
      refine va_sld hx hb hX hbl hbA hS in_2 dL_law_456 ?_
      refine lv_aload_n hx hb dL_law_457 rfl (lv_at hl 0 rfl) ?_
      refine lv_iload_n hx hb dL_law_458 rfl (lv_at hl 3 rfl) ?_
      refine lv_iconst (v := (nI 3)) hx hb dL_law_459 (by decide) ?_
      refine lv_iadd hx hb dL_law_460 ?_
      refine va_sld hx hb hX hbl hbA hS in_3 dL_law_461 ?_
      have h := obs.2.2.2.2.2.2.2.2.2.2.1 SX SM hR (xs (x3 + (nI 1)).toNatClampNeg) (xs (x3 + (nI 2)).toNatClampNeg) (xs (x3 + (nI 3)).toNatClampNeg)
      refine x_i (x_V (gokX hiX) (c0 := 0) (As := [.int (xs (x3 + (nI 1)).toNatClampNeg), .int (xs (x3 + (nI 2)).toNatClampNeg), .int (xs (x3 + (nI 3)).toNatClampNeg)]) (rest := []) F BIG_in hKX hPX (fun U hU hW => hgX.to aX hS hU hW) (c_X8_hinders hiX SX (xs (x3 + (nI 1)).toNatClampNeg) (xs (x3 + (nI 2)).toNatClampNeg) (xs (x3 + (nI 3)).toNatClampNeg) _ h) cal_X8_hinders kML_L_60 (by decide) rfl cfX8 ⟨rfl, rfl, Nat.le_of_ble_eq_true rfl, Nat.le_of_ble_eq_true rfl⟩ rfl rfl hl.1 (Nat.le_of_ble_eq_true rfl) ⟨Nat.le_of_ble_eq_true rfl, Nat.le_of_ble_eq_true rfl⟩ dL_law_462) hS aX hPM (dX SM) (fun r_0 SX1 H locs h hPX hPM hS => ?_)
      obtain ⟨eS_, h⟩ := h
      rw [eS_] at hPX
      refine lv_aload_n hx hb dL_law_465 rfl (lv_at hl 2 rfl) ?_
      refine lv_aload_n hx hb dL_law_466 rfl (lv_at hl 0 rfl) ?_
      refine lv_iload_n hx hb dL_law_467 rfl (lv_at hl 3 rfl) ?_
      refine lv_iconst (v := (nI 1)) hx hb dL_law_468 (by decide) ?_
      refine lv_iadd hx hb dL_law_469 ?_
      refine va_sld hx hb hX hbl hbA hS in_1 dL_law_470 ?_
      refine lv_aload_n hx hb dL_law_471 rfl (lv_at hl 0 rfl) ?_
      refine lv_iload_n hx hb dL_law_472 rfl (lv_at hl 3 rfl) ?_
      refine lv_iconst (v := (nI 2)) hx hb dL_law_473 (by decide) ?_
      refine lv_iadd hx hb dL_law_474 ?_
      refine va_sld hx hb hX hbl hbA hS in_2 dL_law_475 ?_
      refine lv_aload_n hx hb dL_law_476 rfl (lv_at hl 0 rfl) ?_
      refine lv_iload_n hx hb dL_law_477 rfl (lv_at hl 3 rfl) ?_
      refine lv_iconst (v := (nI 3)) hx hb dL_law_478 (by decide) ?_
      refine lv_iadd hx hb dL_law_479 ?_
      refine va_sld hx hb hX hbl hbA hS in_3 dL_law_480 ?_
      refine x_i (x_V (gokM hiM) (c0 := 0) (As := [.int (xs (x3 + (nI 1)).toNatClampNeg), .int (xs (x3 + (nI 2)).toNatClampNeg), .int (xs (x3 + (nI 3)).toNatClampNeg)]) (rest := [.int r_0]) F BIG_in hKM (show va_P ZM.1 vwCl _ H by rw [eD]; exact hPM) (fun U hU hW => va_K.moved hW.alike hKM) (c_X9_hinders hiM SM (xs (x3 + (nI 1)).toNatClampNeg) (xs (x3 + (nI 2)).toNatClampNeg) (xs (x3 + (nI 3)).toNatClampNeg) _ h) cal_X9_hinders kML_L_63 (by decide) rfl cfX9 ⟨rfl, rfl, Nat.le_of_ble_eq_true rfl, Nat.le_of_ble_eq_true rfl⟩ rfl rfl hl.1 (Nat.le_of_ble_eq_true rfl) ⟨Nat.le_of_ble_eq_true rfl, Nat.le_of_ble_eq_true rfl⟩ dL_law_481) hS aM (show va_P ZM.1 vwCl (wl shX 68 ZX SX) H by rw [eD]; exact hPX) (dM SX) (fun r_1 SM1 H locs h hPM hPX hS => ?_)
      obtain ⟨eS_, h⟩ := h
      rw [eS_] at hPM
      rw [eD] at hPM hPX
      refine lv_icmp_eq (tgt := 886) hx hb dL_law_484 (by decide) (fun _ => ?_) (fun c_2 => absurd h.1 c_2)
      exact tail SX SM H locs h.2 hPX hPM hS
    by_cases cs_11 : sw = (nI 11)
    · rw [cs_11]
      refine lv_tableIn (tgt := 489) hx hb dL_law_33 (by decide) (by decide) rfl (by decide) ?_
      refine lv_aload_n hx hb dL_law_489 rfl (lv_at hl 1 rfl) ?_
      refine lv_aload_n hx hb dL_law_490 rfl (lv_at hl 0 rfl) ?_
      refine lv_iload_n hx hb dL_law_491 rfl (lv_at hl 3 rfl) ?_
      refine lv_iconst (v := (nI 1)) hx hb dL_law_492 (by decide) ?_
      refine lv_iadd hx hb dL_law_493 ?_
      refine va_sld hx hb hX hbl hbA hS in_1 dL_law_494 ?_
      refine lv_aload_n hx hb dL_law_495 rfl (lv_at hl 0 rfl) ?_
      refine lv_iload_n hx hb dL_law_496 rfl (lv_at hl 3 rfl) ?_
      refine lv_iconst (v := (nI 2)) hx hb dL_law_497 (by decide) ?_
      refine lv_iadd hx hb dL_law_498 ?_
      refine va_sld hx hb hX hbl hbA hS in_2 dL_law_499 ?_
      refine lv_aload_n hx hb dL_law_500 rfl (lv_at hl 0 rfl) ?_
      refine lv_iload_n hx hb dL_law_501 rfl (lv_at hl 3 rfl) ?_
      refine lv_iconst (v := (nI 3)) hx hb dL_law_502 (by decide) ?_
      refine lv_iadd hx hb dL_law_503 ?_
      refine va_sld hx hb hX hbl hbA hS in_3 dL_law_504 ?_
      refine lv_aload_n hx hb dL_law_505 rfl (lv_at hl 0 rfl) ?_
      refine lv_iload_n hx hb dL_law_506 rfl (lv_at hl 3 rfl) ?_
      refine lv_iconst (v := (nI 4)) hx hb dL_law_507 (by decide) ?_
      refine lv_iadd hx hb dL_law_508 ?_
      refine va_sld hx hb hX hbl hbA hS in_4 dL_law_509 ?_
      have h := obs.2.2.2.2.2.2.2.2.2.2.2.1 SX SM hR (xs (x3 + (nI 1)).toNatClampNeg) (xs (x3 + (nI 2)).toNatClampNeg) (xs (x3 + (nI 3)).toNatClampNeg) (xs (x3 + (nI 4)).toNatClampNeg)
      refine x_i (x_V (gokX hiX) (c0 := 0) (As := [.int (xs (x3 + (nI 1)).toNatClampNeg), .int (xs (x3 + (nI 2)).toNatClampNeg), .int (xs (x3 + (nI 3)).toNatClampNeg), .int (xs (x3 + (nI 4)).toNatClampNeg)]) (rest := []) F BIG_in hKX hPX (fun U hU hW => hgX.to aX hS hU hW) (c_X8_tangle hiX SX (xs (x3 + (nI 1)).toNatClampNeg) (xs (x3 + (nI 2)).toNatClampNeg) (xs (x3 + (nI 3)).toNatClampNeg) (xs (x3 + (nI 4)).toNatClampNeg) _ h) cal_X8_tangle kML_L_64 (by decide) rfl cfX8 ⟨rfl, rfl, Nat.le_of_ble_eq_true rfl, Nat.le_of_ble_eq_true rfl⟩ rfl rfl hl.1 (Nat.le_of_ble_eq_true rfl) ⟨Nat.le_of_ble_eq_true rfl, Nat.le_of_ble_eq_true rfl⟩ dL_law_510) hS aX hPM (dX SM) (fun r_0 SX1 H locs h hPX hPM hS => ?_)
      obtain ⟨eS_, h⟩ := h
      rw [eS_] at hPX
      refine lv_aload_n hx hb dL_law_513 rfl (lv_at hl 2 rfl) ?_
      refine lv_aload_n hx hb dL_law_514 rfl (lv_at hl 0 rfl) ?_
      refine lv_iload_n hx hb dL_law_515 rfl (lv_at hl 3 rfl) ?_
      refine lv_iconst (v := (nI 1)) hx hb dL_law_516 (by decide) ?_
      refine lv_iadd hx hb dL_law_517 ?_
      refine va_sld hx hb hX hbl hbA hS in_1 dL_law_518 ?_
      refine lv_aload_n hx hb dL_law_519 rfl (lv_at hl 0 rfl) ?_
      refine lv_iload_n hx hb dL_law_520 rfl (lv_at hl 3 rfl) ?_
      refine lv_iconst (v := (nI 2)) hx hb dL_law_521 (by decide) ?_
      refine lv_iadd hx hb dL_law_522 ?_
      refine va_sld hx hb hX hbl hbA hS in_2 dL_law_523 ?_
      refine lv_aload_n hx hb dL_law_524 rfl (lv_at hl 0 rfl) ?_
      refine lv_iload_n hx hb dL_law_525 rfl (lv_at hl 3 rfl) ?_
      refine lv_iconst (v := (nI 3)) hx hb dL_law_526 (by decide) ?_
      refine lv_iadd hx hb dL_law_527 ?_
      refine va_sld hx hb hX hbl hbA hS in_3 dL_law_528 ?_
      refine lv_aload_n hx hb dL_law_529 rfl (lv_at hl 0 rfl) ?_
      refine lv_iload_n hx hb dL_law_530 rfl (lv_at hl 3 rfl) ?_
      refine lv_iconst (v := (nI 4)) hx hb dL_law_531 (by decide) ?_
      refine lv_iadd hx hb dL_law_532 ?_
      refine va_sld hx hb hX hbl hbA hS in_4 dL_law_533 ?_
      refine x_i (x_V (gokM hiM) (c0 := 0) (As := [.int (xs (x3 + (nI 1)).toNatClampNeg), .int (xs (x3 + (nI 2)).toNatClampNeg), .int (xs (x3 + (nI 3)).toNatClampNeg), .int (xs (x3 + (nI 4)).toNatClampNeg)]) (rest := [.int r_0]) F BIG_in hKM (show va_P ZM.1 vwCl _ H by rw [eD]; exact hPM) (fun U hU hW => va_K.moved hW.alike hKM) (c_X9_tangle hiM SM (xs (x3 + (nI 1)).toNatClampNeg) (xs (x3 + (nI 2)).toNatClampNeg) (xs (x3 + (nI 3)).toNatClampNeg) (xs (x3 + (nI 4)).toNatClampNeg) _ h) cal_X9_tangle kML_L_68 (by decide) rfl cfX9 ⟨rfl, rfl, Nat.le_of_ble_eq_true rfl, Nat.le_of_ble_eq_true rfl⟩ rfl rfl hl.1 (Nat.le_of_ble_eq_true rfl) ⟨Nat.le_of_ble_eq_true rfl, Nat.le_of_ble_eq_true rfl⟩ dL_law_534) hS aM (show va_P ZM.1 vwCl (wl shX 68 ZX SX) H by rw [eD]; exact hPX) (dM SX) (fun r_1 SM1 H locs h hPM hPX hS => ?_)
      obtain ⟨eS_, h⟩ := h
      rw [eS_] at hPM
      rw [eD] at hPM hPX
      refine lv_icmp_eq (tgt := 886) hx hb dL_law_537 (by decide) (fun _ => ?_) (fun c_2 => absurd h.1 c_2)
      exact tail SX SM H locs h.2 hPX hPM hS
    by_cases cs_12 : sw = (nI 12)
    · rw [cs_12]
      refine lv_tableIn (tgt := 542) hx hb dL_law_33 (by decide) (by decide) rfl (by decide) ?_
      refine lv_aload_n hx hb dL_law_542 rfl (lv_at hl 1 rfl) ?_
      refine lv_aload_n hx hb dL_law_543 rfl (lv_at hl 0 rfl) ?_
      refine lv_iload_n hx hb dL_law_544 rfl (lv_at hl 3 rfl) ?_
      refine lv_iconst (v := (nI 1)) hx hb dL_law_545 (by decide) ?_
      refine lv_iadd hx hb dL_law_546 ?_
      refine va_sld hx hb hX hbl hbA hS in_1 dL_law_547 ?_
      refine lv_aload_n hx hb dL_law_548 rfl (lv_at hl 0 rfl) ?_
      refine lv_iload_n hx hb dL_law_549 rfl (lv_at hl 3 rfl) ?_
      refine lv_iconst (v := (nI 2)) hx hb dL_law_550 (by decide) ?_
      refine lv_iadd hx hb dL_law_551 ?_
      refine va_sld hx hb hX hbl hbA hS in_2 dL_law_552 ?_
      have h := obs.2.2.2.2.2.2.2.2.2.2.2.2.1 SX SM hR (xs (x3 + (nI 1)).toNatClampNeg) (xs (x3 + (nI 2)).toNatClampNeg)
      refine x_i (x_V (gokX hiX) (c0 := 0) (As := [.int (xs (x3 + (nI 1)).toNatClampNeg), .int (xs (x3 + (nI 2)).toNatClampNeg)]) (rest := []) F BIG_in hKX hPX (fun U hU hW => hgX.to aX hS hU hW) (c_X8_taking hiX SX (xs (x3 + (nI 1)).toNatClampNeg) (xs (x3 + (nI 2)).toNatClampNeg) _ h) cal_X8_taking kML_L_69 (by decide) rfl cfX8 ⟨rfl, rfl, Nat.le_of_ble_eq_true rfl, Nat.le_of_ble_eq_true rfl⟩ rfl rfl hl.1 (Nat.le_of_ble_eq_true rfl) ⟨Nat.le_of_ble_eq_true rfl, Nat.le_of_ble_eq_true rfl⟩ dL_law_553) hS aX hPM (dX SM) (fun r_0 SX1 H locs h hPX hPM hS => ?_)
      obtain ⟨eS_, h⟩ := h
      rw [eS_] at hPX
      refine lv_aload_n hx hb dL_law_556 rfl (lv_at hl 2 rfl) ?_
      refine lv_aload_n hx hb dL_law_557 rfl (lv_at hl 0 rfl) ?_
      refine lv_iload_n hx hb dL_law_558 rfl (lv_at hl 3 rfl) ?_
      refine lv_iconst (v := (nI 1)) hx hb dL_law_559 (by decide) ?_
      refine lv_iadd hx hb dL_law_560 ?_
      refine va_sld hx hb hX hbl hbA hS in_1 dL_law_561 ?_
      refine lv_aload_n hx hb dL_law_562 rfl (lv_at hl 0 rfl) ?_
      refine lv_iload_n hx hb dL_law_563 rfl (lv_at hl 3 rfl) ?_
      refine lv_iconst (v := (nI 2)) hx hb dL_law_564 (by decide) ?_
      refine lv_iadd hx hb dL_law_565 ?_
      refine va_sld hx hb hX hbl hbA hS in_2 dL_law_566 ?_
      refine x_i (x_V (gokM hiM) (c0 := 0) (As := [.int (xs (x3 + (nI 1)).toNatClampNeg), .int (xs (x3 + (nI 2)).toNatClampNeg)]) (rest := [.int r_0]) F BIG_in hKM (show va_P ZM.1 vwCl _ H by rw [eD]; exact hPM) (fun U hU hW => va_K.moved hW.alike hKM) (c_X9_taking hiM SM (xs (x3 + (nI 1)).toNatClampNeg) (xs (x3 + (nI 2)).toNatClampNeg) _ h) cal_X9_taking kML_L_72 (by decide) rfl cfX9 ⟨rfl, rfl, Nat.le_of_ble_eq_true rfl, Nat.le_of_ble_eq_true rfl⟩ rfl rfl hl.1 (Nat.le_of_ble_eq_true rfl) ⟨Nat.le_of_ble_eq_true rfl, Nat.le_of_ble_eq_true rfl⟩ dL_law_567) hS aM (show va_P ZM.1 vwCl (wl shX 68 ZX SX) H by rw [eD]; exact hPX) (dM SX) (fun r_1 SM1 H locs h hPM hPX hS => ?_)
      obtain ⟨eS_, h⟩ := h
      rw [eS_] at hPM
      rw [eD] at hPM hPX
      refine lv_icmp_eq (tgt := 886) hx hb dL_law_570 (by decide) (fun _ => ?_) (fun c_2 => absurd h.1 c_2)
      exact tail SX SM H locs h.2 hPX hPM hS
    by_cases cs_13 : sw = (nI 13)
    · rw [cs_13]
      refine lv_tableIn (tgt := 575) hx hb dL_law_33 (by decide) (by decide) rfl (by decide) ?_
      refine lv_aload_n hx hb dL_law_575 rfl (lv_at hl 1 rfl) ?_
      refine lv_aload_n hx hb dL_law_576 rfl (lv_at hl 0 rfl) ?_
      refine lv_iload_n hx hb dL_law_577 rfl (lv_at hl 3 rfl) ?_
      refine lv_iconst (v := (nI 1)) hx hb dL_law_578 (by decide) ?_
      refine lv_iadd hx hb dL_law_579 ?_
      refine va_sld hx hb hX hbl hbA hS in_1 dL_law_580 ?_
      have h := obs.2.2.2.2.2.2.2.2.2.2.2.2.2.1 SX SM hR (xs (x3 + (nI 1)).toNatClampNeg)
      refine x_i (x_V (gokX hiX) (c0 := 0) (As := [.int (xs (x3 + (nI 1)).toNatClampNeg)]) (rest := []) F BIG_in hKX hPX (fun U hU hW => hgX.to aX hS hU hW) (c_X8_keep hiX SX (xs (x3 + (nI 1)).toNatClampNeg) _ h) cal_X8_keep kML_L_73 (by decide) rfl cfX8 ⟨rfl, rfl, Nat.le_of_ble_eq_true rfl, Nat.le_of_ble_eq_true rfl⟩ rfl rfl hl.1 (Nat.le_of_ble_eq_true rfl) ⟨Nat.le_of_ble_eq_true rfl, Nat.le_of_ble_eq_true rfl⟩ dL_law_581) hS aX hPM (dX SM) (fun r_0 SX1 H locs h hPX hPM hS => ?_)
      refine lv_aload_n hx hb dL_law_584 rfl (lv_at hl 2 rfl) ?_
      refine lv_aload_n hx hb dL_law_585 rfl (lv_at hl 0 rfl) ?_
      refine lv_iload_n hx hb dL_law_586 rfl (lv_at hl 3 rfl) ?_
      refine lv_iconst (v := (nI 1)) hx hb dL_law_587 (by decide) ?_
      refine lv_iadd hx hb dL_law_588 ?_
      refine va_sld hx hb hX hbl hbA hS in_1 dL_law_589 ?_
      refine x_i (x_V (gokM hiM) (c0 := 0) (As := [.int (xs (x3 + (nI 1)).toNatClampNeg)]) (rest := [.int r_0]) F BIG_in hKM (show va_P ZM.1 vwCl _ H by rw [eD]; exact hPM) (fun U hU hW => va_K.moved hW.alike hKM) (c_X9_keep hiM SM (xs (x3 + (nI 1)).toNatClampNeg) _ h) cal_X9_keep kML_L_76 (by decide) rfl cfX9 ⟨rfl, rfl, Nat.le_of_ble_eq_true rfl, Nat.le_of_ble_eq_true rfl⟩ rfl rfl hl.1 (Nat.le_of_ble_eq_true rfl) ⟨Nat.le_of_ble_eq_true rfl, Nat.le_of_ble_eq_true rfl⟩ dL_law_590) hS aM (show va_P ZM.1 vwCl (wl shX 68 ZX SX1) H by rw [eD]; exact hPX) (dM SX1) (fun r_1 SM1 H locs h hPM hPX hS => ?_)
      rw [eD] at hPM hPX
      refine lv_icmp_eq (tgt := 886) hx hb dL_law_593 (by decide) (fun _ => ?_) (fun c_2 => absurd h.1 c_2)
      exact tail SX1 SM1 H locs h.2 hPX hPM hS
    by_cases cs_14 : sw = (nI 14)
    · rw [cs_14]
      refine lv_tableIn (tgt := 598) hx hb dL_law_33 (by decide) (by decide) rfl (by decide) ?_
      refine lv_aload_n hx hb dL_law_598 rfl (lv_at hl 1 rfl) ?_
      refine lv_aload_n hx hb dL_law_599 rfl (lv_at hl 0 rfl) ?_
      refine lv_iload_n hx hb dL_law_600 rfl (lv_at hl 3 rfl) ?_
      refine lv_iconst (v := (nI 1)) hx hb dL_law_601 (by decide) ?_
      refine lv_iadd hx hb dL_law_602 ?_
      refine va_sld hx hb hX hbl hbA hS in_1 dL_law_603 ?_
      have h := obs.2.2.2.2.2.2.2.2.2.2.2.2.2.2.1 SX SM hR (xs (x3 + (nI 1)).toNatClampNeg)
      refine x_i (x_V (gokX hiX) (c0 := 0) (As := [.int (xs (x3 + (nI 1)).toNatClampNeg)]) (rest := []) F BIG_in hKX hPX (fun U hU hW => hgX.to aX hS hU hW) (c_X8_back hiX SX (xs (x3 + (nI 1)).toNatClampNeg) _ h) cal_X8_back kML_L_77 (by decide) rfl cfX8 ⟨rfl, rfl, Nat.le_of_ble_eq_true rfl, Nat.le_of_ble_eq_true rfl⟩ rfl rfl hl.1 (Nat.le_of_ble_eq_true rfl) ⟨Nat.le_of_ble_eq_true rfl, Nat.le_of_ble_eq_true rfl⟩ dL_law_604) hS aX hPM (dX SM) (fun r_0 SX1 H locs h hPX hPM hS => ?_)
      refine lv_aload_n hx hb dL_law_607 rfl (lv_at hl 2 rfl) ?_
      refine lv_aload_n hx hb dL_law_608 rfl (lv_at hl 0 rfl) ?_
      refine lv_iload_n hx hb dL_law_609 rfl (lv_at hl 3 rfl) ?_
      refine lv_iconst (v := (nI 1)) hx hb dL_law_610 (by decide) ?_
      refine lv_iadd hx hb dL_law_611 ?_
      refine va_sld hx hb hX hbl hbA hS in_1 dL_law_612 ?_
      refine x_i (x_V (gokM hiM) (c0 := 0) (As := [.int (xs (x3 + (nI 1)).toNatClampNeg)]) (rest := [.int r_0]) F BIG_in hKM (show va_P ZM.1 vwCl _ H by rw [eD]; exact hPM) (fun U hU hW => va_K.moved hW.alike hKM) (c_X9_back hiM SM (xs (x3 + (nI 1)).toNatClampNeg) _ h) cal_X9_back kML_L_80 (by decide) rfl cfX9 ⟨rfl, rfl, Nat.le_of_ble_eq_true rfl, Nat.le_of_ble_eq_true rfl⟩ rfl rfl hl.1 (Nat.le_of_ble_eq_true rfl) ⟨Nat.le_of_ble_eq_true rfl, Nat.le_of_ble_eq_true rfl⟩ dL_law_613) hS aM (show va_P ZM.1 vwCl (wl shX 68 ZX SX1) H by rw [eD]; exact hPX) (dM SX1) (fun r_1 SM1 H locs h hPM hPX hS => ?_)
      rw [eD] at hPM hPX
      refine lv_icmp_eq (tgt := 886) hx hb dL_law_616 (by decide) (fun _ => ?_) (fun c_2 => absurd h.1 c_2)
      exact tail SX1 SM1 H locs h.2 hPX hPM hS
    by_cases cs_15 : sw = (nI 15)
    · rw [cs_15]
      refine lv_tableIn (tgt := 621) hx hb dL_law_33 (by decide) (by decide) rfl (by decide) ?_
      refine lv_aload_n hx hb dL_law_621 rfl (lv_at hl 1 rfl) ?_
      refine lv_aload_n hx hb dL_law_622 rfl (lv_at hl 0 rfl) ?_
      refine lv_iload_n hx hb dL_law_623 rfl (lv_at hl 3 rfl) ?_
      refine lv_iconst (v := (nI 1)) hx hb dL_law_624 (by decide) ?_
      refine lv_iadd hx hb dL_law_625 ?_
      refine va_sld hx hb hX hbl hbA hS in_1 dL_law_626 ?_
      have h := obs.2.2.2.2.2.2.2.2.2.2.2.2.2.2.2.1 SX SM hR (xs (x3 + (nI 1)).toNatClampNeg)
      refine x_i (x_V (gokX hiX) (c0 := 0) (As := [.int (xs (x3 + (nI 1)).toNatClampNeg)]) (rest := []) F BIG_in hKX hPX (fun U hU hW => hgX.to aX hS hU hW) (c_X8_best hiX SX (xs (x3 + (nI 1)).toNatClampNeg) _ h) cal_X8_best kML_L_81 (by decide) rfl cfX8 ⟨rfl, rfl, Nat.le_of_ble_eq_true rfl, Nat.le_of_ble_eq_true rfl⟩ rfl rfl hl.1 (Nat.le_of_ble_eq_true rfl) ⟨Nat.le_of_ble_eq_true rfl, Nat.le_of_ble_eq_true rfl⟩ dL_law_627) hS aX hPM (dX SM) (fun r_0 SX1 H locs h hPX hPM hS => ?_)
      refine lv_aload_n hx hb dL_law_630 rfl (lv_at hl 2 rfl) ?_
      refine lv_aload_n hx hb dL_law_631 rfl (lv_at hl 0 rfl) ?_
      refine lv_iload_n hx hb dL_law_632 rfl (lv_at hl 3 rfl) ?_
      refine lv_iconst (v := (nI 1)) hx hb dL_law_633 (by decide) ?_
      refine lv_iadd hx hb dL_law_634 ?_
      refine va_sld hx hb hX hbl hbA hS in_1 dL_law_635 ?_
      refine x_i (x_V (gokM hiM) (c0 := 0) (As := [.int (xs (x3 + (nI 1)).toNatClampNeg)]) (rest := [.int r_0]) F BIG_in hKM (show va_P ZM.1 vwCl _ H by rw [eD]; exact hPM) (fun U hU hW => va_K.moved hW.alike hKM) (c_X9_best hiM SM (xs (x3 + (nI 1)).toNatClampNeg) _ h) cal_X9_best kML_L_84 (by decide) rfl cfX9 ⟨rfl, rfl, Nat.le_of_ble_eq_true rfl, Nat.le_of_ble_eq_true rfl⟩ rfl rfl hl.1 (Nat.le_of_ble_eq_true rfl) ⟨Nat.le_of_ble_eq_true rfl, Nat.le_of_ble_eq_true rfl⟩ dL_law_636) hS aM (show va_P ZM.1 vwCl (wl shX 68 ZX SX1) H by rw [eD]; exact hPX) (dM SX1) (fun r_1 SM1 H locs h hPM hPX hS => ?_)
      rw [eD] at hPM hPX
      refine lv_icmp_eq (tgt := 886) hx hb dL_law_639 (by decide) (fun _ => ?_) (fun c_2 => absurd h.1 c_2)
      exact tail SX1 SM1 H locs h.2 hPX hPM hS
    by_cases cs_16 : sw = (nI 16)
    · rw [cs_16]
      refine lv_tableIn (tgt := 644) hx hb dL_law_33 (by decide) (by decide) rfl (by decide) ?_
      refine lv_aload_n hx hb dL_law_644 rfl (lv_at hl 1 rfl) ?_
      refine lv_aload_n hx hb dL_law_645 rfl (lv_at hl 0 rfl) ?_
      refine lv_iload_n hx hb dL_law_646 rfl (lv_at hl 3 rfl) ?_
      refine lv_iconst (v := (nI 1)) hx hb dL_law_647 (by decide) ?_
      refine lv_iadd hx hb dL_law_648 ?_
      refine va_sld hx hb hX hbl hbA hS in_1 dL_law_649 ?_
      have h := obs.2.2.2.2.2.2.2.2.2.2.2.2.2.2.2.2.1 SX SM hR (xs (x3 + (nI 1)).toNatClampNeg)
      refine x_i (x_V (gokX hiX) (c0 := 0) (As := [.int (xs (x3 + (nI 1)).toNatClampNeg)]) (rest := []) F BIG_in hKX hPX (fun U hU hW => hgX.to aX hS hU hW) (c_X8_allDay hiX SX (xs (x3 + (nI 1)).toNatClampNeg) _ h) cal_X8_allDay kML_L_85 (by decide) rfl cfX8 ⟨rfl, rfl, Nat.le_of_ble_eq_true rfl, Nat.le_of_ble_eq_true rfl⟩ rfl rfl hl.1 (Nat.le_of_ble_eq_true rfl) ⟨Nat.le_of_ble_eq_true rfl, Nat.le_of_ble_eq_true rfl⟩ dL_law_650) hS aX hPM (dX SM) (fun r_0 SX1 H locs h hPX hPM hS => ?_)
      refine lv_aload_n hx hb dL_law_653 rfl (lv_at hl 2 rfl) ?_
      refine lv_aload_n hx hb dL_law_654 rfl (lv_at hl 0 rfl) ?_
      refine lv_iload_n hx hb dL_law_655 rfl (lv_at hl 3 rfl) ?_
      refine lv_iconst (v := (nI 1)) hx hb dL_law_656 (by decide) ?_
      refine lv_iadd hx hb dL_law_657 ?_
      refine va_sld hx hb hX hbl hbA hS in_1 dL_law_658 ?_
      refine x_i (x_V (gokM hiM) (c0 := 0) (As := [.int (xs (x3 + (nI 1)).toNatClampNeg)]) (rest := [.int r_0]) F BIG_in hKM (show va_P ZM.1 vwCl _ H by rw [eD]; exact hPM) (fun U hU hW => va_K.moved hW.alike hKM) (c_X9_allDay hiM SM (xs (x3 + (nI 1)).toNatClampNeg) _ h) cal_X9_allDay kML_L_88 (by decide) rfl cfX9 ⟨rfl, rfl, Nat.le_of_ble_eq_true rfl, Nat.le_of_ble_eq_true rfl⟩ rfl rfl hl.1 (Nat.le_of_ble_eq_true rfl) ⟨Nat.le_of_ble_eq_true rfl, Nat.le_of_ble_eq_true rfl⟩ dL_law_659) hS aM (show va_P ZM.1 vwCl (wl shX 68 ZX SX1) H by rw [eD]; exact hPX) (dM SX1) (fun r_1 SM1 H locs h hPM hPX hS => ?_)
      rw [eD] at hPM hPX
      refine lv_icmp_eq (tgt := 886) hx hb dL_law_662 (by decide) (fun _ => ?_) (fun c_2 => absurd h.1 c_2)
      exact tail SX1 SM1 H locs h.2 hPX hPM hS
    by_cases cs_17 : sw = (nI 17)
    · rw [cs_17]
      refine lv_tableIn (tgt := 667) hx hb dL_law_33 (by decide) (by decide) rfl (by decide) ?_
      refine lv_aload_n hx hb dL_law_667 rfl (lv_at hl 1 rfl) ?_
      refine lv_aload_n hx hb dL_law_668 rfl (lv_at hl 0 rfl) ?_
      refine lv_iload_n hx hb dL_law_669 rfl (lv_at hl 3 rfl) ?_
      refine lv_iconst (v := (nI 1)) hx hb dL_law_670 (by decide) ?_
      refine lv_iadd hx hb dL_law_671 ?_
      refine va_sld hx hb hX hbl hbA hS in_1 dL_law_672 ?_
      have h := obs.2.2.2.2.2.2.2.2.2.2.2.2.2.2.2.2.2.1 SX SM hR (xs (x3 + (nI 1)).toNatClampNeg)
      refine x_i (x_V (gokX hiX) (c0 := 0) (As := [.int (xs (x3 + (nI 1)).toNatClampNeg)]) (rest := []) F BIG_in hKX hPX (fun U hU hW => hgX.to aX hS hU hW) (c_X8_laws hiX SX (xs (x3 + (nI 1)).toNatClampNeg) _ h) cal_X8_laws kML_L_89 (by decide) rfl cfX8 ⟨rfl, rfl, Nat.le_of_ble_eq_true rfl, Nat.le_of_ble_eq_true rfl⟩ rfl rfl hl.1 (Nat.le_of_ble_eq_true rfl) ⟨Nat.le_of_ble_eq_true rfl, Nat.le_of_ble_eq_true rfl⟩ dL_law_673) hS aX hPM (dX SM) (fun r_0 SX1 H locs h hPX hPM hS => ?_)
      refine lv_aload_n hx hb dL_law_676 rfl (lv_at hl 2 rfl) ?_
      refine lv_aload_n hx hb dL_law_677 rfl (lv_at hl 0 rfl) ?_
      refine lv_iload_n hx hb dL_law_678 rfl (lv_at hl 3 rfl) ?_
      refine lv_iconst (v := (nI 1)) hx hb dL_law_679 (by decide) ?_
      refine lv_iadd hx hb dL_law_680 ?_
      refine va_sld hx hb hX hbl hbA hS in_1 dL_law_681 ?_
      refine x_i (x_V (gokM hiM) (c0 := 0) (As := [.int (xs (x3 + (nI 1)).toNatClampNeg)]) (rest := [.int r_0]) F BIG_in hKM (show va_P ZM.1 vwCl _ H by rw [eD]; exact hPM) (fun U hU hW => va_K.moved hW.alike hKM) (c_X9_laws hiM SM (xs (x3 + (nI 1)).toNatClampNeg) _ h) cal_X9_laws kML_L_92 (by decide) rfl cfX9 ⟨rfl, rfl, Nat.le_of_ble_eq_true rfl, Nat.le_of_ble_eq_true rfl⟩ rfl rfl hl.1 (Nat.le_of_ble_eq_true rfl) ⟨Nat.le_of_ble_eq_true rfl, Nat.le_of_ble_eq_true rfl⟩ dL_law_682) hS aM (show va_P ZM.1 vwCl (wl shX 68 ZX SX1) H by rw [eD]; exact hPX) (dM SX1) (fun r_1 SM1 H locs h hPM hPX hS => ?_)
      rw [eD] at hPM hPX
      refine lv_icmp_eq (tgt := 886) hx hb dL_law_685 (by decide) (fun _ => ?_) (fun c_2 => absurd h.1 c_2)
      exact tail SX1 SM1 H locs h.2 hPX hPM hS
    by_cases cs_18 : sw = (nI 18)
    · rw [cs_18]
      refine lv_tableIn (tgt := 690) hx hb dL_law_33 (by decide) (by decide) rfl (by decide) ?_
      refine lv_aload_n hx hb dL_law_690 rfl (lv_at hl 1 rfl) ?_
      refine lv_aload_n hx hb dL_law_691 rfl (lv_at hl 0 rfl) ?_
      refine lv_iload_n hx hb dL_law_692 rfl (lv_at hl 3 rfl) ?_
      refine lv_iconst (v := (nI 1)) hx hb dL_law_693 (by decide) ?_
      refine lv_iadd hx hb dL_law_694 ?_
      refine va_sld hx hb hX hbl hbA hS in_1 dL_law_695 ?_
      refine lv_aload_n hx hb dL_law_696 rfl (lv_at hl 0 rfl) ?_
      refine lv_iload_n hx hb dL_law_697 rfl (lv_at hl 3 rfl) ?_
      refine lv_iconst (v := (nI 2)) hx hb dL_law_698 (by decide) ?_
      refine lv_iadd hx hb dL_law_699 ?_
      refine va_sld hx hb hX hbl hbA hS in_2 dL_law_700 ?_
      refine lv_aload_n hx hb dL_law_701 rfl (lv_at hl 0 rfl) ?_
      refine lv_iload_n hx hb dL_law_702 rfl (lv_at hl 3 rfl) ?_
      refine lv_iconst (v := (nI 3)) hx hb dL_law_703 (by decide) ?_
      refine lv_iadd hx hb dL_law_704 ?_
      refine va_sld hx hb hX hbl hbA hS in_3 dL_law_705 ?_
      refine lv_aload_n hx hb dL_law_706 rfl (lv_at hl 0 rfl) ?_
      refine lv_iload_n hx hb dL_law_707 rfl (lv_at hl 3 rfl) ?_
      refine lv_iconst (v := (nI 4)) hx hb dL_law_708 (by decide) ?_
      refine lv_iadd hx hb dL_law_709 ?_
      refine va_sld hx hb hX hbl hbA hS in_4 dL_law_710 ?_
      refine lv_aload_n hx hb dL_law_711 rfl (lv_at hl 0 rfl) ?_
      refine lv_iload_n hx hb dL_law_712 rfl (lv_at hl 3 rfl) ?_
      refine lv_iconst (v := (nI 5)) hx hb dL_law_713 (by decide) ?_
      refine lv_iadd hx hb dL_law_714 ?_
      refine va_sld hx hb hX hbl hbA hS in_5 dL_law_715 ?_
      refine lv_aload_n hx hb dL_law_716 rfl (lv_at hl 0 rfl) ?_
      refine lv_iload_n hx hb dL_law_717 rfl (lv_at hl 3 rfl) ?_
      refine lv_bipush (v := (nI 6)) hx hb dL_law_718 (by decide) ?_
      refine lv_iadd hx hb dL_law_720 ?_
      refine va_sld hx hb hX hbl hbA hS in_6 dL_law_721 ?_
      have h := obs.2.2.2.2.2.2.2.2.2.2.2.2.2.2.2.2.2.2.1 SX SM hR (xs (x3 + (nI 1)).toNatClampNeg) (xs (x3 + (nI 2)).toNatClampNeg) (xs (x3 + (nI 3)).toNatClampNeg) (xs (x3 + (nI 4)).toNatClampNeg) (xs (x3 + (nI 5)).toNatClampNeg) (xs (x3 + (nI 6)).toNatClampNeg)
      refine x_l (x_V (gokX hiX) (c0 := 0) (As := [.int (xs (x3 + (nI 1)).toNatClampNeg), .int (xs (x3 + (nI 2)).toNatClampNeg), .int (xs (x3 + (nI 3)).toNatClampNeg), .int (xs (x3 + (nI 4)).toNatClampNeg), .int (xs (x3 + (nI 5)).toNatClampNeg), .int (xs (x3 + (nI 6)).toNatClampNeg)]) (rest := []) F BIG_in hKX hPX (fun U hU hW => hgX.to aX hS hU hW) (c_X8_food hiX SX (xs (x3 + (nI 1)).toNatClampNeg) (xs (x3 + (nI 2)).toNatClampNeg) (xs (x3 + (nI 3)).toNatClampNeg) (xs (x3 + (nI 4)).toNatClampNeg) (xs (x3 + (nI 5)).toNatClampNeg) (xs (x3 + (nI 6)).toNatClampNeg) _ h) cal_X8_food kML_L_93 (by decide) rfl cfX8 ⟨rfl, rfl, Nat.le_of_ble_eq_true rfl, Nat.le_of_ble_eq_true rfl⟩ rfl rfl hl.1 (Nat.le_of_ble_eq_true rfl) ⟨Nat.le_of_ble_eq_true rfl, Nat.le_of_ble_eq_true rfl⟩ dL_law_722) hS aX hPM (dX SM) (fun r_0 SX1 H locs h hPX hPM hS => ?_)
      refine lv_aload_n hx hb dL_law_725 rfl (lv_at hl 2 rfl) ?_
      refine lv_aload_n hx hb dL_law_726 rfl (lv_at hl 0 rfl) ?_
      refine lv_iload_n hx hb dL_law_727 rfl (lv_at hl 3 rfl) ?_
      refine lv_iconst (v := (nI 1)) hx hb dL_law_728 (by decide) ?_
      refine lv_iadd hx hb dL_law_729 ?_
      refine va_sld hx hb hX hbl hbA hS in_1 dL_law_730 ?_
      refine lv_aload_n hx hb dL_law_731 rfl (lv_at hl 0 rfl) ?_
      refine lv_iload_n hx hb dL_law_732 rfl (lv_at hl 3 rfl) ?_
      refine lv_iconst (v := (nI 2)) hx hb dL_law_733 (by decide) ?_
      refine lv_iadd hx hb dL_law_734 ?_
      refine va_sld hx hb hX hbl hbA hS in_2 dL_law_735 ?_
      refine lv_aload_n hx hb dL_law_736 rfl (lv_at hl 0 rfl) ?_
      refine lv_iload_n hx hb dL_law_737 rfl (lv_at hl 3 rfl) ?_
      refine lv_iconst (v := (nI 3)) hx hb dL_law_738 (by decide) ?_
      refine lv_iadd hx hb dL_law_739 ?_
      refine va_sld hx hb hX hbl hbA hS in_3 dL_law_740 ?_
      refine lv_aload_n hx hb dL_law_741 rfl (lv_at hl 0 rfl) ?_
      refine lv_iload_n hx hb dL_law_742 rfl (lv_at hl 3 rfl) ?_
      refine lv_iconst (v := (nI 4)) hx hb dL_law_743 (by decide) ?_
      refine lv_iadd hx hb dL_law_744 ?_
      refine va_sld hx hb hX hbl hbA hS in_4 dL_law_745 ?_
      refine lv_aload_n hx hb dL_law_746 rfl (lv_at hl 0 rfl) ?_
      refine lv_iload_n hx hb dL_law_747 rfl (lv_at hl 3 rfl) ?_
      refine lv_iconst (v := (nI 5)) hx hb dL_law_748 (by decide) ?_
      refine lv_iadd hx hb dL_law_749 ?_
      refine va_sld hx hb hX hbl hbA hS in_5 dL_law_750 ?_
      refine lv_aload_n hx hb dL_law_751 rfl (lv_at hl 0 rfl) ?_
      refine lv_iload_n hx hb dL_law_752 rfl (lv_at hl 3 rfl) ?_
      refine lv_bipush (v := (nI 6)) hx hb dL_law_753 (by decide) ?_
      refine lv_iadd hx hb dL_law_755 ?_
      refine va_sld hx hb hX hbl hbA hS in_6 dL_law_756 ?_
      refine x_l (x_V (gokM hiM) (c0 := 0) (As := [.int (xs (x3 + (nI 1)).toNatClampNeg), .int (xs (x3 + (nI 2)).toNatClampNeg), .int (xs (x3 + (nI 3)).toNatClampNeg), .int (xs (x3 + (nI 4)).toNatClampNeg), .int (xs (x3 + (nI 5)).toNatClampNeg), .int (xs (x3 + (nI 6)).toNatClampNeg)]) (rest := [.long r_0]) F BIG_in hKM (show va_P ZM.1 vwCl _ H by rw [eD]; exact hPM) (fun U hU hW => va_K.moved hW.alike hKM) (c_X9_food hiM SM (xs (x3 + (nI 1)).toNatClampNeg) (xs (x3 + (nI 2)).toNatClampNeg) (xs (x3 + (nI 3)).toNatClampNeg) (xs (x3 + (nI 4)).toNatClampNeg) (xs (x3 + (nI 5)).toNatClampNeg) (xs (x3 + (nI 6)).toNatClampNeg) _ h) cal_X9_food kML_L_97 (by decide) rfl cfX9 ⟨rfl, rfl, Nat.le_of_ble_eq_true rfl, Nat.le_of_ble_eq_true rfl⟩ rfl rfl hl.1 (Nat.le_of_ble_eq_true rfl) ⟨Nat.le_of_ble_eq_true rfl, Nat.le_of_ble_eq_true rfl⟩ dL_law_757) hS aM (show va_P ZM.1 vwCl (wl shX 68 ZX SX1) H by rw [eD]; exact hPX) (dM SX1) (fun r_1 SM1 H locs h hPM hPX hS => ?_)
      obtain ⟨eS_, h⟩ := h
      rw [eS_] at hPM
      rw [eD] at hPM hPX
      refine W.lcmp hx hb dL_law_760 ?_
      refine lv_if_eq (tgt := 886) hx hb dL_law_761 (by decide) (fun _ => ?_) (fun c_2 => absurd (by rw [h.1]; exact lg_self _) c_2)
      exact tail SX1 SM H locs h.2 hPX hPM hS
    by_cases cs_19 : sw = (nI 19)
    · rw [cs_19]
      refine lv_tableIn (tgt := 766) hx hb dL_law_33 (by decide) (by decide) rfl (by decide) ?_
      refine lv_aload_n hx hb dL_law_766 rfl (lv_at hl 1 rfl) ?_
      refine lv_aload_n hx hb dL_law_767 rfl (lv_at hl 0 rfl) ?_
      refine lv_iload_n hx hb dL_law_768 rfl (lv_at hl 3 rfl) ?_
      refine lv_iconst (v := (nI 1)) hx hb dL_law_769 (by decide) ?_
      refine lv_iadd hx hb dL_law_770 ?_
      refine va_sld hx hb hX hbl hbA hS in_1 dL_law_771 ?_
      refine lv_aload_n hx hb dL_law_772 rfl (lv_at hl 0 rfl) ?_
      refine lv_iload_n hx hb dL_law_773 rfl (lv_at hl 3 rfl) ?_
      refine lv_iconst (v := (nI 2)) hx hb dL_law_774 (by decide) ?_
      refine lv_iadd hx hb dL_law_775 ?_
      refine va_sld hx hb hX hbl hbA hS in_2 dL_law_776 ?_
      refine lv_aload_n hx hb dL_law_777 rfl (lv_at hl 0 rfl) ?_
      refine lv_iload_n hx hb dL_law_778 rfl (lv_at hl 3 rfl) ?_
      refine lv_iconst (v := (nI 3)) hx hb dL_law_779 (by decide) ?_
      refine lv_iadd hx hb dL_law_780 ?_
      refine va_sld hx hb hX hbl hbA hS in_3 dL_law_781 ?_
      refine lv_aload_n hx hb dL_law_782 rfl (lv_at hl 0 rfl) ?_
      refine lv_iload_n hx hb dL_law_783 rfl (lv_at hl 3 rfl) ?_
      refine lv_iconst (v := (nI 4)) hx hb dL_law_784 (by decide) ?_
      refine lv_iadd hx hb dL_law_785 ?_
      refine va_sld hx hb hX hbl hbA hS in_4 dL_law_786 ?_
      refine lv_aload_n hx hb dL_law_787 rfl (lv_at hl 0 rfl) ?_
      refine lv_iload_n hx hb dL_law_788 rfl (lv_at hl 3 rfl) ?_
      refine lv_iconst (v := (nI 5)) hx hb dL_law_789 (by decide) ?_
      refine lv_iadd hx hb dL_law_790 ?_
      refine va_sld hx hb hX hbl hbA hS in_5 dL_law_791 ?_
      have h := obs.2.2.2.2.2.2.2.2.2.2.2.2.2.2.2.2.2.2.2.1 SX SM hR (xs (x3 + (nI 1)).toNatClampNeg) (xs (x3 + (nI 2)).toNatClampNeg) (xs (x3 + (nI 3)).toNatClampNeg) (xs (x3 + (nI 4)).toNatClampNeg) (xs (x3 + (nI 5)).toNatClampNeg)
      refine x_l (x_V (gokX hiX) (c0 := 0) (As := [.int (xs (x3 + (nI 1)).toNatClampNeg), .int (xs (x3 + (nI 2)).toNatClampNeg), .int (xs (x3 + (nI 3)).toNatClampNeg), .int (xs (x3 + (nI 4)).toNatClampNeg), .int (xs (x3 + (nI 5)).toNatClampNeg)]) (rest := []) F BIG_in hKX hPX (fun U hU hW => hgX.to aX hS hU hW) (c_X8_cut hiX SX (xs (x3 + (nI 1)).toNatClampNeg) (xs (x3 + (nI 2)).toNatClampNeg) (xs (x3 + (nI 3)).toNatClampNeg) (xs (x3 + (nI 4)).toNatClampNeg) (xs (x3 + (nI 5)).toNatClampNeg) _ h) cal_X8_cut kML_L_98 (by decide) rfl cfX8 ⟨rfl, rfl, Nat.le_of_ble_eq_true rfl, Nat.le_of_ble_eq_true rfl⟩ rfl rfl hl.1 (Nat.le_of_ble_eq_true rfl) ⟨Nat.le_of_ble_eq_true rfl, Nat.le_of_ble_eq_true rfl⟩ dL_law_792) hS aX hPM (dX SM) (fun r_0 SX1 H locs h hPX hPM hS => ?_)
      refine lv_aload_n hx hb dL_law_795 rfl (lv_at hl 2 rfl) ?_
      refine lv_aload_n hx hb dL_law_796 rfl (lv_at hl 0 rfl) ?_
      refine lv_iload_n hx hb dL_law_797 rfl (lv_at hl 3 rfl) ?_
      refine lv_iconst (v := (nI 1)) hx hb dL_law_798 (by decide) ?_
      refine lv_iadd hx hb dL_law_799 ?_
      refine va_sld hx hb hX hbl hbA hS in_1 dL_law_800 ?_
      refine lv_aload_n hx hb dL_law_801 rfl (lv_at hl 0 rfl) ?_
      refine lv_iload_n hx hb dL_law_802 rfl (lv_at hl 3 rfl) ?_
      refine lv_iconst (v := (nI 2)) hx hb dL_law_803 (by decide) ?_
      refine lv_iadd hx hb dL_law_804 ?_
      refine va_sld hx hb hX hbl hbA hS in_2 dL_law_805 ?_
      refine lv_aload_n hx hb dL_law_806 rfl (lv_at hl 0 rfl) ?_
      refine lv_iload_n hx hb dL_law_807 rfl (lv_at hl 3 rfl) ?_
      refine lv_iconst (v := (nI 3)) hx hb dL_law_808 (by decide) ?_
      refine lv_iadd hx hb dL_law_809 ?_
      refine va_sld hx hb hX hbl hbA hS in_3 dL_law_810 ?_
      refine lv_aload_n hx hb dL_law_811 rfl (lv_at hl 0 rfl) ?_
      refine lv_iload_n hx hb dL_law_812 rfl (lv_at hl 3 rfl) ?_
      refine lv_iconst (v := (nI 4)) hx hb dL_law_813 (by decide) ?_
      refine lv_iadd hx hb dL_law_814 ?_
      refine va_sld hx hb hX hbl hbA hS in_4 dL_law_815 ?_
      refine lv_aload_n hx hb dL_law_816 rfl (lv_at hl 0 rfl) ?_
      refine lv_iload_n hx hb dL_law_817 rfl (lv_at hl 3 rfl) ?_
      refine lv_iconst (v := (nI 5)) hx hb dL_law_818 (by decide) ?_
      refine lv_iadd hx hb dL_law_819 ?_
      refine va_sld hx hb hX hbl hbA hS in_5 dL_law_820 ?_
      refine x_l (x_V (gokM hiM) (c0 := 0) (As := [.int (xs (x3 + (nI 1)).toNatClampNeg), .int (xs (x3 + (nI 2)).toNatClampNeg), .int (xs (x3 + (nI 3)).toNatClampNeg), .int (xs (x3 + (nI 4)).toNatClampNeg), .int (xs (x3 + (nI 5)).toNatClampNeg)]) (rest := [.long r_0]) F BIG_in hKM (show va_P ZM.1 vwCl _ H by rw [eD]; exact hPM) (fun U hU hW => va_K.moved hW.alike hKM) (c_X9_cut hiM SM (xs (x3 + (nI 1)).toNatClampNeg) (xs (x3 + (nI 2)).toNatClampNeg) (xs (x3 + (nI 3)).toNatClampNeg) (xs (x3 + (nI 4)).toNatClampNeg) (xs (x3 + (nI 5)).toNatClampNeg) _ h) cal_X9_cut kML_L_102 (by decide) rfl cfX9 ⟨rfl, rfl, Nat.le_of_ble_eq_true rfl, Nat.le_of_ble_eq_true rfl⟩ rfl rfl hl.1 (Nat.le_of_ble_eq_true rfl) ⟨Nat.le_of_ble_eq_true rfl, Nat.le_of_ble_eq_true rfl⟩ dL_law_821) hS aM (show va_P ZM.1 vwCl (wl shX 68 ZX SX1) H by rw [eD]; exact hPX) (dM SX1) (fun r_1 SM1 H locs h hPM hPX hS => ?_)
      obtain ⟨eS_, h⟩ := h
      rw [eS_] at hPM
      rw [eD] at hPM hPX
      refine W.lcmp hx hb dL_law_824 ?_
      refine lv_if_eq (tgt := 886) hx hb dL_law_825 (by decide) (fun _ => ?_) (fun c_2 => absurd (by rw [h.1]; exact lg_self _) c_2)
      exact tail SX1 SM H locs h.2 hPX hPM hS
    by_cases cs_20 : sw = (nI 20)
    · rw [cs_20]
      refine lv_tableIn (tgt := 830) hx hb dL_law_33 (by decide) (by decide) rfl (by decide) ?_
      refine lv_aload_n hx hb dL_law_830 rfl (lv_at hl 1 rfl) ?_
      refine lv_aload_n hx hb dL_law_831 rfl (lv_at hl 0 rfl) ?_
      refine lv_iload_n hx hb dL_law_832 rfl (lv_at hl 3 rfl) ?_
      refine lv_iconst (v := (nI 1)) hx hb dL_law_833 (by decide) ?_
      refine lv_iadd hx hb dL_law_834 ?_
      refine va_sld hx hb hX hbl hbA hS in_1 dL_law_835 ?_
      refine lv_aload_n hx hb dL_law_836 rfl (lv_at hl 0 rfl) ?_
      refine lv_iload_n hx hb dL_law_837 rfl (lv_at hl 3 rfl) ?_
      refine lv_iconst (v := (nI 2)) hx hb dL_law_838 (by decide) ?_
      refine lv_iadd hx hb dL_law_839 ?_
      refine va_sld hx hb hX hbl hbA hS in_2 dL_law_840 ?_
      have h := obs.2.2.2.2.2.2.2.2.2.2.2.2.2.2.2.2.2.2.2.2.1 SX SM hR (xs (x3 + (nI 1)).toNatClampNeg) (xs (x3 + (nI 2)).toNatClampNeg)
      refine x_i (x_V (gokX hiX) (c0 := 0) (As := [.int (xs (x3 + (nI 1)).toNatClampNeg), .int (xs (x3 + (nI 2)).toNatClampNeg)]) (rest := []) F BIG_in hKX hPX (fun U hU hW => hgX.to aX hS hU hW) (c_X8_share hiX SX (xs (x3 + (nI 1)).toNatClampNeg) (xs (x3 + (nI 2)).toNatClampNeg) _ h) cal_X8_share kML_L_103 (by decide) rfl cfX8 ⟨rfl, rfl, Nat.le_of_ble_eq_true rfl, Nat.le_of_ble_eq_true rfl⟩ rfl rfl hl.1 (Nat.le_of_ble_eq_true rfl) ⟨Nat.le_of_ble_eq_true rfl, Nat.le_of_ble_eq_true rfl⟩ dL_law_841) hS aX hPM (dX SM) (fun r_0 SX1 H locs h hPX hPM hS => ?_)
      obtain ⟨eS_, h⟩ := h
      rw [eS_] at hPX
      refine lv_aload_n hx hb dL_law_844 rfl (lv_at hl 2 rfl) ?_
      refine lv_aload_n hx hb dL_law_845 rfl (lv_at hl 0 rfl) ?_
      refine lv_iload_n hx hb dL_law_846 rfl (lv_at hl 3 rfl) ?_
      refine lv_iconst (v := (nI 1)) hx hb dL_law_847 (by decide) ?_
      refine lv_iadd hx hb dL_law_848 ?_
      refine va_sld hx hb hX hbl hbA hS in_1 dL_law_849 ?_
      refine lv_aload_n hx hb dL_law_850 rfl (lv_at hl 0 rfl) ?_
      refine lv_iload_n hx hb dL_law_851 rfl (lv_at hl 3 rfl) ?_
      refine lv_iconst (v := (nI 2)) hx hb dL_law_852 (by decide) ?_
      refine lv_iadd hx hb dL_law_853 ?_
      refine va_sld hx hb hX hbl hbA hS in_2 dL_law_854 ?_
      refine x_i (x_V (gokM hiM) (c0 := 0) (As := [.int (xs (x3 + (nI 1)).toNatClampNeg), .int (xs (x3 + (nI 2)).toNatClampNeg)]) (rest := [.int r_0]) F BIG_in hKM (show va_P ZM.1 vwCl _ H by rw [eD]; exact hPM) (fun U hU hW => va_K.moved hW.alike hKM) (c_X9_share hiM SM (xs (x3 + (nI 1)).toNatClampNeg) (xs (x3 + (nI 2)).toNatClampNeg) _ h) cal_X9_share kML_L_106 (by decide) rfl cfX9 ⟨rfl, rfl, Nat.le_of_ble_eq_true rfl, Nat.le_of_ble_eq_true rfl⟩ rfl rfl hl.1 (Nat.le_of_ble_eq_true rfl) ⟨Nat.le_of_ble_eq_true rfl, Nat.le_of_ble_eq_true rfl⟩ dL_law_855) hS aM (show va_P ZM.1 vwCl (wl shX 68 ZX SX) H by rw [eD]; exact hPX) (dM SX) (fun r_1 SM1 H locs h hPM hPX hS => ?_)
      obtain ⟨eS_, h⟩ := h
      rw [eS_] at hPM
      rw [eD] at hPM hPX
      refine lv_icmp_eq (tgt := 886) hx hb dL_law_858 (by decide) (fun _ => ?_) (fun c_2 => absurd h.1 c_2)
      exact tail SX SM H locs h.2 hPX hPM hS
    by_cases cs_21 : sw = (nI 21)
    · rw [cs_21]
      refine lv_tableIn (tgt := 863) hx hb dL_law_33 (by decide) (by decide) rfl (by decide) ?_
      refine lv_aload_n hx hb dL_law_863 rfl (lv_at hl 1 rfl) ?_
      refine lv_aload_n hx hb dL_law_864 rfl (lv_at hl 0 rfl) ?_
      refine lv_iload_n hx hb dL_law_865 rfl (lv_at hl 3 rfl) ?_
      refine lv_iconst (v := (nI 1)) hx hb dL_law_866 (by decide) ?_
      refine lv_iadd hx hb dL_law_867 ?_
      refine va_sld hx hb hX hbl hbA hS in_1 dL_law_868 ?_
      have h := obs.2.2.2.2.2.2.2.2.2.2.2.2.2.2.2.2.2.2.2.2.2 SX SM hR (xs (x3 + (nI 1)).toNatClampNeg)
      refine x_i (x_V (gokX hiX) (c0 := 0) (As := [.int (xs (x3 + (nI 1)).toNatClampNeg)]) (rest := []) F BIG_in hKX hPX (fun U hU hW => hgX.to aX hS hU hW) (c_X8_count hiX SX (xs (x3 + (nI 1)).toNatClampNeg) _ h) cal_X8_count kML_L_107 (by decide) rfl cfX8 ⟨rfl, rfl, Nat.le_of_ble_eq_true rfl, Nat.le_of_ble_eq_true rfl⟩ rfl rfl hl.1 (Nat.le_of_ble_eq_true rfl) ⟨Nat.le_of_ble_eq_true rfl, Nat.le_of_ble_eq_true rfl⟩ dL_law_869) hS aX hPM (dX SM) (fun r_0 SX1 H locs h hPX hPM hS => ?_)
      obtain ⟨eS_, h⟩ := h
      rw [eS_] at hPX
      refine lv_aload_n hx hb dL_law_872 rfl (lv_at hl 2 rfl) ?_
      refine lv_aload_n hx hb dL_law_873 rfl (lv_at hl 0 rfl) ?_
      refine lv_iload_n hx hb dL_law_874 rfl (lv_at hl 3 rfl) ?_
      refine lv_iconst (v := (nI 1)) hx hb dL_law_875 (by decide) ?_
      refine lv_iadd hx hb dL_law_876 ?_
      refine va_sld hx hb hX hbl hbA hS in_1 dL_law_877 ?_
      refine x_i (x_V (gokM hiM) (c0 := 0) (As := [.int (xs (x3 + (nI 1)).toNatClampNeg)]) (rest := [.int r_0]) F BIG_in hKM (show va_P ZM.1 vwCl _ H by rw [eD]; exact hPM) (fun U hU hW => va_K.moved hW.alike hKM) (c_X9_count hiM SM (xs (x3 + (nI 1)).toNatClampNeg) _ h) cal_X9_count kML_L_110 (by decide) rfl cfX9 ⟨rfl, rfl, Nat.le_of_ble_eq_true rfl, Nat.le_of_ble_eq_true rfl⟩ rfl rfl hl.1 (Nat.le_of_ble_eq_true rfl) ⟨Nat.le_of_ble_eq_true rfl, Nat.le_of_ble_eq_true rfl⟩ dL_law_878) hS aM (show va_P ZM.1 vwCl (wl shX 68 ZX SX) H by rw [eD]; exact hPX) (dM SX) (fun r_1 SM1 H locs h hPM hPX hS => ?_)
      obtain ⟨eS_, h⟩ := h
      rw [eS_] at hPM
      rw [eD] at hPM hPX
      refine lv_icmp_eq (tgt := 886) hx hb dL_law_881 (by decide) (fun _ => ?_) (fun c_2 => absurd h.1 c_2)
      exact tail SX SM H locs h.2 hPX hPM hS
    have cn_0 := tIne cs_0 (z := 0) (by decide)
    have cn_1 := tIne cs_1 (z := 1) (by decide)
    have cn_2 := tIne cs_2 (z := 2) (by decide)
    have cn_3 := tIne cs_3 (z := 3) (by decide)
    have cn_4 := tIne cs_4 (z := 4) (by decide)
    have cn_5 := tIne cs_5 (z := 5) (by decide)
    have cn_6 := tIne cs_6 (z := 6) (by decide)
    have cn_7 := tIne cs_7 (z := 7) (by decide)
    have cn_8 := tIne cs_8 (z := 8) (by decide)
    have cn_9 := tIne cs_9 (z := 9) (by decide)
    have cn_10 := tIne cs_10 (z := 10) (by decide)
    have cn_11 := tIne cs_11 (z := 11) (by decide)
    have cn_12 := tIne cs_12 (z := 12) (by decide)
    have cn_13 := tIne cs_13 (z := 13) (by decide)
    have cn_14 := tIne cs_14 (z := 14) (by decide)
    have cn_15 := tIne cs_15 (z := 15) (by decide)
    have cn_16 := tIne cs_16 (z := 16) (by decide)
    have cn_17 := tIne cs_17 (z := 17) (by decide)
    have cn_18 := tIne cs_18 (z := 18) (by decide)
    have cn_19 := tIne cs_19 (z := 19) (by decide)
    have cn_20 := tIne cs_20 (z := 20) (by decide)
    have cn_21 := tIne cs_21 (z := 21) (by decide)
    refine lv_tableOut (tgt := 886) hx hb dL_law_33 (by omega) (by decide) ?_
    exact tail SX SM H locs hR hPX hPM hS
