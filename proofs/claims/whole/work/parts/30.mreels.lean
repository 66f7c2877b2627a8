/-! the reference: small words -/
abbrev rgL (x lo hi : Int64) : Prop := ¬ x < lo ∧ ¬ hi < x
theorem rgL_ite {x lo hi : Int32} {lo' hi' : Int64} (h1 : lo.toInt64 = lo') (h2 : hi.toInt64 = hi') : (if rgL x.toInt64 lo' hi' then (1 : Int32) else 0) = (if rg x lo hi then (1 : Int32) else 0) := by
  have e : rgL x.toInt64 lo' hi' ↔ rg x lo hi := by
    rw [← h1, ← h2]
    unfold rgL rg
    rw [fa_wide_lt, fa_wide_lt]
  by_cases h : rg x lo hi
  · rw [if_pos h, if_pos (e.mpr h)]
  · rw [if_neg h, if_neg (fun z => h (e.mp z))]
def effS (fo : Nat → Int32) (zM : Nat → Nat) : Nat → Nat := fun r => if fo r = -1 then 0 else zM r
theorem eff_up {fo : Nat → Int32} {zM : Nat → Nat} {r k : Nat} {y : Int32} (hy : ¬ y = -1) : effS (up fo r y) (up zM r k) = up (effS fo zM) r k := by
  funext j
  unfold effS up
  by_cases c : j = r
  · rw [if_pos c, if_pos c, if_pos c, if_neg hy]
  · rw [if_neg c, if_neg c, if_neg c]
theorem eff_lose (fo : Nat → Int32) (zM : Nat → Nat) (r : Nat) : effS (up fo r (-1)) zM = up (effS fo zM) r 0 := by
  funext j
  unfold effS up
  by_cases c : j = r
  · rw [if_pos c, if_pos c, if_pos rfl]
  · rw [if_neg c, if_neg c]
abbrev foOk (fo : Nat → Int32) : Prop := ∀ r, r < 18 → fo r = -1 ∨ rg (fo r) 0 2
theorem fo_neg {fo : Nat → Int32} (h : foOk fo) {r : Nat} (hr : r < 18) (hn : ¬ 0 ≤ fo r) : fo r = -1 := by
  rcases h r hr with q | q
  · exact q
  · exact absurd (Int32.not_lt.mp q.1) hn
theorem fo_pos {fo : Nat → Int32} {r : Nat} (hn : 0 ≤ fo r) : ¬ fo r = -1 := fun z => by rw [z] at hn; exact absurd hn (by decide)
def lackF (w : Int32) : Int32 := if w = 0 then 0 else -10 - w
theorem rgp {z : Nat} (hz : z ≤ 64) (i : Int32) : rg i 0 (nI z - 1) ↔ (¬ i < 0 ∧ i < nI z) := by
  constructor
  · rintro ⟨h1, h2⟩
    refine ⟨h1, ?_⟩
    obtain ⟨k, hk, rfl⟩ := nI_of h1
    rcases Nat.lt_or_ge k z with q | q
    · exact nI_lt q (by omega)
    · exfalso
      apply h2
      rw [fa_lt]
      have e : (nI z - nI 1).toInt = (z : Int) - 1 := pk_sub_toInt (by omega) (by decide)
      show (nI z - nI 1).toInt < _
      rw [e, nI_toInt hk]; omega
  · rintro ⟨h1, h2⟩
    refine ⟨h1, ?_⟩
    obtain ⟨k, hk, rfl⟩ := nI_of h1
    have hkz := (nI_ltI hk (by omega)).mp h2
    rw [fa_lt]
    have e : (nI z - nI 1).toInt = (z : Int) - 1 := pk_sub_toInt (by omega) (by decide)
    show ¬ (nI z - nI 1).toInt < _
    rw [e, nI_toInt hk]; omega
theorem lack_in {fo : Nat → Int32} {zM : Nat → Nat} {r : Nat} {x y : Int32} (h1 : ¬ fo r = -1) (h2 : fo r = x) (hz : zM r ≤ 64) (h3 : rg y 0 (nI (zM r) - 1)) : flawI fo (effS fo zM) r x y = 0 := by
  have := (rgp hz y).mp h3
  unfold flawI effS
  simp only [if_neg h1, if_pos h2, if_neg this.1, if_pos this.2]
theorem lack_out {fo : Nat → Int32} {zM : Nat → Nat} {r : Nat} {x y : Int32} (h1 : ¬ fo r = -1) (h2 : fo r = x) (hz : zM r ≤ 64) (h3 : ¬ rg y 0 (nI (zM r) - 1)) : flawI fo (effS fo zM) r x y = 2 := by
  unfold flawI effS
  simp only [if_neg h1, if_pos h2]
  by_cases c : y < 0
  · rw [if_pos c]
  · rw [if_neg c, if_neg (fun z => h3 ((rgp hz y).mpr ⟨c, z⟩))]
theorem lack_cast {fo : Nat → Int32} {sz : Nat → Nat} {r : Nat} {x y : Int32} (h1 : ¬ fo r = -1) (h2 : ¬ fo r = x) : flawI fo sz r x y = 3 := by
  unfold flawI; simp only [if_neg h1, if_neg h2]
theorem lack_null {fo : Nat → Int32} {sz : Nat → Nat} {r : Nat} {x y : Int32} (h1 : fo r = -1) : flawI fo sz r x y = 1 := by
  unfold flawI; simp only [if_pos h1]
set_option maxHeartbeats 4000000 in
set_option maxRecDepth 100000 in
theorem c_X9_in (l : Launch) (g : Gx) (v lo hi : Int64)  : Mi l g yX9_in cX9_in 6 ((some .boolean)) { frames := 0, cells := 0, slots := 0, locals := 0 } [.long v, .long lo, .long hi] [] (fun rv_ wv_ => (rv_ = if rgL v lo hi then 1 else 0) ∧ wv_ = []) := by
  refine Mz.opn (own := RX9) (lv := [(0, .long v), (2, .long lo), (4, .long hi)]) (plainFor_of_name (by decide)) rfl rfl (Nat.le_of_ble_eq_true rfl) ?_
  intro p e R s m args below meth c A Q hx hb hml hown hts hA hK hX hRf hRl hRet H locs ls hP hD hS hl
  refine lv_lload_n (pc := 0) hx hb dX9_in_0 rfl (lv_at hl 0 rfl) ?_
  refine lv_lload_n (pc := 1) hx hb dX9_in_1 rfl (lv_at hl 1 rfl) ?_
  refine w_lcmp_lt (tgt := 17) (pc := 2) hx hb dX9_in_2 dX9_in_3 (by decide) (fun h_2 => ?_) (fun h_2 => ?_)
  · skip
    refine lv_iconst (v := (0 : Int32)) (pc := 17) hx hb dX9_in_17 (by decide) ?_
    exact hRet _ _ _ _ _ _ hP hD hS dX9_in_18 (by decide) ⟨(by simp_all [rgL]), rfl⟩
  · skip
    refine lv_lload_n (pc := 6) hx hb dX9_in_6 rfl (lv_at hl 0 rfl) ?_
    refine lv_lload (pc := 7) hx hb dX9_in_7 (lv_at hl 2 rfl) ?_
    refine w_lcmp_gt (tgt := 17) (pc := 9) hx hb dX9_in_9 dX9_in_10 (by decide) (fun h_9 => ?_) (fun h_9 => ?_)
    · skip
      refine lv_iconst (v := (0 : Int32)) (pc := 17) hx hb dX9_in_17 (by decide) ?_
      exact hRet _ _ _ _ _ _ hP hD hS dX9_in_18 (by decide) ⟨(by simp_all [rgL]), rfl⟩
    · skip
      refine lv_iconst (v := (1 : Int32)) (pc := 13) hx hb dX9_in_13 (by decide) ?_
      refine lv_goto (tgt := 18) (pc := 14) hx hb dX9_in_14 (by decide) ?_
      exact hRet _ _ _ _ _ _ hP hD hS dX9_in_18 (by decide) ⟨(by simp_all [rgL]), rfl⟩

set_option maxHeartbeats 4000000 in
set_option maxRecDepth 100000 in
theorem c_X9_isReel (l : Launch) (g : Gx) (x : Int32)  : Mi l g yX9_isReel cX9_isReel 1 ((some .boolean)) { frames := 1, cells := 0, slots := 0, locals := 25 } [.int x] [] (fun rv_ wv_ => (rv_ = if rg x 0 17 then 1 else 0) ∧ wv_ = []) := by
  refine Mz.opn (own := RX9) (lv := [(0, .int x)]) (plainFor_of_name (by decide)) rfl rfl (Nat.le_of_ble_eq_true rfl) ?_
  intro p e R s m args below meth c A Q hx hb hml hown hts hA hK hX hRf hRl hRet H locs ls hP hD hS hl
  refine lv_iload_n (pc := 0) hx hb dX9_isReel_0 rfl (lv_at hl 0 rfl) ?_
  refine lv_i2l (v := x.toInt64) (pc := 1) hx hb dX9_isReel_1 (rfl) ?_
  refine lv_lconst (v := (0 : Int64)) (pc := 2) hx hb dX9_isReel_2 (by decide) ?_
  refine lv_ldc2 (v := (17 : Int64)) (pc := 3) hx hb hown (hts _ wd_4_78) dX9_isReel_3 ?_
  refine call_i (wr := []) (pc := 6) (run_S (wc := []) (As := [.long x.toInt64, .long (0 : Int64), .long (17 : Int64)]) (rest := []) (pc := 6) hx hb hml hown hts hA hK hX (Nat.le_trans (by decide) hRf) (Nat.le_trans (by decide) hRl) hP hD hS (c_X9_in l g (v := x.toInt64) (lo := (0 : Int64)) (hi := (17 : Int64)) ) wd_4_79 wd_4_80 wd_1_11 wd_4_81 hdX9_in [] rfl rfl rfl hl.1 rfl (Nat.le_of_ble_eq_true rfl) dX9_isReel_6 ⟨Nat.zero_le _, Nat.zero_le _⟩) hA hP hD hS [] [] rfl rfl rfl (by decide) (fun r w1 H locs hq_6 hP hD hS => ?_)
  obtain ⟨rfl, rfl⟩ := hq_6
  have hP : va_P g.1 classes [] H := hP
  have hD : va_D A [] := hD
  rw [show (if rgL x.toInt64 (0 : Int64) (17 : Int64) then (1 : Int32) else 0) = (if rg x (0 : Int32) (17 : Int32) then (1 : Int32) else 0) from rgL_ite rfl rfl]
  exact hRet _ _ _ _ _ _ hP hD hS dX9_isReel_9 (nz_ite _) ⟨rfl, rfl⟩

set_option maxHeartbeats 4000000 in
set_option maxRecDepth 100000 in
theorem c_X9_isDate (l : Launch) (g : Gx) (x : Int32)  : Mi l g yX9_isDate cX9_isDate 1 ((some .boolean)) { frames := 1, cells := 0, slots := 0, locals := 25 } [.int x] [] (fun rv_ wv_ => (rv_ = if rg x 0 5 then 1 else 0) ∧ wv_ = []) := by
  refine Mz.opn (own := RX9) (lv := [(0, .int x)]) (plainFor_of_name (by decide)) rfl rfl (Nat.le_of_ble_eq_true rfl) ?_
  intro p e R s m args below meth c A Q hx hb hml hown hts hA hK hX hRf hRl hRet H locs ls hP hD hS hl
  refine lv_iload_n (pc := 0) hx hb dX9_isDate_0 rfl (lv_at hl 0 rfl) ?_
  refine lv_i2l (v := x.toInt64) (pc := 1) hx hb dX9_isDate_1 (rfl) ?_
  refine lv_lconst (v := (0 : Int64)) (pc := 2) hx hb dX9_isDate_2 (by decide) ?_
  refine lv_ldc2 (v := (5 : Int64)) (pc := 3) hx hb hown (hts _ wd_4_129) dX9_isDate_3 ?_
  refine call_i (wr := []) (pc := 6) (run_S (wc := []) (As := [.long x.toInt64, .long (0 : Int64), .long (5 : Int64)]) (rest := []) (pc := 6) hx hb hml hown hts hA hK hX (Nat.le_trans (by decide) hRf) (Nat.le_trans (by decide) hRl) hP hD hS (c_X9_in l g (v := x.toInt64) (lo := (0 : Int64)) (hi := (5 : Int64)) ) wd_4_79 wd_4_80 wd_1_11 wd_4_81 hdX9_in [] rfl rfl rfl hl.1 rfl (Nat.le_of_ble_eq_true rfl) dX9_isDate_6 ⟨Nat.zero_le _, Nat.zero_le _⟩) hA hP hD hS [] [] rfl rfl rfl (by decide) (fun r w1 H locs hq_6 hP hD hS => ?_)
  obtain ⟨rfl, rfl⟩ := hq_6
  have hP : va_P g.1 classes [] H := hP
  have hD : va_D A [] := hD
  rw [show (if rgL x.toInt64 (0 : Int64) (5 : Int64) then (1 : Int32) else 0) = (if rg x (0 : Int32) (5 : Int32) then (1 : Int32) else 0) from rgL_ite rfl rfl]
  exact hRet _ _ _ _ _ _ hP hD hS dX9_isDate_9 (nz_ite _) ⟨rfl, rfl⟩

set_option maxHeartbeats 4000000 in
set_option maxRecDepth 100000 in
theorem c_X9_isCell (l : Launch) (g : Gx) (x : Int32)  : Mi l g yX9_isCell cX9_isCell 1 ((some .boolean)) { frames := 1, cells := 0, slots := 0, locals := 25 } [.int x] [] (fun rv_ wv_ => (rv_ = if rg x 0 63 then 1 else 0) ∧ wv_ = []) := by
  refine Mz.opn (own := RX9) (lv := [(0, .int x)]) (plainFor_of_name (by decide)) rfl rfl (Nat.le_of_ble_eq_true rfl) ?_
  intro p e R s m args below meth c A Q hx hb hml hown hts hA hK hX hRf hRl hRet H locs ls hP hD hS hl
  refine lv_iload_n (pc := 0) hx hb dX9_isCell_0 rfl (lv_at hl 0 rfl) ?_
  refine lv_i2l (v := x.toInt64) (pc := 1) hx hb dX9_isCell_1 (rfl) ?_
  refine lv_lconst (v := (0 : Int64)) (pc := 2) hx hb dX9_isCell_2 (by decide) ?_
  refine lv_ldc2 (v := (63 : Int64)) (pc := 3) hx hb hown (hts _ wd_4_115) dX9_isCell_3 ?_
  refine call_i (wr := []) (pc := 6) (run_S (wc := []) (As := [.long x.toInt64, .long (0 : Int64), .long (63 : Int64)]) (rest := []) (pc := 6) hx hb hml hown hts hA hK hX (Nat.le_trans (by decide) hRf) (Nat.le_trans (by decide) hRl) hP hD hS (c_X9_in l g (v := x.toInt64) (lo := (0 : Int64)) (hi := (63 : Int64)) ) wd_4_79 wd_4_80 wd_1_11 wd_4_81 hdX9_in [] rfl rfl rfl hl.1 rfl (Nat.le_of_ble_eq_true rfl) dX9_isCell_6 ⟨Nat.zero_le _, Nat.zero_le _⟩) hA hP hD hS [] [] rfl rfl rfl (by decide) (fun r w1 H locs hq_6 hP hD hS => ?_)
  obtain ⟨rfl, rfl⟩ := hq_6
  have hP : va_P g.1 classes [] H := hP
  have hD : va_D A [] := hD
  rw [show (if rgL x.toInt64 (0 : Int64) (63 : Int64) then (1 : Int32) else 0) = (if rg x (0 : Int32) (63 : Int32) then (1 : Int32) else 0) from rgL_ite rfl rfl]
  exact hRet _ _ _ _ _ _ hP hD hS dX9_isCell_9 (nz_ite _) ⟨rfl, rfl⟩

set_option maxHeartbeats 4000000 in
set_option maxRecDepth 100000 in
theorem c_X9_met (l : Launch) (g : Gx) (b : Nat → Nat) (la br : Int32) (hi n dp mo te ow eg : Nat) (x : Int32)  : Mi l g yX9_met cX9_met 2 ((some .int)) { frames := 0, cells := 0, slots := 0, locals := 0 } [.ref (b 0), .int x] [(b 0, .inr (9, [.ref (b 1), .ref (b 2), .ref (b 3), .ref (b 4), .int la, .int br, .int (nI hi), .ref (b 5), .ref (b 6), .int (nI n), .ref (b 7), .ref (b 8), .ref (b 9), .int (nI dp), .int (nI mo), .int (nI te), .ref (b 10), .ref (b 11), .ref (b 12), .ref (b 13), .ref (b 14), .ref (b 15), .ref (b 16), .ref (b 17), .ref (b 18), .ref (b 19), .int (nI ow), .int (nI eg), .ref (b 20), .ref (b 21), .ref (b 22), .ref (b 23), .ref (b 24), .ref (b 25), .ref (b 26), .ref (b 27), .ref (b 28), .ref (b 29)]))] (fun rv_ wv_ => rv_ = (-10 : Int32) - x ∧ wv_ = [(b 0, .inr (9, [.ref (b 1), .ref (b 2), .ref (b 3), .ref (b 4), .int x, .int br, .int (nI hi), .ref (b 5), .ref (b 6), .int (nI n), .ref (b 7), .ref (b 8), .ref (b 9), .int (nI dp), .int (nI mo), .int (nI te), .ref (b 10), .ref (b 11), .ref (b 12), .ref (b 13), .ref (b 14), .ref (b 15), .ref (b 16), .ref (b 17), .ref (b 18), .ref (b 19), .int (nI ow), .int (nI eg), .ref (b 20), .ref (b 21), .ref (b 22), .ref (b 23), .ref (b 24), .ref (b 25), .ref (b 26), .ref (b 27), .ref (b 28), .ref (b 29)]))]) := by
  refine Mi.opn (own := RX9) (lv := [(0, .ref (b 0)), (1, .int x)]) (plainFor_of_name (by decide)) rfl rfl (Nat.le_of_ble_eq_true rfl) ?_
  intro p e R s m args below meth c A Q hx hb hml hown hts hA hK hX hRf hRl hRet H locs ls hP hD hS hl
  refine lv_aload_n (pc := 0) hx hb dX9_met_0 rfl (lv_at hl 0 rfl) ?_
  refine lv_iload_n (pc := 1) hx hb dX9_met_1 rfl (lv_at hl 1 rfl) ?_
  refine w_put (ci := 9) (v := .int x) (ty := .int) (C := RX9) (T := TX9) (N := 38) (index := 114) (ws' := [(b 0, .inr (9, [.ref (b 1), .ref (b 2), .ref (b 3), .ref (b 4), .int x, .int br, .int (nI hi), .ref (b 5), .ref (b 6), .int (nI n), .ref (b 7), .ref (b 8), .ref (b 9), .int (nI dp), .int (nI mo), .int (nI te), .ref (b 10), .ref (b 11), .ref (b 12), .ref (b 13), .ref (b 14), .ref (b 15), .ref (b 16), .ref (b 17), .ref (b 18), .ref (b 19), .int (nI ow), .int (nI eg), .ref (b 20), .ref (b 21), .ref (b 22), .ref (b 23), .ref (b 24), .ref (b 25), .ref (b 26), .ref (b 27), .ref (b 28), .ref (b 29)]))]) (pc := 2) hx hb hts inX9 tyX9 tyX9_ok nmX9 hown hK hP hD hS 0 rfl rfl 4 (by decide) (hts _ wd_3_200) (fun _ h9 => h9) rfl (by decide +kernel) rfl rfl (Nat.le_of_ble_eq_true rfl) rfl dX9_met_2 (fun H locs hP hD hS => ?_)
  refine lv_bipush (v := (-10 : Int32)) (pc := 5) hx hb dX9_met_5 (by decide) ?_
  refine lv_iload_n (pc := 7) hx hb dX9_met_7 rfl (lv_at hl 1 rfl) ?_
  refine w_isub (z := (-10 : Int32) - x) (pc := 8) hx hb dX9_met_8 (rfl) ?_
  exact hRet _ _ _ _ _ _ hP hD hS dX9_met_9 ⟨rfl, rfl⟩

set_option maxHeartbeats 4000000 in
set_option maxRecDepth 100000 in
theorem c_X9_cut (l : Launch) (g : Gx) (x v : Int32)  : Mi l g yX9_cut cX9_cut 2 ((some .int)) { frames := 0, cells := 0, slots := 0, locals := 0 } [.int x, .int v] [] (fun rv_ wv_ => rv_ = fit x v ∧ wv_ = []) := by
  refine Mi.opn (own := RX9) (lv := [(0, .int x), (1, .int v)]) (plainFor_of_name (by decide)) rfl rfl (Nat.le_of_ble_eq_true rfl) ?_
  intro p e R s m args below meth c A Q hx hb hml hown hts hA hK hX hRf hRl hRet H locs ls hP hD hS hl
  refine lv_iload_n (pc := 0) hx hb dX9_cut_0 rfl (lv_at hl 0 rfl) ?_
  refine lv_if_ne (tgt := 9) (pc := 1) hx hb dX9_cut_1 (by decide) (fun h_1 => ?_) (fun h_1 => ?_)
  · skip
    refine lv_iload_n (pc := 9) hx hb dX9_cut_9 rfl (lv_at hl 0 rfl) ?_
    refine lv_iconst (v := (1 : Int32)) (pc := 10) hx hb dX9_cut_10 (by decide) ?_
    refine lv_icmp_ne (tgt := 19) (pc := 11) hx hb dX9_cut_11 (by decide) (fun h_11 => ?_) (fun h_11 => ?_)
    · skip
      refine lv_iload_n (pc := 19) hx hb dX9_cut_19 rfl (lv_at hl 1 rfl) ?_
      exact hRet _ _ _ _ _ _ hP hD hS dX9_cut_20 ⟨(by unfold fit; simp only [if_neg h_1, if_neg h_11]), rfl⟩
    · skip
      refine lv_iload_n (pc := 14) hx hb dX9_cut_14 rfl (lv_at hl 1 rfl) ?_
      refine lv_i2s (v := v.toInt16.toInt32) (pc := 15) hx hb dX9_cut_15 (rfl) ?_
      refine lv_goto (tgt := 20) (pc := 16) hx hb dX9_cut_16 (by decide) ?_
      exact hRet _ _ _ _ _ _ hP hD hS dX9_cut_20 ⟨(by unfold fit; simp only [if_neg h_1, if_pos h_11]), rfl⟩
  · skip
    refine lv_iload_n (pc := 4) hx hb dX9_cut_4 rfl (lv_at hl 1 rfl) ?_
    refine lv_i2b (v := v.toInt8.toInt32) (pc := 5) hx hb dX9_cut_5 (rfl) ?_
    refine lv_goto (tgt := 20) (pc := 6) hx hb dX9_cut_6 (by decide) ?_
    exact hRet _ _ _ _ _ _ hP hD hS dX9_cut_20 ⟨(by unfold fit; simp only [if_pos h_1]), rfl⟩

set_option maxHeartbeats 4000000 in
set_option maxRecDepth 100000 in
theorem c_X9_lacks (l : Launch) (g : Gx) (b : Nat → Nat) (fo : Nat → Int32) (zM : Nat → Nat) (la br : Int32) (hi n dp mo te ow eg : Nat) (r : Nat) (x y : Int32) (hr : r < 18) (hfo : foOk fo) (hzM : ∀ r, r < 18 → zM r ≤ 64) : Mi l g yX9_lacks cX9_lacks 4 ((some .int)) { frames := 1, cells := 0, slots := 0, locals := 25 } [.ref (b 0), .int (nI r), .int x, .int y] [(b 0, .inr (9, [.ref (b 1), .ref (b 2), .ref (b 3), .ref (b 4), .int la, .int br, .int (nI hi), .ref (b 5), .ref (b 6), .int (nI n), .ref (b 7), .ref (b 8), .ref (b 9), .int (nI dp), .int (nI mo), .int (nI te), .ref (b 10), .ref (b 11), .ref (b 12), .ref (b 13), .ref (b 14), .ref (b 15), .ref (b 16), .ref (b 17), .ref (b 18), .ref (b 19), .int (nI ow), .int (nI eg), .ref (b 20), .ref (b 21), .ref (b 22), .ref (b 23), .ref (b 24), .ref (b 25), .ref (b 26), .ref (b 27), .ref (b 28), .ref (b 29)])), (b 1, .inl (gI g, 18, .inl fo)), (b 2, .inl (gI g, 18, .inl (nF zM)))] (fun rv_ wv_ => rv_ = lackF (flawI fo (effS fo zM) r x y) ∧ (wv_ = [(b 0, .inr (9, [.ref (b 1), .ref (b 2), .ref (b 3), .ref (b 4), .int (if flawI fo (effS fo zM) r x y = 0 then la else flawI fo (effS fo zM) r x y), .int br, .int (nI hi), .ref (b 5), .ref (b 6), .int (nI n), .ref (b 7), .ref (b 8), .ref (b 9), .int (nI dp), .int (nI mo), .int (nI te), .ref (b 10), .ref (b 11), .ref (b 12), .ref (b 13), .ref (b 14), .ref (b 15), .ref (b 16), .ref (b 17), .ref (b 18), .ref (b 19), .int (nI ow), .int (nI eg), .ref (b 20), .ref (b 21), .ref (b 22), .ref (b 23), .ref (b 24), .ref (b 25), .ref (b 26), .ref (b 27), .ref (b 28), .ref (b 29)])), (b 1, .inl (gI g, 18, .inl fo)), (b 2, .inl (gI g, 18, .inl (nF zM)))])) := by
  refine Mi.opn (own := RX9) (lv := [(0, .ref (b 0)), (1, .int (nI r)), (2, .int x), (3, .int y)]) (plainFor_of_name (by decide)) rfl rfl (Nat.le_of_ble_eq_true rfl) ?_
  intro p e R s m args below meth c A Q hx hb hml hown hts hA hK hX hRf hRl hRet H locs ls hP hD hS hl
  refine lv_aload_n (pc := 0) hx hb dX9_lacks_0 rfl (lv_at hl 0 rfl) ?_
  refine va_get (D := g.1) (ci := 9) (v := .ref (b 1)) (C := RX9) (T := TX9) (N := 38) (index := 7) (pc := 1) hx hb hts inX9 hown hK hP 0 rfl rfl 0 (by decide) (hts _ wd_3_196) (fun _ h9 => h9) rfl dX9_lacks_1 ?_
  refine lv_iload_n (pc := 4) hx hb dX9_lacks_4 rfl (lv_at hl 1 rfl) ?_
  refine w_iald (f := fo) (k := r) (z := fo r) (pc := 5) hx hb hK hP 1 rfl (by omega) (by first | decide | assumption) (rfl) dX9_lacks_5 ?_
  refine lv_if_ge (tgt := 15) (pc := 6) hx hb dX9_lacks_6 (by decide) (fun h_6 => ?_) (fun h_6 => ?_)
  · skip
    refine lv_aload_n (pc := 15) hx hb dX9_lacks_15 rfl (lv_at hl 0 rfl) ?_
    refine va_get (D := g.1) (ci := 9) (v := .ref (b 1)) (C := RX9) (T := TX9) (N := 38) (index := 7) (pc := 16) hx hb hts inX9 hown hK hP 0 rfl rfl 0 (by decide) (hts _ wd_3_196) (fun _ h9 => h9) rfl dX9_lacks_16 ?_
    refine lv_iload_n (pc := 19) hx hb dX9_lacks_19 rfl (lv_at hl 1 rfl) ?_
    refine w_iald (f := fo) (k := r) (z := fo r) (pc := 20) hx hb hK hP 1 rfl (by omega) (by first | decide | assumption) (rfl) dX9_lacks_20 ?_
    refine lv_iload_n (pc := 21) hx hb dX9_lacks_21 rfl (lv_at hl 2 rfl) ?_
    refine lv_icmp_eq (tgt := 31) (pc := 22) hx hb dX9_lacks_22 (by decide) (fun h_22 => ?_) (fun h_22 => ?_)
    · skip
      refine lv_iload_n (pc := 31) hx hb dX9_lacks_31 rfl (lv_at hl 3 rfl) ?_
      refine lv_i2l (v := y.toInt64) (pc := 32) hx hb dX9_lacks_32 (rfl) ?_
      refine lv_lconst (v := (0 : Int64)) (pc := 33) hx hb dX9_lacks_33 (by decide) ?_
      refine lv_aload_n (pc := 34) hx hb dX9_lacks_34 rfl (lv_at hl 0 rfl) ?_
      refine va_get (D := g.1) (ci := 9) (v := .ref (b 2)) (C := RX9) (T := TX9) (N := 38) (index := 13) (pc := 35) hx hb hts inX9 hown hK hP 0 rfl rfl 1 (by decide) (hts _ wd_3_197) (fun _ h9 => h9) rfl dX9_lacks_35 ?_
      refine lv_iload_n (pc := 38) hx hb dX9_lacks_38 rfl (lv_at hl 1 rfl) ?_
      refine w_iald (f := nF zM) (k := r) (z := nI (zM r)) (pc := 39) hx hb hK hP 2 rfl (by omega) (by first | decide | assumption) (rfl) dX9_lacks_39 ?_
      refine lv_iconst (v := (1 : Int32)) (pc := 40) hx hb dX9_lacks_40 (by decide) ?_
      refine w_isub (z := (nI (zM r)) - (1 : Int32)) (pc := 41) hx hb dX9_lacks_41 (rfl) ?_
      refine lv_i2l (v := ((nI (zM r)) - (1 : Int32)).toInt64) (pc := 42) hx hb dX9_lacks_42 (rfl) ?_
      refine call_i (wr := [(b 0, .inr (9, [.ref (b 1), .ref (b 2), .ref (b 3), .ref (b 4), .int la, .int br, .int (nI hi), .ref (b 5), .ref (b 6), .int (nI n), .ref (b 7), .ref (b 8), .ref (b 9), .int (nI dp), .int (nI mo), .int (nI te), .ref (b 10), .ref (b 11), .ref (b 12), .ref (b 13), .ref (b 14), .ref (b 15), .ref (b 16), .ref (b 17), .ref (b 18), .ref (b 19), .int (nI ow), .int (nI eg), .ref (b 20), .ref (b 21), .ref (b 22), .ref (b 23), .ref (b 24), .ref (b 25), .ref (b 26), .ref (b 27), .ref (b 28), .ref (b 29)])), (b 1, .inl (gI g, 18, .inl fo)), (b 2, .inl (gI g, 18, .inl (nF zM)))]) (pc := 43) (run_S (wc := []) (As := [.long y.toInt64, .long (0 : Int64), .long (((nI (zM r)) - (1 : Int32)).toInt64)]) (rest := []) (pc := 43) hx hb hml hown hts hA hK hX (Nat.le_trans (by decide) hRf) (Nat.le_trans (by decide) hRl) hP hD hS (c_X9_in l g (v := y.toInt64) (lo := (0 : Int64)) (hi := ((nI (zM r)) - (1 : Int32)).toInt64) ) wd_4_79 wd_4_80 wd_1_11 wd_4_81 hdX9_in [] rfl rfl rfl hl.1 rfl (Nat.le_of_ble_eq_true rfl) dX9_lacks_43 ⟨Nat.zero_le _, Nat.zero_le _⟩) hA hP hD hS [] [0, 1, 2] rfl rfl rfl (by decide) (fun r w1 H locs hq_43 hP hD hS => ?_)
      obtain ⟨rfl, rfl⟩ := hq_43
      have hP : va_P g.1 classes [(b 0, .inr (9, [.ref (b 1), .ref (b 2), .ref (b 3), .ref (b 4), .int la, .int br, .int (nI hi), .ref (b 5), .ref (b 6), .int (nI n), .ref (b 7), .ref (b 8), .ref (b 9), .int (nI dp), .int (nI mo), .int (nI te), .ref (b 10), .ref (b 11), .ref (b 12), .ref (b 13), .ref (b 14), .ref (b 15), .ref (b 16), .ref (b 17), .ref (b 18), .ref (b 19), .int (nI ow), .int (nI eg), .ref (b 20), .ref (b 21), .ref (b 22), .ref (b 23), .ref (b 24), .ref (b 25), .ref (b 26), .ref (b 27), .ref (b 28), .ref (b 29)])), (b 1, .inl (gI g, 18, .inl fo)), (b 2, .inl (gI g, 18, .inl (nF zM)))] H := hP
      have hD : va_D A [(b 0, .inr (9, [.ref (b 1), .ref (b 2), .ref (b 3), .ref (b 4), .int la, .int br, .int (nI hi), .ref (b 5), .ref (b 6), .int (nI n), .ref (b 7), .ref (b 8), .ref (b 9), .int (nI dp), .int (nI mo), .int (nI te), .ref (b 10), .ref (b 11), .ref (b 12), .ref (b 13), .ref (b 14), .ref (b 15), .ref (b 16), .ref (b 17), .ref (b 18), .ref (b 19), .int (nI ow), .int (nI eg), .ref (b 20), .ref (b 21), .ref (b 22), .ref (b 23), .ref (b 24), .ref (b 25), .ref (b 26), .ref (b 27), .ref (b 28), .ref (b 29)])), (b 1, .inl (gI g, 18, .inl fo)), (b 2, .inl (gI g, 18, .inl (nF zM)))] := hD
      rw [show (if rgL y.toInt64 (0 : Int64) (((nI (zM r)) - (1 : Int32)).toInt64) then (1 : Int32) else 0) = (if rg y (0 : Int32) ((nI (zM r)) - (1 : Int32)) then (1 : Int32) else 0) from rgL_ite rfl rfl]
      refine b_if_eq (tgt := 53) (pc := 46) hx hb (rg y (0 : Int32) ((nI (zM r)) - (1 : Int32))) dX9_lacks_46 (by decide) (fun h_46 => ?_) (fun h_46 => ?_)
      · skip
        refine lv_aload_n (pc := 53) hx hb dX9_lacks_53 rfl (lv_at hl 0 rfl) ?_
        refine lv_iconst (v := (2 : Int32)) (pc := 54) hx hb dX9_lacks_54 (by decide) ?_
        refine call_i (wr := [(b 1, .inl (gI g, 18, .inl fo)), (b 2, .inl (gI g, 18, .inl (nF zM)))]) (pc := 55) (run_V (wc := [(b 0, .inr (9, [.ref (b 1), .ref (b 2), .ref (b 3), .ref (b 4), .int la, .int br, .int (nI hi), .ref (b 5), .ref (b 6), .int (nI n), .ref (b 7), .ref (b 8), .ref (b 9), .int (nI dp), .int (nI mo), .int (nI te), .ref (b 10), .ref (b 11), .ref (b 12), .ref (b 13), .ref (b 14), .ref (b 15), .ref (b 16), .ref (b 17), .ref (b 18), .ref (b 19), .int (nI ow), .int (nI eg), .ref (b 20), .ref (b 21), .ref (b 22), .ref (b 23), .ref (b 24), .ref (b 25), .ref (b 26), .ref (b 27), .ref (b 28), .ref (b 29)]))]) (As := [.int (2 : Int32)]) (rest := []) (pc := 55) hx hb hml hown hts hA hK hX (Nat.le_trans (by decide) hRf) (Nat.le_trans (by decide) hRl) hP hD hS (c_X9_met l g (b := b) (la := la) (br := br) (hi := hi) (n := n) (dp := dp) (mo := mo) (te := te) (ow := ow) (eg := eg) (x := (2 : Int32)) ) wd_4_83 wd_4_85 wd_0_16 wd_1_11 wd_4_86 hdX9_met [0] rfl rfl 0 rfl rfl rfl hl.1 rfl (Nat.le_of_ble_eq_true rfl) dX9_lacks_55 ⟨Nat.zero_le _, Nat.zero_le _⟩) hA hP hD hS [0] [1, 2] rfl rfl rfl (by decide) (fun r w1 H locs hq_55 hP hD hS => ?_)
        obtain ⟨rfl, rfl⟩ := hq_55
        have hP : va_P g.1 classes [(b 1, .inl (gI g, 18, .inl fo)), (b 2, .inl (gI g, 18, .inl (nF zM))), (b 0, .inr (9, [.ref (b 1), .ref (b 2), .ref (b 3), .ref (b 4), .int (2 : Int32), .int br, .int (nI hi), .ref (b 5), .ref (b 6), .int (nI n), .ref (b 7), .ref (b 8), .ref (b 9), .int (nI dp), .int (nI mo), .int (nI te), .ref (b 10), .ref (b 11), .ref (b 12), .ref (b 13), .ref (b 14), .ref (b 15), .ref (b 16), .ref (b 17), .ref (b 18), .ref (b 19), .int (nI ow), .int (nI eg), .ref (b 20), .ref (b 21), .ref (b 22), .ref (b 23), .ref (b 24), .ref (b 25), .ref (b 26), .ref (b 27), .ref (b 28), .ref (b 29)]))] H := hP
        have hD : va_D A [(b 1, .inl (gI g, 18, .inl fo)), (b 2, .inl (gI g, 18, .inl (nF zM))), (b 0, .inr (9, [.ref (b 1), .ref (b 2), .ref (b 3), .ref (b 4), .int (2 : Int32), .int br, .int (nI hi), .ref (b 5), .ref (b 6), .int (nI n), .ref (b 7), .ref (b 8), .ref (b 9), .int (nI dp), .int (nI mo), .int (nI te), .ref (b 10), .ref (b 11), .ref (b 12), .ref (b 13), .ref (b 14), .ref (b 15), .ref (b 16), .ref (b 17), .ref (b 18), .ref (b 19), .int (nI ow), .int (nI eg), .ref (b 20), .ref (b 21), .ref (b 22), .ref (b 23), .ref (b 24), .ref (b 25), .ref (b 26), .ref (b 27), .ref (b 28), .ref (b 29)]))] := hD
        have hP : va_P g.1 classes [(b 0, .inr (9, [.ref (b 1), .ref (b 2), .ref (b 3), .ref (b 4), .int (2 : Int32), .int br, .int (nI hi), .ref (b 5), .ref (b 6), .int (nI n), .ref (b 7), .ref (b 8), .ref (b 9), .int (nI dp), .int (nI mo), .int (nI te), .ref (b 10), .ref (b 11), .ref (b 12), .ref (b 13), .ref (b 14), .ref (b 15), .ref (b 16), .ref (b 17), .ref (b 18), .ref (b 19), .int (nI ow), .int (nI eg), .ref (b 20), .ref (b 21), .ref (b 22), .ref (b 23), .ref (b 24), .ref (b 25), .ref (b 26), .ref (b 27), .ref (b 28), .ref (b 29)])), (b 1, .inl (gI g, 18, .inl fo)), (b 2, .inl (gI g, 18, .inl (nF zM)))] H := hP.sub [2, 0, 1] rfl
        have hD : va_D A [(b 0, .inr (9, [.ref (b 1), .ref (b 2), .ref (b 3), .ref (b 4), .int (2 : Int32), .int br, .int (nI hi), .ref (b 5), .ref (b 6), .int (nI n), .ref (b 7), .ref (b 8), .ref (b 9), .int (nI dp), .int (nI mo), .int (nI te), .ref (b 10), .ref (b 11), .ref (b 12), .ref (b 13), .ref (b 14), .ref (b 15), .ref (b 16), .ref (b 17), .ref (b 18), .ref (b 19), .int (nI ow), .int (nI eg), .ref (b 20), .ref (b 21), .ref (b 22), .ref (b 23), .ref (b 24), .ref (b 25), .ref (b 26), .ref (b 27), .ref (b 28), .ref (b 29)])), (b 1, .inl (gI g, 18, .inl fo)), (b 2, .inl (gI g, 18, .inl (nF zM)))] := hD.sub [2, 0, 1] rfl rfl
        exact hRet _ _ _ _ _ _ hP hD hS dX9_lacks_58 ⟨(by rw [lack_out (fo_pos h_6) h_22 (hzM r hr) h_46]; rfl), (by rw [lack_out (fo_pos h_6) h_22 (hzM r hr) h_46]; rfl)⟩
      · skip
        refine lv_iconst (v := (0 : Int32)) (pc := 49) hx hb dX9_lacks_49 (by decide) ?_
        refine lv_goto (tgt := 58) (pc := 50) hx hb dX9_lacks_50 (by decide) ?_
        exact hRet _ _ _ _ _ _ hP hD hS dX9_lacks_58 ⟨(by rw [lack_in (fo_pos h_6) h_22 (hzM r hr) h_46]; rfl), (by rw [lack_in (fo_pos h_6) h_22 (hzM r hr) h_46]; rfl)⟩
    · skip
      refine lv_aload_n (pc := 25) hx hb dX9_lacks_25 rfl (lv_at hl 0 rfl) ?_
      refine lv_iconst (v := (3 : Int32)) (pc := 26) hx hb dX9_lacks_26 (by decide) ?_
      refine call_i (wr := [(b 1, .inl (gI g, 18, .inl fo)), (b 2, .inl (gI g, 18, .inl (nF zM)))]) (pc := 27) (run_V (wc := [(b 0, .inr (9, [.ref (b 1), .ref (b 2), .ref (b 3), .ref (b 4), .int la, .int br, .int (nI hi), .ref (b 5), .ref (b 6), .int (nI n), .ref (b 7), .ref (b 8), .ref (b 9), .int (nI dp), .int (nI mo), .int (nI te), .ref (b 10), .ref (b 11), .ref (b 12), .ref (b 13), .ref (b 14), .ref (b 15), .ref (b 16), .ref (b 17), .ref (b 18), .ref (b 19), .int (nI ow), .int (nI eg), .ref (b 20), .ref (b 21), .ref (b 22), .ref (b 23), .ref (b 24), .ref (b 25), .ref (b 26), .ref (b 27), .ref (b 28), .ref (b 29)]))]) (As := [.int (3 : Int32)]) (rest := []) (pc := 27) hx hb hml hown hts hA hK hX (Nat.le_trans (by decide) hRf) (Nat.le_trans (by decide) hRl) hP hD hS (c_X9_met l g (b := b) (la := la) (br := br) (hi := hi) (n := n) (dp := dp) (mo := mo) (te := te) (ow := ow) (eg := eg) (x := (3 : Int32)) ) wd_4_83 wd_4_85 wd_0_16 wd_1_11 wd_4_86 hdX9_met [0] rfl rfl 0 rfl rfl rfl hl.1 rfl (Nat.le_of_ble_eq_true rfl) dX9_lacks_27 ⟨Nat.zero_le _, Nat.zero_le _⟩) hA hP hD hS [0] [1, 2] rfl rfl rfl (by decide) (fun r w1 H locs hq_27 hP hD hS => ?_)
      obtain ⟨rfl, rfl⟩ := hq_27
      have hP : va_P g.1 classes [(b 1, .inl (gI g, 18, .inl fo)), (b 2, .inl (gI g, 18, .inl (nF zM))), (b 0, .inr (9, [.ref (b 1), .ref (b 2), .ref (b 3), .ref (b 4), .int (3 : Int32), .int br, .int (nI hi), .ref (b 5), .ref (b 6), .int (nI n), .ref (b 7), .ref (b 8), .ref (b 9), .int (nI dp), .int (nI mo), .int (nI te), .ref (b 10), .ref (b 11), .ref (b 12), .ref (b 13), .ref (b 14), .ref (b 15), .ref (b 16), .ref (b 17), .ref (b 18), .ref (b 19), .int (nI ow), .int (nI eg), .ref (b 20), .ref (b 21), .ref (b 22), .ref (b 23), .ref (b 24), .ref (b 25), .ref (b 26), .ref (b 27), .ref (b 28), .ref (b 29)]))] H := hP
      have hD : va_D A [(b 1, .inl (gI g, 18, .inl fo)), (b 2, .inl (gI g, 18, .inl (nF zM))), (b 0, .inr (9, [.ref (b 1), .ref (b 2), .ref (b 3), .ref (b 4), .int (3 : Int32), .int br, .int (nI hi), .ref (b 5), .ref (b 6), .int (nI n), .ref (b 7), .ref (b 8), .ref (b 9), .int (nI dp), .int (nI mo), .int (nI te), .ref (b 10), .ref (b 11), .ref (b 12), .ref (b 13), .ref (b 14), .ref (b 15), .ref (b 16), .ref (b 17), .ref (b 18), .ref (b 19), .int (nI ow), .int (nI eg), .ref (b 20), .ref (b 21), .ref (b 22), .ref (b 23), .ref (b 24), .ref (b 25), .ref (b 26), .ref (b 27), .ref (b 28), .ref (b 29)]))] := hD
      have hP : va_P g.1 classes [(b 0, .inr (9, [.ref (b 1), .ref (b 2), .ref (b 3), .ref (b 4), .int (3 : Int32), .int br, .int (nI hi), .ref (b 5), .ref (b 6), .int (nI n), .ref (b 7), .ref (b 8), .ref (b 9), .int (nI dp), .int (nI mo), .int (nI te), .ref (b 10), .ref (b 11), .ref (b 12), .ref (b 13), .ref (b 14), .ref (b 15), .ref (b 16), .ref (b 17), .ref (b 18), .ref (b 19), .int (nI ow), .int (nI eg), .ref (b 20), .ref (b 21), .ref (b 22), .ref (b 23), .ref (b 24), .ref (b 25), .ref (b 26), .ref (b 27), .ref (b 28), .ref (b 29)])), (b 1, .inl (gI g, 18, .inl fo)), (b 2, .inl (gI g, 18, .inl (nF zM)))] H := hP.sub [2, 0, 1] rfl
      have hD : va_D A [(b 0, .inr (9, [.ref (b 1), .ref (b 2), .ref (b 3), .ref (b 4), .int (3 : Int32), .int br, .int (nI hi), .ref (b 5), .ref (b 6), .int (nI n), .ref (b 7), .ref (b 8), .ref (b 9), .int (nI dp), .int (nI mo), .int (nI te), .ref (b 10), .ref (b 11), .ref (b 12), .ref (b 13), .ref (b 14), .ref (b 15), .ref (b 16), .ref (b 17), .ref (b 18), .ref (b 19), .int (nI ow), .int (nI eg), .ref (b 20), .ref (b 21), .ref (b 22), .ref (b 23), .ref (b 24), .ref (b 25), .ref (b 26), .ref (b 27), .ref (b 28), .ref (b 29)])), (b 1, .inl (gI g, 18, .inl fo)), (b 2, .inl (gI g, 18, .inl (nF zM)))] := hD.sub [2, 0, 1] rfl rfl
      exact hRet _ _ _ _ _ _ hP hD hS dX9_lacks_30 ⟨(by rw [lack_cast (fo_pos h_6) h_22]; rfl), (by rw [lack_cast (fo_pos h_6) h_22]; rfl)⟩
  · skip
    refine lv_aload_n (pc := 9) hx hb dX9_lacks_9 rfl (lv_at hl 0 rfl) ?_
    refine lv_iconst (v := (1 : Int32)) (pc := 10) hx hb dX9_lacks_10 (by decide) ?_
    refine call_i (wr := [(b 1, .inl (gI g, 18, .inl fo)), (b 2, .inl (gI g, 18, .inl (nF zM)))]) (pc := 11) (run_V (wc := [(b 0, .inr (9, [.ref (b 1), .ref (b 2), .ref (b 3), .ref (b 4), .int la, .int br, .int (nI hi), .ref (b 5), .ref (b 6), .int (nI n), .ref (b 7), .ref (b 8), .ref (b 9), .int (nI dp), .int (nI mo), .int (nI te), .ref (b 10), .ref (b 11), .ref (b 12), .ref (b 13), .ref (b 14), .ref (b 15), .ref (b 16), .ref (b 17), .ref (b 18), .ref (b 19), .int (nI ow), .int (nI eg), .ref (b 20), .ref (b 21), .ref (b 22), .ref (b 23), .ref (b 24), .ref (b 25), .ref (b 26), .ref (b 27), .ref (b 28), .ref (b 29)]))]) (As := [.int (1 : Int32)]) (rest := []) (pc := 11) hx hb hml hown hts hA hK hX (Nat.le_trans (by decide) hRf) (Nat.le_trans (by decide) hRl) hP hD hS (c_X9_met l g (b := b) (la := la) (br := br) (hi := hi) (n := n) (dp := dp) (mo := mo) (te := te) (ow := ow) (eg := eg) (x := (1 : Int32)) ) wd_4_83 wd_4_85 wd_0_16 wd_1_11 wd_4_86 hdX9_met [0] rfl rfl 0 rfl rfl rfl hl.1 rfl (Nat.le_of_ble_eq_true rfl) dX9_lacks_11 ⟨Nat.zero_le _, Nat.zero_le _⟩) hA hP hD hS [0] [1, 2] rfl rfl rfl (by decide) (fun r w1 H locs hq_11 hP hD hS => ?_)
    obtain ⟨rfl, rfl⟩ := hq_11
    have hP : va_P g.1 classes [(b 1, .inl (gI g, 18, .inl fo)), (b 2, .inl (gI g, 18, .inl (nF zM))), (b 0, .inr (9, [.ref (b 1), .ref (b 2), .ref (b 3), .ref (b 4), .int (1 : Int32), .int br, .int (nI hi), .ref (b 5), .ref (b 6), .int (nI n), .ref (b 7), .ref (b 8), .ref (b 9), .int (nI dp), .int (nI mo), .int (nI te), .ref (b 10), .ref (b 11), .ref (b 12), .ref (b 13), .ref (b 14), .ref (b 15), .ref (b 16), .ref (b 17), .ref (b 18), .ref (b 19), .int (nI ow), .int (nI eg), .ref (b 20), .ref (b 21), .ref (b 22), .ref (b 23), .ref (b 24), .ref (b 25), .ref (b 26), .ref (b 27), .ref (b 28), .ref (b 29)]))] H := hP
    have hD : va_D A [(b 1, .inl (gI g, 18, .inl fo)), (b 2, .inl (gI g, 18, .inl (nF zM))), (b 0, .inr (9, [.ref (b 1), .ref (b 2), .ref (b 3), .ref (b 4), .int (1 : Int32), .int br, .int (nI hi), .ref (b 5), .ref (b 6), .int (nI n), .ref (b 7), .ref (b 8), .ref (b 9), .int (nI dp), .int (nI mo), .int (nI te), .ref (b 10), .ref (b 11), .ref (b 12), .ref (b 13), .ref (b 14), .ref (b 15), .ref (b 16), .ref (b 17), .ref (b 18), .ref (b 19), .int (nI ow), .int (nI eg), .ref (b 20), .ref (b 21), .ref (b 22), .ref (b 23), .ref (b 24), .ref (b 25), .ref (b 26), .ref (b 27), .ref (b 28), .ref (b 29)]))] := hD
    have hP : va_P g.1 classes [(b 0, .inr (9, [.ref (b 1), .ref (b 2), .ref (b 3), .ref (b 4), .int (1 : Int32), .int br, .int (nI hi), .ref (b 5), .ref (b 6), .int (nI n), .ref (b 7), .ref (b 8), .ref (b 9), .int (nI dp), .int (nI mo), .int (nI te), .ref (b 10), .ref (b 11), .ref (b 12), .ref (b 13), .ref (b 14), .ref (b 15), .ref (b 16), .ref (b 17), .ref (b 18), .ref (b 19), .int (nI ow), .int (nI eg), .ref (b 20), .ref (b 21), .ref (b 22), .ref (b 23), .ref (b 24), .ref (b 25), .ref (b 26), .ref (b 27), .ref (b 28), .ref (b 29)])), (b 1, .inl (gI g, 18, .inl fo)), (b 2, .inl (gI g, 18, .inl (nF zM)))] H := hP.sub [2, 0, 1] rfl
    have hD : va_D A [(b 0, .inr (9, [.ref (b 1), .ref (b 2), .ref (b 3), .ref (b 4), .int (1 : Int32), .int br, .int (nI hi), .ref (b 5), .ref (b 6), .int (nI n), .ref (b 7), .ref (b 8), .ref (b 9), .int (nI dp), .int (nI mo), .int (nI te), .ref (b 10), .ref (b 11), .ref (b 12), .ref (b 13), .ref (b 14), .ref (b 15), .ref (b 16), .ref (b 17), .ref (b 18), .ref (b 19), .int (nI ow), .int (nI eg), .ref (b 20), .ref (b 21), .ref (b 22), .ref (b 23), .ref (b 24), .ref (b 25), .ref (b 26), .ref (b 27), .ref (b 28), .ref (b 29)])), (b 1, .inl (gI g, 18, .inl fo)), (b 2, .inl (gI g, 18, .inl (nF zM)))] := hD.sub [2, 0, 1] rfl rfl
    exact hRet _ _ _ _ _ _ hP hD hS dX9_lacks_14 ⟨(by rw [lack_null (fo_neg hfo hr h_6)]; rfl), (by rw [lack_null (fo_neg hfo hr h_6)]; rfl)⟩
