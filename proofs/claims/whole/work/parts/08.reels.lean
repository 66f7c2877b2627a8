set_option maxHeartbeats 4000000 in
set_option maxRecDepth 100000 in
theorem c_X8_within (l : Launch) (g : Gx) (v lo hi : Int32)  : Mi l g yX8_within cX8_within 3 ((some .boolean)) { frames := 0, cells := 0, slots := 0, locals := 0 } [.int v, .int lo, .int hi] [] (fun rv_ wv_ => (rv_ = if rg v lo hi then 1 else 0) ∧ wv_ = []) := by
  refine Mz.opn (own := RX8) (lv := [(0, .int v), (1, .int lo), (2, .int hi)]) (plainFor_of_name (by decide)) rfl rfl (Nat.le_of_ble_eq_true rfl) ?_
  intro p e R s m args below meth c A Q hx hb hml hown hts hA hK hX hRf hRl hRet H locs ls hP hD hS hl
  refine lv_iload_n (pc := 0) hx hb dX8_within_0 rfl (lv_at hl 0 rfl) ?_
  refine lv_iload_n (pc := 1) hx hb dX8_within_1 rfl (lv_at hl 1 rfl) ?_
  refine lv_icmp_lt (tgt := 14) (pc := 2) hx hb dX8_within_2 (by decide) (fun h_2 => ?_) (fun h_2 => ?_)
  · skip
    refine lv_iconst (v := (0 : Int32)) (pc := 14) hx hb dX8_within_14 (by decide) ?_
    exact hRet _ _ _ _ _ _ hP hD hS dX8_within_15 (by decide) ⟨(by simp_all [rg]), rfl⟩
  · skip
    refine lv_iload_n (pc := 5) hx hb dX8_within_5 rfl (lv_at hl 0 rfl) ?_
    refine lv_iload_n (pc := 6) hx hb dX8_within_6 rfl (lv_at hl 2 rfl) ?_
    refine lv_icmp_gt (tgt := 14) (pc := 7) hx hb dX8_within_7 (by decide) (fun h_7 => ?_) (fun h_7 => ?_)
    · skip
      refine lv_iconst (v := (0 : Int32)) (pc := 14) hx hb dX8_within_14 (by decide) ?_
      exact hRet _ _ _ _ _ _ hP hD hS dX8_within_15 (by decide) ⟨(by simp_all [rg]), rfl⟩
    · skip
      refine lv_iconst (v := (1 : Int32)) (pc := 10) hx hb dX8_within_10 (by decide) ?_
      refine lv_goto (tgt := 15) (pc := 11) hx hb dX8_within_11 (by decide) ?_
      exact hRet _ _ _ _ _ _ hP hD hS dX8_within_15 (by decide) ⟨(by simp_all [rg]), rfl⟩

set_option maxHeartbeats 4000000 in
set_option maxRecDepth 100000 in
theorem c_X8_isReel (l : Launch) (g : Gx) (x : Int32)  : Mi l g yX8_isReel cX8_isReel 1 ((some .boolean)) { frames := 1, cells := 0, slots := 0, locals := 22 } [.int x] [] (fun rv_ wv_ => (rv_ = if rg x 0 17 then 1 else 0) ∧ wv_ = []) := by
  refine Mz.opn (own := RX8) (lv := [(0, .int x)]) (plainFor_of_name (by decide)) rfl rfl (Nat.le_of_ble_eq_true rfl) ?_
  intro p e R s m args below meth c A Q hx hb hml hown hts hA hK hX hRf hRl hRet H locs ls hP hD hS hl
  refine lv_iload_n (pc := 0) hx hb dX8_isReel_0 rfl (lv_at hl 0 rfl) ?_
  refine lv_iconst (v := (0 : Int32)) (pc := 1) hx hb dX8_isReel_1 (by decide) ?_
  refine lv_bipush (v := (17 : Int32)) (pc := 2) hx hb dX8_isReel_2 (by decide) ?_
  refine call_i (wr := []) (pc := 4) (run_S (wc := []) (As := [.int x, .int (0 : Int32), .int (17 : Int32)]) (rest := []) (pc := 4) hx hb hml hown hts hA hK hX (Nat.le_trans (by decide) hRf) (Nat.le_trans (by decide) hRl) hP hD hS (c_X8_within l g (v := x) (lo := (0 : Int32)) (hi := (17 : Int32)) ) wd_2_2 wd_2_3 wd_1_1 wd_2_4 hdX8_within [] rfl rfl rfl hl.1 rfl (Nat.le_of_ble_eq_true rfl) dX8_isReel_4 ⟨Nat.zero_le _, Nat.zero_le _⟩) hA hP hD hS [] [] rfl rfl rfl (by decide) (fun r w1 H locs hq_4 hP hD hS => ?_)
  obtain ⟨rfl, rfl⟩ := hq_4
  have hP : va_P g.1 classes [] H := hP
  have hD : va_D A [] := hD
  exact hRet _ _ _ _ _ _ hP hD hS dX8_isReel_7 (nz_ite _) ⟨rfl, rfl⟩

set_option maxHeartbeats 4000000 in
set_option maxRecDepth 100000 in
theorem c_X8_isForm (l : Launch) (g : Gx) (x : Int32)  : Mi l g yX8_isForm cX8_isForm 1 ((some .boolean)) { frames := 1, cells := 0, slots := 0, locals := 22 } [.int x] [] (fun rv_ wv_ => (rv_ = if rg x 0 2 then 1 else 0) ∧ wv_ = []) := by
  refine Mz.opn (own := RX8) (lv := [(0, .int x)]) (plainFor_of_name (by decide)) rfl rfl (Nat.le_of_ble_eq_true rfl) ?_
  intro p e R s m args below meth c A Q hx hb hml hown hts hA hK hX hRf hRl hRet H locs ls hP hD hS hl
  refine lv_iload_n (pc := 0) hx hb dX8_isForm_0 rfl (lv_at hl 0 rfl) ?_
  refine lv_iconst (v := (0 : Int32)) (pc := 1) hx hb dX8_isForm_1 (by decide) ?_
  refine lv_iconst (v := (2 : Int32)) (pc := 2) hx hb dX8_isForm_2 (by decide) ?_
  refine call_i (wr := []) (pc := 3) (run_S (wc := []) (As := [.int x, .int (0 : Int32), .int (2 : Int32)]) (rest := []) (pc := 3) hx hb hml hown hts hA hK hX (Nat.le_trans (by decide) hRf) (Nat.le_trans (by decide) hRl) hP hD hS (c_X8_within l g (v := x) (lo := (0 : Int32)) (hi := (2 : Int32)) ) wd_2_2 wd_2_3 wd_1_1 wd_2_4 hdX8_within [] rfl rfl rfl hl.1 rfl (Nat.le_of_ble_eq_true rfl) dX8_isForm_3 ⟨Nat.zero_le _, Nat.zero_le _⟩) hA hP hD hS [] [] rfl rfl rfl (by decide) (fun r w1 H locs hq_3 hP hD hS => ?_)
  obtain ⟨rfl, rfl⟩ := hq_3
  have hP : va_P g.1 classes [] H := hP
  have hD : va_D A [] := hD
  exact hRet _ _ _ _ _ _ hP hD hS dX8_isForm_6 (nz_ite _) ⟨rfl, rfl⟩

set_option maxHeartbeats 4000000 in
set_option maxRecDepth 100000 in
theorem c_X8_isDate (l : Launch) (g : Gx) (x : Int32)  : Mi l g yX8_isDate cX8_isDate 1 ((some .boolean)) { frames := 1, cells := 0, slots := 0, locals := 22 } [.int x] [] (fun rv_ wv_ => (rv_ = if rg x 0 5 then 1 else 0) ∧ wv_ = []) := by
  refine Mz.opn (own := RX8) (lv := [(0, .int x)]) (plainFor_of_name (by decide)) rfl rfl (Nat.le_of_ble_eq_true rfl) ?_
  intro p e R s m args below meth c A Q hx hb hml hown hts hA hK hX hRf hRl hRet H locs ls hP hD hS hl
  refine lv_iload_n (pc := 0) hx hb dX8_isDate_0 rfl (lv_at hl 0 rfl) ?_
  refine lv_iconst (v := (0 : Int32)) (pc := 1) hx hb dX8_isDate_1 (by decide) ?_
  refine lv_iconst (v := (5 : Int32)) (pc := 2) hx hb dX8_isDate_2 (by decide) ?_
  refine call_i (wr := []) (pc := 3) (run_S (wc := []) (As := [.int x, .int (0 : Int32), .int (5 : Int32)]) (rest := []) (pc := 3) hx hb hml hown hts hA hK hX (Nat.le_trans (by decide) hRf) (Nat.le_trans (by decide) hRl) hP hD hS (c_X8_within l g (v := x) (lo := (0 : Int32)) (hi := (5 : Int32)) ) wd_2_2 wd_2_3 wd_1_1 wd_2_4 hdX8_within [] rfl rfl rfl hl.1 rfl (Nat.le_of_ble_eq_true rfl) dX8_isDate_3 ⟨Nat.zero_le _, Nat.zero_le _⟩) hA hP hD hS [] [] rfl rfl rfl (by decide) (fun r w1 H locs hq_3 hP hD hS => ?_)
  obtain ⟨rfl, rfl⟩ := hq_3
  have hP : va_P g.1 classes [] H := hP
  have hD : va_D A [] := hD
  exact hRet _ _ _ _ _ _ hP hD hS dX8_isDate_6 (nz_ite _) ⟨rfl, rfl⟩

set_option maxHeartbeats 4000000 in
set_option maxRecDepth 100000 in
theorem c_X8_isCell (l : Launch) (g : Gx) (x : Int32)  : Mi l g yX8_isCell cX8_isCell 1 ((some .boolean)) { frames := 1, cells := 0, slots := 0, locals := 22 } [.int x] [] (fun rv_ wv_ => (rv_ = if rg x 0 63 then 1 else 0) ∧ wv_ = []) := by
  refine Mz.opn (own := RX8) (lv := [(0, .int x)]) (plainFor_of_name (by decide)) rfl rfl (Nat.le_of_ble_eq_true rfl) ?_
  intro p e R s m args below meth c A Q hx hb hml hown hts hA hK hX hRf hRl hRet H locs ls hP hD hS hl
  refine lv_iload_n (pc := 0) hx hb dX8_isCell_0 rfl (lv_at hl 0 rfl) ?_
  refine lv_iconst (v := (0 : Int32)) (pc := 1) hx hb dX8_isCell_1 (by decide) ?_
  refine lv_bipush (v := (63 : Int32)) (pc := 2) hx hb dX8_isCell_2 (by decide) ?_
  refine call_i (wr := []) (pc := 4) (run_S (wc := []) (As := [.int x, .int (0 : Int32), .int (63 : Int32)]) (rest := []) (pc := 4) hx hb hml hown hts hA hK hX (Nat.le_trans (by decide) hRf) (Nat.le_trans (by decide) hRl) hP hD hS (c_X8_within l g (v := x) (lo := (0 : Int32)) (hi := (63 : Int32)) ) wd_2_2 wd_2_3 wd_1_1 wd_2_4 hdX8_within [] rfl rfl rfl hl.1 rfl (Nat.le_of_ble_eq_true rfl) dX8_isCell_4 ⟨Nat.zero_le _, Nat.zero_le _⟩) hA hP hD hS [] [] rfl rfl rfl (by decide) (fun r w1 H locs hq_4 hP hD hS => ?_)
  obtain ⟨rfl, rfl⟩ := hq_4
  have hP : va_P g.1 classes [] H := hP
  have hD : va_D A [] := hD
  exact hRet _ _ _ _ _ _ hP hD hS dX8_isCell_7 (nz_ite _) ⟨rfl, rfl⟩

set_option maxHeartbeats 4000000 in
set_option maxRecDepth 100000 in
theorem c_X8_isClass (l : Launch) (g : Gx) (x : Int32)  : Mi l g yX8_isClass cX8_isClass 1 ((some .boolean)) { frames := 1, cells := 0, slots := 0, locals := 22 } [.int x] [] (fun rv_ wv_ => (rv_ = if rg x 0 3 then 1 else 0) ∧ wv_ = []) := by
  refine Mz.opn (own := RX8) (lv := [(0, .int x)]) (plainFor_of_name (by decide)) rfl rfl (Nat.le_of_ble_eq_true rfl) ?_
  intro p e R s m args below meth c A Q hx hb hml hown hts hA hK hX hRf hRl hRet H locs ls hP hD hS hl
  refine lv_iload_n (pc := 0) hx hb dX8_isClass_0 rfl (lv_at hl 0 rfl) ?_
  refine lv_iconst (v := (0 : Int32)) (pc := 1) hx hb dX8_isClass_1 (by decide) ?_
  refine lv_iconst (v := (3 : Int32)) (pc := 2) hx hb dX8_isClass_2 (by decide) ?_
  refine call_i (wr := []) (pc := 3) (run_S (wc := []) (As := [.int x, .int (0 : Int32), .int (3 : Int32)]) (rest := []) (pc := 3) hx hb hml hown hts hA hK hX (Nat.le_trans (by decide) hRf) (Nat.le_trans (by decide) hRl) hP hD hS (c_X8_within l g (v := x) (lo := (0 : Int32)) (hi := (3 : Int32)) ) wd_2_2 wd_2_3 wd_1_1 wd_2_4 hdX8_within [] rfl rfl rfl hl.1 rfl (Nat.le_of_ble_eq_true rfl) dX8_isClass_3 ⟨Nat.zero_le _, Nat.zero_le _⟩) hA hP hD hS [] [] rfl rfl rfl (by decide) (fun r w1 H locs hq_3 hP hD hS => ?_)
  obtain ⟨rfl, rfl⟩ := hq_3
  have hP : va_P g.1 classes [] H := hP
  have hD : va_D A [] := hD
  exact hRet _ _ _ _ _ _ hP hD hS dX8_isClass_6 (nz_ite _) ⟨rfl, rfl⟩

set_option maxHeartbeats 4000000 in
set_option maxRecDepth 100000 in
theorem c_X3_find (l : Launch) (g : Gx) (a : Nat → Nat) (la x : Int32)  : Mi l g yX3_find cX3_find 2 ((some .int)) { frames := 0, cells := 0, slots := 0, locals := 0 } [.ref (a 1), .int x] [(a 1, .inr (3, [.ref (a 2), .ref (a 3), .ref (a 4), .int la]))] (fun rv_ wv_ => rv_ = (-10 : Int32) - x ∧ wv_ = [(a 1, .inr (3, [.ref (a 2), .ref (a 3), .ref (a 4), .int x]))]) := by
  refine Mi.opn (own := RX3) (lv := [(0, .ref (a 1)), (1, .int x)]) (plainFor_of_name (by decide)) rfl rfl (Nat.le_of_ble_eq_true rfl) ?_
  intro p e R s m args below meth c A Q hx hb hml hown hts hA hK hX hRf hRl hRet H locs ls hP hD hS hl
  refine lv_aload_n (pc := 0) hx hb dX3_find_0 rfl (lv_at hl 0 rfl) ?_
  refine lv_iload_n (pc := 1) hx hb dX3_find_1 rfl (lv_at hl 1 rfl) ?_
  refine w_put (ci := 3) (v := .int x) (ty := .int) (C := RX3) (T := TX3) (N := 4) (index := 21) (ws' := [(a 1, .inr (3, [.ref (a 2), .ref (a 3), .ref (a 4), .int x]))]) (pc := 2) hx hb hts inX3 tyX3 tyX3_ok nmX3 hown hK hP hD hS 0 rfl rfl 3 (by decide) (hts _ wd_1_34) (fun _ h9 => h9) rfl (by decide +kernel) rfl rfl (Nat.le_of_ble_eq_true rfl) rfl dX3_find_2 (fun H locs hP hD hS => ?_)
  refine lv_bipush (v := (-10 : Int32)) (pc := 5) hx hb dX3_find_5 (by decide) ?_
  refine lv_iload_n (pc := 7) hx hb dX3_find_7 rfl (lv_at hl 1 rfl) ?_
  refine w_isub (z := (-10 : Int32) - x) (pc := 8) hx hb dX3_find_8 (rfl) ?_
  exact hRet _ _ _ _ _ _ hP hD hS dX3_find_9 ⟨rfl, rfl⟩

set_option maxHeartbeats 4000000 in
set_option maxRecDepth 100000 in
theorem c_X3_latest (l : Launch) (g : Gx) (a : Nat → Nat) (la : Int32)  : Mi l g yX3_latest cX3_latest 1 ((some .int)) { frames := 0, cells := 0, slots := 0, locals := 0 } [.ref (a 1)] [(a 1, .inr (3, [.ref (a 2), .ref (a 3), .ref (a 4), .int la]))] (fun rv_ wv_ => rv_ = la ∧ wv_ = [(a 1, .inr (3, [.ref (a 2), .ref (a 3), .ref (a 4), .int la]))]) := by
  refine Mi.opn (own := RX3) (lv := [(0, .ref (a 1))]) (plainFor_of_name (by decide)) rfl rfl (Nat.le_of_ble_eq_true rfl) ?_
  intro p e R s m args below meth c A Q hx hb hml hown hts hA hK hX hRf hRl hRet H locs ls hP hD hS hl
  refine lv_aload_n (pc := 0) hx hb dX3_latest_0 rfl (lv_at hl 0 rfl) ?_
  refine va_get (D := g.1) (ci := 3) (v := .int la) (C := RX3) (T := TX3) (N := 4) (index := 21) (pc := 1) hx hb hts inX3 hown hK hP 0 rfl rfl 3 (by decide) (hts _ wd_1_34) (fun _ h9 => h9) rfl dX3_latest_1 ?_
  exact hRet _ _ _ _ _ _ hP hD hS dX3_latest_4 ⟨rfl, rfl⟩

set_option maxHeartbeats 4000000 in
set_option maxRecDepth 100000 in
theorem c_X3_isLost (l : Launch) (g : Gx) (a : Nat → Nat) (la : Int32) (fo : Nat → Int32) (r : Nat) (hr : r < 18) : Mi l g yX3_isLost cX3_isLost 2 ((some .boolean)) { frames := 0, cells := 0, slots := 0, locals := 0 } [.ref (a 1), .int (nI r)] [(a 1, .inr (3, [.ref (a 2), .ref (a 3), .ref (a 4), .int la])), (a 3, .inl (gI g, 18, .inl fo))] (fun rv_ wv_ => (rv_ = if fo r = -1 then 1 else 0) ∧ wv_ = [(a 1, .inr (3, [.ref (a 2), .ref (a 3), .ref (a 4), .int la])), (a 3, .inl (gI g, 18, .inl fo))]) := by
  refine Mz.opn (own := RX3) (lv := [(0, .ref (a 1)), (1, .int (nI r))]) (plainFor_of_name (by decide)) rfl rfl (Nat.le_of_ble_eq_true rfl) ?_
  intro p e R s m args below meth c A Q hx hb hml hown hts hA hK hX hRf hRl hRet H locs ls hP hD hS hl
  refine lv_aload_n (pc := 0) hx hb dX3_isLost_0 rfl (lv_at hl 0 rfl) ?_
  refine va_get (D := g.1) (ci := 3) (v := .ref (a 3)) (C := RX3) (T := TX3) (N := 4) (index := 15) (pc := 1) hx hb hts inX3 hown hK hP 0 rfl rfl 1 (by decide) (hts _ wd_1_32) (fun _ h9 => h9) rfl dX3_isLost_1 ?_
  refine lv_iload_n (pc := 4) hx hb dX3_isLost_4 rfl (lv_at hl 1 rfl) ?_
  refine w_iald (f := fo) (k := r) (z := fo r) (pc := 5) hx hb hK hP 1 rfl (by omega) (by decide) (rfl) dX3_isLost_5 ?_
  refine lv_iconst (v := (-1 : Int32)) (pc := 6) hx hb dX3_isLost_6 (by decide) ?_
  refine lv_icmp_ne (tgt := 14) (pc := 7) hx hb dX3_isLost_7 (by decide) (fun h_7 => ?_) (fun h_7 => ?_)
  · skip
    refine lv_iconst (v := (0 : Int32)) (pc := 14) hx hb dX3_isLost_14 (by decide) ?_
    exact hRet _ _ _ _ _ _ hP hD hS dX3_isLost_15 (by decide) ⟨(by simp_all), rfl⟩
  · skip
    refine lv_iconst (v := (1 : Int32)) (pc := 10) hx hb dX3_isLost_10 (by decide) ?_
    refine lv_goto (tgt := 15) (pc := 11) hx hb dX3_isLost_11 (by decide) ?_
    exact hRet _ _ _ _ _ _ hP hD hS dX3_isLost_15 (by decide) ⟨(by simp_all), rfl⟩

set_option maxHeartbeats 4000000 in
set_option maxRecDepth 100000 in
theorem c_X3_sizeOf (l : Launch) (g : Gx) (a : Nat → Nat) (la : Int32) (sz : Nat → Nat) (r : Nat) (hr : r < 18) : Mi l g yX3_sizeOf cX3_sizeOf 2 ((some .int)) { frames := 0, cells := 0, slots := 0, locals := 0 } [.ref (a 1), .int (nI r)] [(a 1, .inr (3, [.ref (a 2), .ref (a 3), .ref (a 4), .int la])), (a 4, .inl (gI g, 18, .inl (nF sz)))] (fun rv_ wv_ => rv_ = nI (sz r) ∧ wv_ = [(a 1, .inr (3, [.ref (a 2), .ref (a 3), .ref (a 4), .int la])), (a 4, .inl (gI g, 18, .inl (nF sz)))]) := by
  refine Mi.opn (own := RX3) (lv := [(0, .ref (a 1)), (1, .int (nI r))]) (plainFor_of_name (by decide)) rfl rfl (Nat.le_of_ble_eq_true rfl) ?_
  intro p e R s m args below meth c A Q hx hb hml hown hts hA hK hX hRf hRl hRet H locs ls hP hD hS hl
  refine lv_aload_n (pc := 0) hx hb dX3_sizeOf_0 rfl (lv_at hl 0 rfl) ?_
  refine va_get (D := g.1) (ci := 3) (v := .ref (a 4)) (C := RX3) (T := TX3) (N := 4) (index := 18) (pc := 1) hx hb hts inX3 hown hK hP 0 rfl rfl 2 (by decide) (hts _ wd_1_33) (fun _ h9 => h9) rfl dX3_sizeOf_1 ?_
  refine lv_iload_n (pc := 4) hx hb dX3_sizeOf_4 rfl (lv_at hl 1 rfl) ?_
  refine w_iald (f := nF sz) (k := r) (z := nI (sz r)) (pc := 5) hx hb hK hP 1 rfl (by omega) (by decide) (rfl) dX3_sizeOf_5 ?_
  exact hRet _ _ _ _ _ _ hP hD hS dX3_sizeOf_6 ⟨rfl, rfl⟩

set_option maxHeartbeats 4000000 in
set_option maxRecDepth 100000 in
theorem c_X3_held (l : Launch) (g : Gx) (a : Nat → Nat) (la : Int32) (fo : Nat → Int32)  : Mi l g yX3_held cX3_held 3 ((some .int)) { frames := 1, cells := 0, slots := 0, locals := 21 } [.ref (a 1)] [(a 1, .inr (3, [.ref (a 2), .ref (a 3), .ref (a 4), .int la])), (a 3, .inl (gI g, 18, .inl fo))] (fun rv_ wv_ => rv_ = nI (heldN fo 18) ∧ wv_ = [(a 1, .inr (3, [.ref (a 2), .ref (a 3), .ref (a 4), .int la])), (a 3, .inl (gI g, 18, .inl fo))]) := by
  refine Mi.opn (own := RX3) (lv := [(0, .ref (a 1))]) (plainFor_of_name (by decide)) rfl rfl (Nat.le_of_ble_eq_true rfl) ?_
  intro p e R s m args below meth c A Q hx hb hml hown hts hA hK hX hRf hRl hRet H locs ls hP hD hS hl
  refine lv_iconst (v := (0 : Int32)) (pc := 0) hx hb dX3_held_0 (by decide) ?_
  refine lv_istore_n (lv' := [(1, .int (0 : Int32)), (0, .ref (a 1))]) (pc := 1) hx hb dX3_held_1 rfl hl (by decide) rfl (fun ls hl => ?_)
  refine lv_iconst (v := (0 : Int32)) (pc := 2) hx hb dX3_held_2 (by decide) ?_
  refine lv_istore_n (lv' := [(2, .int (0 : Int32)), (1, .int (0 : Int32)), (0, .ref (a 1))]) (pc := 3) hx hb dX3_held_3 rfl hl (by decide) rfl (fun ls hl => ?_)
  have L4 : ∀ (nn : Nat) (i : Nat) (acc : Nat) (hi : i ≤ 18) (ha : acc = heldN fo i), 18 - i < nn → ∀ (H : Heap) (locs : List Loc) (ls : Array Slot), va_P g.1 classes [(a 1, .inr (3, [.ref (a 2), .ref (a 3), .ref (a 4), .int la])), (a 3, .inl (gI g, 18, .inl fo))] H → va_D A [(a 1, .inr (3, [.ref (a 2), .ref (a 3), .ref (a 4), .int la])), (a 3, .inl (gI g, 18, .inl fo))] → va_S A s.heap H locs → lv_has ls 3 [(0, .ref (a 1)), (1, .int (nI acc)), (2, .int (nI i))] → W p l e R s m args below meth c H locs 0 0 Q (F0 m 4 ls []) := by
    intro nn
    induction nn with
    | zero => exact fun i acc hi ha hm => absurd hm (Nat.not_lt_zero _)
    | succ nn ih4 =>
      intro i acc hi ha hm4 H locs ls hP hD hS hl
      refine lv_iload_n (pc := 4) hx hb dX3_held_4 rfl (lv_at hl 2 rfl) ?_
      refine lv_bipush (v := (18 : Int32)) (pc := 5) hx hb dX3_held_5 (by decide) ?_
      refine n_icmp_ge (tgt := 32) (pc := 7) hx hb i 18 (by omega) (by omega) dX3_held_7 (by decide) (fun h_7 => ?_) (fun h_7 => ?_)
      · skip
        refine lv_iload_n (pc := 32) hx hb dX3_held_32 rfl (lv_at hl 1 rfl) ?_
        exact hRet _ _ _ _ _ _ hP hD hS dX3_held_33 ⟨(by rw [ha, show i = 18 by omega]), rfl⟩
      · skip
        refine lv_iload_n (pc := 10) hx hb dX3_held_10 rfl (lv_at hl 1 rfl) ?_
        refine lv_aload_n (pc := 11) hx hb dX3_held_11 rfl (lv_at hl 0 rfl) ?_
        refine lv_iload_n (pc := 12) hx hb dX3_held_12 rfl (lv_at hl 2 rfl) ?_
        refine call_i (wr := []) (pc := 13) (run_V (wc := [(a 1, .inr (3, [.ref (a 2), .ref (a 3), .ref (a 4), .int la])), (a 3, .inl (gI g, 18, .inl fo))]) (As := [.int (nI i)]) (rest := [.int (nI acc)]) (pc := 13) hx hb hml hown hts hA hK hX (Nat.le_trans (by decide) hRf) (Nat.le_trans (by decide) hRl) hP hD hS (c_X3_isLost l g (a := a) (la := la) (fo := fo) (r := i) (by first | assumption | omega)) wd_2_51 wd_2_32 wd_2_33 wd_1_2 wd_2_34 hdX3_isLost [0, 1] rfl rfl 0 rfl rfl rfl hl.1 rfl (Nat.le_of_ble_eq_true rfl) dX3_held_13 ⟨Nat.zero_le _, Nat.zero_le _⟩) hA hP hD hS [0, 1] [] rfl rfl rfl (by decide) (fun r w1 H locs hq_13 hP hD hS => ?_)
        obtain ⟨rfl, rfl⟩ := hq_13
        have hP : va_P g.1 classes [(a 1, .inr (3, [.ref (a 2), .ref (a 3), .ref (a 4), .int la])), (a 3, .inl (gI g, 18, .inl fo))] H := hP
        have hD : va_D A [(a 1, .inr (3, [.ref (a 2), .ref (a 3), .ref (a 4), .int la])), (a 3, .inl (gI g, 18, .inl fo))] := hD
        refine b_if_eq (tgt := 23) (pc := 16) hx hb (fo i = -1) dX3_held_16 (by decide) (fun h_16 => ?_) (fun h_16 => ?_)
        · skip
          refine lv_iconst (v := (1 : Int32)) (pc := 23) hx hb dX3_held_23 (by decide) ?_
          refine w_iadd (z := nI (acc + 1)) (pc := 24) hx hb dX3_held_24 (nI_add acc 1) ?_
          refine lv_istore_n (lv' := [(1, .int (nI (acc + 1))), (0, .ref (a 1)), (2, .int (nI i))]) (pc := 25) hx hb dX3_held_25 rfl hl (by decide) rfl (fun ls hl => ?_)
          refine lv_iinc (v := nI (i + 1)) (lv' := [(2, .int (nI (i + 1))), (1, .int (nI (acc + 1))), (0, .ref (a 1))]) (pc := 26) hx hb dX3_held_26 hl (k := 2) rfl (inc_n i 1) (by decide) rfl (fun ls hl => ?_)
          refine lv_goto (tgt := 4) (pc := 29) hx hb dX3_held_29 (by decide) ?_
          exact ih4 (i + 1) (acc + 1) (by first | assumption | omega) (by simp [heldN, ha, h_16]) (by have := hm4; omega) _ _ _ hP hD hS (lv_sub hl [2, 1, 0] rfl)
        · skip
          refine lv_iconst (v := (0 : Int32)) (pc := 19) hx hb dX3_held_19 (by decide) ?_
          refine lv_goto (tgt := 24) (pc := 20) hx hb dX3_held_20 (by decide) ?_
          refine w_iadd (z := nI (acc + 0)) (pc := 24) hx hb dX3_held_24 (nI_add acc 0) ?_
          refine lv_istore_n (lv' := [(1, .int (nI (acc + 0))), (0, .ref (a 1)), (2, .int (nI i))]) (pc := 25) hx hb dX3_held_25 rfl hl (by decide) rfl (fun ls hl => ?_)
          refine lv_iinc (v := nI (i + 1)) (lv' := [(2, .int (nI (i + 1))), (1, .int (nI (acc + 0))), (0, .ref (a 1))]) (pc := 26) hx hb dX3_held_26 hl (k := 2) rfl (inc_n i 1) (by decide) rfl (fun ls hl => ?_)
          refine lv_goto (tgt := 4) (pc := 29) hx hb dX3_held_29 (by decide) ?_
          exact ih4 (i + 1) (acc + 0) (by first | assumption | omega) (by simp [heldN, ha, h_16]) (by have := hm4; omega) _ _ _ hP hD hS (lv_sub hl [2, 1, 0] rfl)
  exact L4 _ 0 0 (by first | assumption | omega) rfl (Nat.lt_succ_self _) _ _ _ hP hD hS (lv_sub hl [2, 1, 0] rfl)

set_option maxHeartbeats 4000000 in
set_option maxRecDepth 100000 in
theorem c_X3_fitted (l : Launch) (g : Gx) (x v : Int32)  : Mi l g yX3_fitted cX3_fitted 2 ((some .int)) { frames := 0, cells := 0, slots := 0, locals := 0 } [.int x, .int v] [] (fun rv_ wv_ => rv_ = fit x v ∧ wv_ = []) := by
  refine Mi.opn (own := RX3) (lv := [(0, .int x), (1, .int v)]) (plainFor_of_name (by decide)) rfl rfl (Nat.le_of_ble_eq_true rfl) ?_
  intro p e R s m args below meth c A Q hx hb hml hown hts hA hK hX hRf hRl hRet H locs ls hP hD hS hl
  refine lv_iload_n (pc := 0) hx hb dX3_fitted_0 rfl (lv_at hl 0 rfl) ?_
  refine lv_if_ne (tgt := 7) (pc := 1) hx hb dX3_fitted_1 (by decide) (fun h_1 => ?_) (fun h_1 => ?_)
  · skip
    refine lv_iload_n (pc := 7) hx hb dX3_fitted_7 rfl (lv_at hl 0 rfl) ?_
    refine lv_iconst (v := (1 : Int32)) (pc := 8) hx hb dX3_fitted_8 (by decide) ?_
    refine lv_icmp_ne (tgt := 17) (pc := 9) hx hb dX3_fitted_9 (by decide) (fun h_9 => ?_) (fun h_9 => ?_)
    · skip
      refine lv_iload_n (pc := 17) hx hb dX3_fitted_17 rfl (lv_at hl 1 rfl) ?_
      exact hRet _ _ _ _ _ _ hP hD hS dX3_fitted_18 ⟨(by simp_all [fit]), rfl⟩
    · skip
      refine lv_iload_n (pc := 12) hx hb dX3_fitted_12 rfl (lv_at hl 1 rfl) ?_
      refine lv_i2s (v := v.toInt16.toInt32) (pc := 13) hx hb dX3_fitted_13 (rfl) ?_
      refine lv_goto (tgt := 18) (pc := 14) hx hb dX3_fitted_14 (by decide) ?_
      exact hRet _ _ _ _ _ _ hP hD hS dX3_fitted_18 ⟨(by simp_all [fit]), rfl⟩
  · skip
    refine lv_iload_n (pc := 4) hx hb dX3_fitted_4 rfl (lv_at hl 1 rfl) ?_
    refine lv_i2b (v := v.toInt8.toInt32) (pc := 5) hx hb dX3_fitted_5 (rfl) ?_
    exact hRet _ _ _ _ _ _ hP hD hS dX3_fitted_6 ⟨(by simp_all [fit]), rfl⟩

set_option maxHeartbeats 4000000 in
set_option maxRecDepth 100000 in
theorem c_X3_fill (l : Launch) (g : Gx) (a : Nat → Nat) (it fo : Nat → Int32) (la : Int32) (r st en : Nat) (to v : Int32) (hr : r < 18) (hse : st ≤ en) (hen : en ≤ 64) (hto : to = nI en - 1) : Mv l g yX3_fill cX3_fill 7 (none) { frames := 1, cells := 0, slots := 0, locals := 21 } [.ref (a 1), .int (nI r), .int (nI st), .int to, .int v] [(a 1, .inr (3, [.ref (a 2), .ref (a 3), .ref (a 4), .int la])), (a 2, .inl (gI g, 1152, .inl it)), (a 3, .inl (gI g, 18, .inl fo))] (fun wv_ => wv_ = [(a 1, .inr (3, [.ref (a 2), .ref (a 3), .ref (a 4), .int la])), (a 2, .inl (gI g, 1152, .inl (fillF it (64 * r + st) (64 * r + en) (fit (fo r) v)))), (a 3, .inl (gI g, 18, .inl fo))]) 0 0 := by
  refine Mv.opn (own := RX3) (lv := [(0, .ref (a 1)), (1, .int (nI r)), (2, .int (nI st)), (3, .int to), (4, .int v)]) (plainFor_of_name (by decide)) rfl rfl (Nat.le_of_ble_eq_true rfl) ?_
  intro p e R s m args below meth c A Q hx hb hml hown hts hA hK hX hRf hRl hRet H locs ls hP hD hS hl
  refine lv_aload_n (pc := 0) hx hb dX3_fill_0 rfl (lv_at hl 0 rfl) ?_
  refine va_get (D := g.1) (ci := 3) (v := .ref (a 3)) (C := RX3) (T := TX3) (N := 4) (index := 15) (pc := 1) hx hb hts inX3 hown hK hP 0 rfl rfl 1 (by decide) (hts _ wd_1_32) (fun _ h9 => h9) rfl dX3_fill_1 ?_
  refine lv_iload_n (pc := 4) hx hb dX3_fill_4 rfl (lv_at hl 1 rfl) ?_
  refine w_iald (f := fo) (k := r) (z := fo r) (pc := 5) hx hb hK hP 2 rfl (by omega) (by decide) (rfl) dX3_fill_5 ?_
  refine lv_iload (pc := 6) hx hb dX3_fill_6 (lv_at hl 4 rfl) ?_
  refine call_i (wr := [(a 1, .inr (3, [.ref (a 2), .ref (a 3), .ref (a 4), .int la])), (a 2, .inl (gI g, 1152, .inl it)), (a 3, .inl (gI g, 18, .inl fo))]) (pc := 8) (run_S (wc := []) (As := [.int (fo r), .int v]) (rest := []) (pc := 8) hx hb hml hown hts hA hK hX (Nat.le_trans (by decide) hRf) (Nat.le_trans (by decide) hRl) hP hD hS (c_X3_fitted l g (x := fo r) (v := v) ) wd_2_20 wd_2_21 wd_1_2 wd_2_22 hdX3_fitted [] rfl rfl rfl hl.1 rfl (Nat.le_of_ble_eq_true rfl) dX3_fill_8 ⟨Nat.zero_le _, Nat.zero_le _⟩) hA hP hD hS [] [0, 1, 2] rfl rfl rfl (by decide) (fun r w1 H locs hq_8 hP hD hS => ?_)
  obtain ⟨rfl, rfl⟩ := hq_8
  have hP : va_P g.1 classes [(a 1, .inr (3, [.ref (a 2), .ref (a 3), .ref (a 4), .int la])), (a 2, .inl (gI g, 1152, .inl it)), (a 3, .inl (gI g, 18, .inl fo))] H := hP
  have hD : va_D A [(a 1, .inr (3, [.ref (a 2), .ref (a 3), .ref (a 4), .int la])), (a 2, .inl (gI g, 1152, .inl it)), (a 3, .inl (gI g, 18, .inl fo))] := hD
  refine lv_istore (lv' := [(5, .int (fit (fo r) v)), (0, .ref (a 1)), (1, .int (nI r)), (2, .int (nI st)), (3, .int to), (4, .int v)]) (pc := 11) hx hb dX3_fill_11 hl (by decide) rfl (fun ls hl => ?_)
  refine lv_iload_n (pc := 13) hx hb dX3_fill_13 rfl (lv_at hl 3 rfl) ?_
  refine lv_istore (lv' := [(6, .int (nI st)), (5, .int (fit (fo r) v)), (0, .ref (a 1)), (1, .int (nI r)), (2, .int (nI st)), (3, .int to), (4, .int v)]) (pc := 14) hx hb dX3_fill_14 hl (by decide) rfl (fun ls hl => ?_)
  have L16 : ∀ (nn : Nat) (i : Nat) (f : Nat → Int32) (hi : st ≤ i ∧ i ≤ en) (hf : f = fillF it (64 * r + st) (64 * r + i) (fit (fo r) v)), en - i < nn → ∀ (H : Heap) (locs : List Loc) (ls : Array Slot), va_P g.1 classes [(a 1, .inr (3, [.ref (a 2), .ref (a 3), .ref (a 4), .int la])), (a 2, .inl (gI g, 1152, .inl f)), (a 3, .inl (gI g, 18, .inl fo))] H → va_D A [(a 1, .inr (3, [.ref (a 2), .ref (a 3), .ref (a 4), .int la])), (a 2, .inl (gI g, 1152, .inl f)), (a 3, .inl (gI g, 18, .inl fo))] → va_S A s.heap H locs → lv_has ls 7 [(0, .ref (a 1)), (1, .int (nI r)), (2, .int (nI st)), (3, .int to), (4, .int v), (5, .int (fit (fo r) v)), (6, .int (nI i))] → W p l e R s m args below meth c H locs 0 0 Q (F0 m 16 ls []) := by
    intro nn
    induction nn with
    | zero => exact fun i f hi hf hm => absurd hm (Nat.not_lt_zero _)
    | succ nn ih16 =>
      intro i f hi hf hm16 H locs ls hP hD hS hl
      refine lv_iload (pc := 16) hx hb dX3_fill_16 (lv_at hl 6 rfl) ?_
      refine lv_iload_n (pc := 18) hx hb dX3_fill_18 rfl (lv_at hl 3 rfl) ?_
      refine lv_icmp_gt (tgt := 42) (pc := 19) hx hb dX3_fill_19 (by decide) (fun h_19 => ?_) (fun h_19 => ?_)
      · skip
        have h_19 : en ≤ i := (pred_lt (by omega) (by omega)).mp (hto ▸ h_19)
        exact hRet _ _ _ _ _ hP hD hS dX3_fill_42 (by rw [hf, show i = en by omega])
      · skip
        have h_19 : i < en := Nat.not_le.mp (fun q => h_19 (hto ▸ (pred_lt (by omega) (by omega)).mpr q))
        refine lv_aload_n (pc := 22) hx hb dX3_fill_22 rfl (lv_at hl 0 rfl) ?_
        refine va_get (D := g.1) (ci := 3) (v := .ref (a 2)) (C := RX3) (T := TX3) (N := 4) (index := 9) (pc := 23) hx hb hts inX3 hown hK hP 0 rfl rfl 0 (by decide) (hts _ wd_1_31) (fun _ h9 => h9) rfl dX3_fill_23 ?_
        refine lv_bipush (v := (64 : Int32)) (pc := 26) hx hb dX3_fill_26 (by decide) ?_
        refine lv_iload_n (pc := 28) hx hb dX3_fill_28 rfl (lv_at hl 1 rfl) ?_
        refine w_imul (z := nI (64 * r)) (pc := 29) hx hb dX3_fill_29 (pk_mul 64 r) ?_
        refine lv_iload (pc := 30) hx hb dX3_fill_30 (lv_at hl 6 rfl) ?_
        refine w_iadd (z := nI ((64 * r) + i)) (pc := 32) hx hb dX3_fill_32 (nI_add (64 * r) i) ?_
        refine lv_iload (pc := 33) hx hb dX3_fill_33 (lv_at hl 5 rfl) ?_
        refine w_iast (f := f) (f' := up f ((64 * r) + i) (fit (fo r) v)) (k := (64 * r) + i) (ws' := [(a 1, .inr (3, [.ref (a 2), .ref (a 3), .ref (a 4), .int la])), (a 2, .inl (gI g, 1152, .inl (up f ((64 * r) + i) (fit (fo r) v)))), (a 3, .inl (gI g, 18, .inl fo))]) (pc := 35) hx hb hK hP hD hS 1 rfl (by omega) (by decide) (rfl) rfl dX3_fill_35 (fun H locs hP hD hS => ?_)
        refine lv_iinc (v := nI (i + 1)) (lv' := [(6, .int (nI (i + 1))), (0, .ref (a 1)), (1, .int (nI r)), (2, .int (nI st)), (3, .int to), (4, .int v), (5, .int (fit (fo r) v))]) (pc := 36) hx hb dX3_fill_36 hl (k := 6) rfl (inc_n i 1) (by decide) rfl (fun ls hl => ?_)
        refine lv_goto (tgt := 16) (pc := 39) hx hb dX3_fill_39 (by decide) ?_
        exact ih16 (i + 1) (up f ((64 * r) + i) (fit (fo r) v)) (by omega) (by rw [hf, fillF_s _ _ (by omega), Nat.add_assoc]) (by have := hm16; omega) _ _ _ hP hD hS (lv_sub hl [1, 2, 3, 4, 5, 6, 0] rfl)
  exact L16 _ st it ⟨Nat.le_refl _, hse⟩ (fillF_0 _ _ _).symm (Nat.lt_succ_self _) _ _ _ hP hD hS (lv_sub hl [2, 3, 4, 5, 6, 1, 0] rfl)

set_option maxHeartbeats 4000000 in
set_option maxRecDepth 100000 in
theorem c_X3_wind (l : Launch) (g : Gx) (a : Nat → Nat) (it fo : Nat → Int32) (sz : Nat → Nat) (la : Int32) (r n : Nat) (x : Int32) (hr : r < 18) (hn : n ≤ 64) : Mv l g yX3_wind cX3_wind 4 (none) { frames := 2, cells := 0, slots := 0, locals := 47 } [.ref (a 1), .int (nI r), .int x, .int (nI n)] [(a 1, .inr (3, [.ref (a 2), .ref (a 3), .ref (a 4), .int la])), (a 2, .inl (gI g, 1152, .inl it)), (a 3, .inl (gI g, 18, .inl fo)), (a 4, .inl (gI g, 18, .inl (nF sz)))] (fun wv_ => wv_ = [(a 1, .inr (3, [.ref (a 2), .ref (a 3), .ref (a 4), .int la])), (a 2, .inl (gI g, 1152, .inl (fillF it (64 * r) (64 * r + n) (fit x 0)))), (a 3, .inl (gI g, 18, .inl (up fo r x))), (a 4, .inl (gI g, 18, .inl (nF (up sz r n))))]) 0 0 := by
  refine Mv.opn (own := RX3) (lv := [(0, .ref (a 1)), (1, .int (nI r)), (2, .int x), (3, .int (nI n))]) (plainFor_of_name (by decide)) rfl rfl (Nat.le_of_ble_eq_true rfl) ?_
  intro p e R s m args below meth c A Q hx hb hml hown hts hA hK hX hRf hRl hRet H locs ls hP hD hS hl
  refine lv_aload_n (pc := 0) hx hb dX3_wind_0 rfl (lv_at hl 0 rfl) ?_
  refine va_get (D := g.1) (ci := 3) (v := .ref (a 3)) (C := RX3) (T := TX3) (N := 4) (index := 15) (pc := 1) hx hb hts inX3 hown hK hP 0 rfl rfl 1 (by decide) (hts _ wd_1_32) (fun _ h9 => h9) rfl dX3_wind_1 ?_
  refine lv_iload_n (pc := 4) hx hb dX3_wind_4 rfl (lv_at hl 1 rfl) ?_
  refine lv_iload_n (pc := 5) hx hb dX3_wind_5 rfl (lv_at hl 2 rfl) ?_
  refine w_iast (f := fo) (f' := up fo r x) (k := r) (ws' := [(a 1, .inr (3, [.ref (a 2), .ref (a 3), .ref (a 4), .int la])), (a 2, .inl (gI g, 1152, .inl it)), (a 3, .inl (gI g, 18, .inl (up fo r x))), (a 4, .inl (gI g, 18, .inl (nF sz)))]) (pc := 6) hx hb hK hP hD hS 2 rfl (by omega) (by decide) (rfl) rfl dX3_wind_6 (fun H locs hP hD hS => ?_)
  refine lv_aload_n (pc := 7) hx hb dX3_wind_7 rfl (lv_at hl 0 rfl) ?_
  refine va_get (D := g.1) (ci := 3) (v := .ref (a 4)) (C := RX3) (T := TX3) (N := 4) (index := 18) (pc := 8) hx hb hts inX3 hown hK hP 0 rfl rfl 2 (by decide) (hts _ wd_1_33) (fun _ h9 => h9) rfl dX3_wind_8 ?_
  refine lv_iload_n (pc := 11) hx hb dX3_wind_11 rfl (lv_at hl 1 rfl) ?_
  refine lv_iload_n (pc := 12) hx hb dX3_wind_12 rfl (lv_at hl 3 rfl) ?_
  refine w_iast (f := nF sz) (f' := nF (up sz r n)) (k := r) (ws' := [(a 1, .inr (3, [.ref (a 2), .ref (a 3), .ref (a 4), .int la])), (a 2, .inl (gI g, 1152, .inl it)), (a 3, .inl (gI g, 18, .inl (up fo r x))), (a 4, .inl (gI g, 18, .inl (nF (up sz r n))))]) (pc := 13) hx hb hK hP hD hS 3 rfl (by omega) (by decide) (nF_up _ _ _) rfl dX3_wind_13 (fun H locs hP hD hS => ?_)
  refine lv_aload_n (pc := 14) hx hb dX3_wind_14 rfl (lv_at hl 0 rfl) ?_
  refine lv_iload_n (pc := 15) hx hb dX3_wind_15 rfl (lv_at hl 1 rfl) ?_
  refine lv_iconst (v := (0 : Int32)) (pc := 16) hx hb dX3_wind_16 (by decide) ?_
  refine lv_iload_n (pc := 17) hx hb dX3_wind_17 rfl (lv_at hl 3 rfl) ?_
  refine lv_iconst (v := (1 : Int32)) (pc := 18) hx hb dX3_wind_18 (by decide) ?_
  refine w_isub (z := (nI n) - (1 : Int32)) (pc := 19) hx hb dX3_wind_19 (rfl) ?_
  refine lv_iconst (v := (0 : Int32)) (pc := 20) hx hb dX3_wind_20 (by decide) ?_
  refine call_v (wr := [(a 4, .inl (gI g, 18, .inl (nF (up sz r n))))]) (pc := 21) (run_V (wc := [(a 1, .inr (3, [.ref (a 2), .ref (a 3), .ref (a 4), .int la])), (a 2, .inl (gI g, 1152, .inl it)), (a 3, .inl (gI g, 18, .inl (up fo r x)))]) (As := [.int (nI r), .int (0 : Int32), .int ((nI n) - (1 : Int32)), .int (0 : Int32)]) (rest := []) (pc := 21) hx hb hml hown hts hA hK hX (Nat.le_trans (by decide) hRf) (Nat.le_trans (by decide) hRl) hP hD hS (c_X3_fill l g (a := a) (it := it) (fo := up fo r x) (la := la) (r := r) (st := 0) (en := n) (to := (nI n) - (1 : Int32)) (v := (0 : Int32)) (by first | assumption | omega) (Nat.zero_le _) (by first | assumption | omega) rfl) wd_2_16 wd_2_17 wd_2_18 wd_1_2 wd_2_19 hdX3_fill [0, 1, 2] rfl rfl 0 rfl rfl rfl hl.1 rfl (Nat.le_of_ble_eq_true rfl) dX3_wind_21 ⟨Nat.zero_le _, Nat.zero_le _⟩) hA hP hD hS [0, 1, 2] [3] rfl rfl rfl (by decide) (fun w1 H locs hq_21 hP hD hS => ?_)
  obtain rfl := hq_21
  have hP : va_P g.1 classes [(a 4, .inl (gI g, 18, .inl (nF (up sz r n)))), (a 1, .inr (3, [.ref (a 2), .ref (a 3), .ref (a 4), .int la])), (a 2, .inl (gI g, 1152, .inl (fillF it (64 * r + 0) (64 * r + n) (fit ((up fo r x) r) (0 : Int32))))), (a 3, .inl (gI g, 18, .inl (up fo r x)))] H := hP
  have hD : va_D A [(a 4, .inl (gI g, 18, .inl (nF (up sz r n)))), (a 1, .inr (3, [.ref (a 2), .ref (a 3), .ref (a 4), .int la])), (a 2, .inl (gI g, 1152, .inl (fillF it (64 * r + 0) (64 * r + n) (fit ((up fo r x) r) (0 : Int32))))), (a 3, .inl (gI g, 18, .inl (up fo r x)))] := hD
  have hP : va_P g.1 classes [(a 1, .inr (3, [.ref (a 2), .ref (a 3), .ref (a 4), .int la])), (a 2, .inl (gI g, 1152, .inl (fillF it (64 * r + 0) (64 * r + n) (fit ((up fo r x) r) (0 : Int32))))), (a 3, .inl (gI g, 18, .inl (up fo r x))), (a 4, .inl (gI g, 18, .inl (nF (up sz r n))))] H := hP.sub [1, 2, 3, 0] rfl
  have hD : va_D A [(a 1, .inr (3, [.ref (a 2), .ref (a 3), .ref (a 4), .int la])), (a 2, .inl (gI g, 1152, .inl (fillF it (64 * r + 0) (64 * r + n) (fit ((up fo r x) r) (0 : Int32))))), (a 3, .inl (gI g, 18, .inl (up fo r x))), (a 4, .inl (gI g, 18, .inl (nF (up sz r n))))] := hD.sub [1, 2, 3, 0] rfl rfl
  exact hRet _ _ _ _ _ hP hD hS dX3_wind_24 (by rw [up_same]; rfl)

set_option maxHeartbeats 4000000 in
set_option maxRecDepth 100000 in
theorem c_X3_drop (l : Launch) (g : Gx) (a : Nat → Nat) (fo : Nat → Int32) (sz : Nat → Nat) (la : Int32) (r : Nat) (hr : r < 18) : Mv l g yX3_drop cX3_drop 2 (none) { frames := 0, cells := 0, slots := 0, locals := 0 } [.ref (a 1), .int (nI r)] [(a 1, .inr (3, [.ref (a 2), .ref (a 3), .ref (a 4), .int la])), (a 3, .inl (gI g, 18, .inl fo)), (a 4, .inl (gI g, 18, .inl (nF sz)))] (fun wv_ => wv_ = [(a 1, .inr (3, [.ref (a 2), .ref (a 3), .ref (a 4), .int la])), (a 3, .inl (gI g, 18, .inl (up fo r (-1 : Int32)))), (a 4, .inl (gI g, 18, .inl (nF (up sz r 0))))]) 0 0 := by
  refine Mv.opn (own := RX3) (lv := [(0, .ref (a 1)), (1, .int (nI r))]) (plainFor_of_name (by decide)) rfl rfl (Nat.le_of_ble_eq_true rfl) ?_
  intro p e R s m args below meth c A Q hx hb hml hown hts hA hK hX hRf hRl hRet H locs ls hP hD hS hl
  refine lv_aload_n (pc := 0) hx hb dX3_drop_0 rfl (lv_at hl 0 rfl) ?_
  refine va_get (D := g.1) (ci := 3) (v := .ref (a 3)) (C := RX3) (T := TX3) (N := 4) (index := 15) (pc := 1) hx hb hts inX3 hown hK hP 0 rfl rfl 1 (by decide) (hts _ wd_1_32) (fun _ h9 => h9) rfl dX3_drop_1 ?_
  refine lv_iload_n (pc := 4) hx hb dX3_drop_4 rfl (lv_at hl 1 rfl) ?_
  refine lv_iconst (v := (-1 : Int32)) (pc := 5) hx hb dX3_drop_5 (by decide) ?_
  refine w_iast (f := fo) (f' := up fo r (-1 : Int32)) (k := r) (ws' := [(a 1, .inr (3, [.ref (a 2), .ref (a 3), .ref (a 4), .int la])), (a 3, .inl (gI g, 18, .inl (up fo r (-1 : Int32)))), (a 4, .inl (gI g, 18, .inl (nF sz)))]) (pc := 6) hx hb hK hP hD hS 1 rfl (by omega) (by decide) (rfl) rfl dX3_drop_6 (fun H locs hP hD hS => ?_)
  refine lv_aload_n (pc := 7) hx hb dX3_drop_7 rfl (lv_at hl 0 rfl) ?_
  refine va_get (D := g.1) (ci := 3) (v := .ref (a 4)) (C := RX3) (T := TX3) (N := 4) (index := 18) (pc := 8) hx hb hts inX3 hown hK hP 0 rfl rfl 2 (by decide) (hts _ wd_1_33) (fun _ h9 => h9) rfl dX3_drop_8 ?_
  refine lv_iload_n (pc := 11) hx hb dX3_drop_11 rfl (lv_at hl 1 rfl) ?_
  refine lv_iconst (v := (0 : Int32)) (pc := 12) hx hb dX3_drop_12 (by decide) ?_
  refine w_iast (f := nF sz) (f' := nF (up sz r 0)) (k := r) (ws' := [(a 1, .inr (3, [.ref (a 2), .ref (a 3), .ref (a 4), .int la])), (a 3, .inl (gI g, 18, .inl (up fo r (-1 : Int32)))), (a 4, .inl (gI g, 18, .inl (nF (up sz r 0))))]) (pc := 13) hx hb hK hP hD hS 2 rfl (by omega) (by decide) (nF_up _ _ _) rfl dX3_drop_13 (fun H locs hP hD hS => ?_)
  exact hRet _ _ _ _ _ hP hD hS dX3_drop_14 rfl

set_option maxHeartbeats 4000000 in
set_option maxRecDepth 100000 in
theorem c_X3_flawOfItem (l : Launch) (g : Gx) (a : Nat → Nat) (fo : Nat → Int32) (sz : Nat → Nat) (la : Int32) (r : Nat) (x y : Int32) (hr : r < 18) : Mi l g yX3_flawOfItem cX3_flawOfItem 4 ((some .int)) { frames := 1, cells := 0, slots := 0, locals := 21 } [.ref (a 1), .int (nI r), .int x, .int y] [(a 1, .inr (3, [.ref (a 2), .ref (a 3), .ref (a 4), .int la])), (a 3, .inl (gI g, 18, .inl fo)), (a 4, .inl (gI g, 18, .inl (nF sz)))] (fun rv_ wv_ => rv_ = flawI fo sz r x y ∧ wv_ = [(a 1, .inr (3, [.ref (a 2), .ref (a 3), .ref (a 4), .int la])), (a 3, .inl (gI g, 18, .inl fo)), (a 4, .inl (gI g, 18, .inl (nF sz)))]) := by
  refine Mi.opn (own := RX3) (lv := [(0, .ref (a 1)), (1, .int (nI r)), (2, .int x), (3, .int y)]) (plainFor_of_name (by decide)) rfl rfl (Nat.le_of_ble_eq_true rfl) ?_
  intro p e R s m args below meth c A Q hx hb hml hown hts hA hK hX hRf hRl hRet H locs ls hP hD hS hl
  refine lv_aload_n (pc := 0) hx hb dX3_flawOfItem_0 rfl (lv_at hl 0 rfl) ?_
  refine lv_iload_n (pc := 1) hx hb dX3_flawOfItem_1 rfl (lv_at hl 1 rfl) ?_
  refine call_i (wr := [(a 4, .inl (gI g, 18, .inl (nF sz)))]) (pc := 2) (run_V (wc := [(a 1, .inr (3, [.ref (a 2), .ref (a 3), .ref (a 4), .int la])), (a 3, .inl (gI g, 18, .inl fo))]) (As := [.int (nI r)]) (rest := []) (pc := 2) hx hb hml hown hts hA hK hX (Nat.le_trans (by decide) hRf) (Nat.le_trans (by decide) hRl) hP hD hS (c_X3_isLost l g (a := a) (la := la) (fo := fo) (r := r) (by first | assumption | omega)) wd_2_51 wd_2_32 wd_2_33 wd_1_2 wd_2_34 hdX3_isLost [0, 1] rfl rfl 0 rfl rfl rfl hl.1 rfl (Nat.le_of_ble_eq_true rfl) dX3_flawOfItem_2 ⟨Nat.zero_le _, Nat.zero_le _⟩) hA hP hD hS [0, 1] [2] rfl rfl rfl (by decide) (fun r w1 H locs hq_2 hP hD hS => ?_)
  obtain ⟨rfl, rfl⟩ := hq_2
  have hP : va_P g.1 classes [(a 4, .inl (gI g, 18, .inl (nF sz))), (a 1, .inr (3, [.ref (a 2), .ref (a 3), .ref (a 4), .int la])), (a 3, .inl (gI g, 18, .inl fo))] H := hP
  have hD : va_D A [(a 4, .inl (gI g, 18, .inl (nF sz))), (a 1, .inr (3, [.ref (a 2), .ref (a 3), .ref (a 4), .int la])), (a 3, .inl (gI g, 18, .inl fo))] := hD
  refine b_if_eq (tgt := 10) (pc := 5) hx hb (fo r = -1) dX3_flawOfItem_5 (by decide) (fun h_5 => ?_) (fun h_5 => ?_)
  · skip
    refine lv_aload_n (pc := 10) hx hb dX3_flawOfItem_10 rfl (lv_at hl 0 rfl) ?_
    refine va_get (D := g.1) (ci := 3) (v := .ref (a 3)) (C := RX3) (T := TX3) (N := 4) (index := 15) (pc := 11) hx hb hts inX3 hown hK hP 1 rfl rfl 1 (by decide) (hts _ wd_1_32) (fun _ h9 => h9) rfl dX3_flawOfItem_11 ?_
    refine lv_iload_n (pc := 14) hx hb dX3_flawOfItem_14 rfl (lv_at hl 1 rfl) ?_
    refine w_iald (f := fo) (k := r) (z := fo r) (pc := 15) hx hb hK hP 2 rfl (by omega) (by decide) (rfl) dX3_flawOfItem_15 ?_
    refine lv_iload_n (pc := 16) hx hb dX3_flawOfItem_16 rfl (lv_at hl 2 rfl) ?_
    refine lv_icmp_eq (tgt := 22) (pc := 17) hx hb dX3_flawOfItem_17 (by decide) (fun h_17 => ?_) (fun h_17 => ?_)
    · skip
      refine lv_iload_n (pc := 22) hx hb dX3_flawOfItem_22 rfl (lv_at hl 3 rfl) ?_
      refine lv_if_lt (tgt := 36) (pc := 23) hx hb dX3_flawOfItem_23 (by decide) (fun h_23 => ?_) (fun h_23 => ?_)
      · skip
        refine lv_iconst (v := (2 : Int32)) (pc := 36) hx hb dX3_flawOfItem_36 (by decide) ?_
        refine lv_goto (tgt := 41) (pc := 37) hx hb dX3_flawOfItem_37 (by decide) ?_
        have hP : va_P g.1 classes [(a 1, .inr (3, [.ref (a 2), .ref (a 3), .ref (a 4), .int la])), (a 3, .inl (gI g, 18, .inl fo)), (a 4, .inl (gI g, 18, .inl (nF sz)))] H := hP.sub [1, 2, 0] rfl
        have hD : va_D A [(a 1, .inr (3, [.ref (a 2), .ref (a 3), .ref (a 4), .int la])), (a 3, .inl (gI g, 18, .inl fo)), (a 4, .inl (gI g, 18, .inl (nF sz)))] := hD.sub [1, 2, 0] rfl rfl
        exact hRet _ _ _ _ _ _ hP hD hS dX3_flawOfItem_41 ⟨(by unfold flawI; simp only [if_neg h_5, if_pos h_17, if_pos h_23]), rfl⟩
      · skip
        refine lv_iload_n (pc := 26) hx hb dX3_flawOfItem_26 rfl (lv_at hl 3 rfl) ?_
        refine lv_aload_n (pc := 27) hx hb dX3_flawOfItem_27 rfl (lv_at hl 0 rfl) ?_
        refine va_get (D := g.1) (ci := 3) (v := .ref (a 4)) (C := RX3) (T := TX3) (N := 4) (index := 18) (pc := 28) hx hb hts inX3 hown hK hP 1 rfl rfl 2 (by decide) (hts _ wd_1_33) (fun _ h9 => h9) rfl dX3_flawOfItem_28 ?_
        refine lv_iload_n (pc := 31) hx hb dX3_flawOfItem_31 rfl (lv_at hl 1 rfl) ?_
        refine w_iald (f := nF sz) (k := r) (z := nI (sz r)) (pc := 32) hx hb hK hP 0 rfl (by omega) (by decide) (rfl) dX3_flawOfItem_32 ?_
        refine lv_icmp_lt (tgt := 40) (pc := 33) hx hb dX3_flawOfItem_33 (by decide) (fun h_33 => ?_) (fun h_33 => ?_)
        · skip
          refine lv_iconst (v := (0 : Int32)) (pc := 40) hx hb dX3_flawOfItem_40 (by decide) ?_
          have hP : va_P g.1 classes [(a 1, .inr (3, [.ref (a 2), .ref (a 3), .ref (a 4), .int la])), (a 3, .inl (gI g, 18, .inl fo)), (a 4, .inl (gI g, 18, .inl (nF sz)))] H := hP.sub [1, 2, 0] rfl
          have hD : va_D A [(a 1, .inr (3, [.ref (a 2), .ref (a 3), .ref (a 4), .int la])), (a 3, .inl (gI g, 18, .inl fo)), (a 4, .inl (gI g, 18, .inl (nF sz)))] := hD.sub [1, 2, 0] rfl rfl
          exact hRet _ _ _ _ _ _ hP hD hS dX3_flawOfItem_41 ⟨(by unfold flawI; simp only [if_neg h_5, if_pos h_17, if_neg h_23, if_pos h_33]), rfl⟩
        · skip
          refine lv_iconst (v := (2 : Int32)) (pc := 36) hx hb dX3_flawOfItem_36 (by decide) ?_
          refine lv_goto (tgt := 41) (pc := 37) hx hb dX3_flawOfItem_37 (by decide) ?_
          have hP : va_P g.1 classes [(a 1, .inr (3, [.ref (a 2), .ref (a 3), .ref (a 4), .int la])), (a 3, .inl (gI g, 18, .inl fo)), (a 4, .inl (gI g, 18, .inl (nF sz)))] H := hP.sub [1, 2, 0] rfl
          have hD : va_D A [(a 1, .inr (3, [.ref (a 2), .ref (a 3), .ref (a 4), .int la])), (a 3, .inl (gI g, 18, .inl fo)), (a 4, .inl (gI g, 18, .inl (nF sz)))] := hD.sub [1, 2, 0] rfl rfl
          exact hRet _ _ _ _ _ _ hP hD hS dX3_flawOfItem_41 ⟨(by unfold flawI; simp only [if_neg h_5, if_pos h_17, if_neg h_23, if_neg h_33]), rfl⟩
    · skip
      refine lv_iconst (v := (3 : Int32)) (pc := 20) hx hb dX3_flawOfItem_20 (by decide) ?_
      have hP : va_P g.1 classes [(a 1, .inr (3, [.ref (a 2), .ref (a 3), .ref (a 4), .int la])), (a 3, .inl (gI g, 18, .inl fo)), (a 4, .inl (gI g, 18, .inl (nF sz)))] H := hP.sub [1, 2, 0] rfl
      have hD : va_D A [(a 1, .inr (3, [.ref (a 2), .ref (a 3), .ref (a 4), .int la])), (a 3, .inl (gI g, 18, .inl fo)), (a 4, .inl (gI g, 18, .inl (nF sz)))] := hD.sub [1, 2, 0] rfl rfl
      exact hRet _ _ _ _ _ _ hP hD hS dX3_flawOfItem_21 ⟨(by unfold flawI; simp only [if_neg h_5, if_neg h_17]), rfl⟩
  · skip
    refine lv_iconst (v := (1 : Int32)) (pc := 8) hx hb dX3_flawOfItem_8 (by decide) ?_
    have hP : va_P g.1 classes [(a 1, .inr (3, [.ref (a 2), .ref (a 3), .ref (a 4), .int la])), (a 3, .inl (gI g, 18, .inl fo)), (a 4, .inl (gI g, 18, .inl (nF sz)))] H := hP.sub [1, 2, 0] rfl
    have hD : va_D A [(a 1, .inr (3, [.ref (a 2), .ref (a 3), .ref (a 4), .int la])), (a 3, .inl (gI g, 18, .inl fo)), (a 4, .inl (gI g, 18, .inl (nF sz)))] := hD.sub [1, 2, 0] rfl rfl
    exact hRet _ _ _ _ _ _ hP hD hS dX3_flawOfItem_9 ⟨(by unfold flawI; simp only [if_pos h_5]), rfl⟩

set_option maxHeartbeats 4000000 in
set_option maxRecDepth 100000 in
theorem c_X3_hasRun (l : Launch) (g : Gx) (a : Nat → Nat) (sz : Nat → Nat) (la : Int32) (r : Nat) (i k : Int32) (hr : r < 18) : Mi l g yX3_hasRun cX3_hasRun 4 ((some .boolean)) { frames := 0, cells := 0, slots := 0, locals := 0 } [.ref (a 1), .int (nI r), .int i, .int k] [(a 1, .inr (3, [.ref (a 2), .ref (a 3), .ref (a 4), .int la])), (a 4, .inl (gI g, 18, .inl (nF sz)))] (fun rv_ wv_ => (rv_ = if runP (sz r) i k then 1 else 0) ∧ wv_ = [(a 1, .inr (3, [.ref (a 2), .ref (a 3), .ref (a 4), .int la])), (a 4, .inl (gI g, 18, .inl (nF sz)))]) := by
  refine Mz.opn (own := RX3) (lv := [(0, .ref (a 1)), (1, .int (nI r)), (2, .int i), (3, .int k)]) (plainFor_of_name (by decide)) rfl rfl (Nat.le_of_ble_eq_true rfl) ?_
  intro p e R s m args below meth c A Q hx hb hml hown hts hA hK hX hRf hRl hRet H locs ls hP hD hS hl
  refine lv_iload_n (pc := 0) hx hb dX3_hasRun_0 rfl (lv_at hl 2 rfl) ?_
  refine lv_if_lt (tgt := 34) (pc := 1) hx hb dX3_hasRun_1 (by decide) (fun h_1 => ?_) (fun h_1 => ?_)
  · skip
    refine lv_iconst (v := (0 : Int32)) (pc := 34) hx hb dX3_hasRun_34 (by decide) ?_
    exact hRet _ _ _ _ _ _ hP hD hS dX3_hasRun_35 (by decide) ⟨(by simp_all [runP]), rfl⟩
  · skip
    refine lv_iload_n (pc := 4) hx hb dX3_hasRun_4 rfl (lv_at hl 3 rfl) ?_
    refine lv_if_lt (tgt := 34) (pc := 5) hx hb dX3_hasRun_5 (by decide) (fun h_5 => ?_) (fun h_5 => ?_)
    · skip
      refine lv_iconst (v := (0 : Int32)) (pc := 34) hx hb dX3_hasRun_34 (by decide) ?_
      exact hRet _ _ _ _ _ _ hP hD hS dX3_hasRun_35 (by decide) ⟨(by simp_all [runP]), rfl⟩
    · skip
      refine lv_iload_n (pc := 8) hx hb dX3_hasRun_8 rfl (lv_at hl 2 rfl) ?_
      refine lv_aload_n (pc := 9) hx hb dX3_hasRun_9 rfl (lv_at hl 0 rfl) ?_
      refine va_get (D := g.1) (ci := 3) (v := .ref (a 4)) (C := RX3) (T := TX3) (N := 4) (index := 18) (pc := 10) hx hb hts inX3 hown hK hP 0 rfl rfl 2 (by decide) (hts _ wd_1_33) (fun _ h9 => h9) rfl dX3_hasRun_10 ?_
      refine lv_iload_n (pc := 13) hx hb dX3_hasRun_13 rfl (lv_at hl 1 rfl) ?_
      refine w_iald (f := nF sz) (k := r) (z := nI (sz r)) (pc := 14) hx hb hK hP 1 rfl (by omega) (by decide) (rfl) dX3_hasRun_14 ?_
      refine lv_icmp_gt (tgt := 34) (pc := 15) hx hb dX3_hasRun_15 (by decide) (fun h_15 => ?_) (fun h_15 => ?_)
      · skip
        refine lv_iconst (v := (0 : Int32)) (pc := 34) hx hb dX3_hasRun_34 (by decide) ?_
        exact hRet _ _ _ _ _ _ hP hD hS dX3_hasRun_35 (by decide) ⟨(by simp_all [runP]), rfl⟩
      · skip
        refine lv_iload_n (pc := 18) hx hb dX3_hasRun_18 rfl (lv_at hl 3 rfl) ?_
        refine lv_aload_n (pc := 19) hx hb dX3_hasRun_19 rfl (lv_at hl 0 rfl) ?_
        refine va_get (D := g.1) (ci := 3) (v := .ref (a 4)) (C := RX3) (T := TX3) (N := 4) (index := 18) (pc := 20) hx hb hts inX3 hown hK hP 0 rfl rfl 2 (by decide) (hts _ wd_1_33) (fun _ h9 => h9) rfl dX3_hasRun_20 ?_
        refine lv_iload_n (pc := 23) hx hb dX3_hasRun_23 rfl (lv_at hl 1 rfl) ?_
        refine w_iald (f := nF sz) (k := r) (z := nI (sz r)) (pc := 24) hx hb hK hP 1 rfl (by omega) (by decide) (rfl) dX3_hasRun_24 ?_
        refine lv_iload_n (pc := 25) hx hb dX3_hasRun_25 rfl (lv_at hl 2 rfl) ?_
        refine w_isub (z := (nI (sz r)) - i) (pc := 26) hx hb dX3_hasRun_26 (rfl) ?_
        refine lv_icmp_gt (tgt := 34) (pc := 27) hx hb dX3_hasRun_27 (by decide) (fun h_27 => ?_) (fun h_27 => ?_)
        · skip
          refine lv_iconst (v := (0 : Int32)) (pc := 34) hx hb dX3_hasRun_34 (by decide) ?_
          exact hRet _ _ _ _ _ _ hP hD hS dX3_hasRun_35 (by decide) ⟨(by simp_all [runP]), rfl⟩
        · skip
          refine lv_iconst (v := (1 : Int32)) (pc := 30) hx hb dX3_hasRun_30 (by decide) ?_
          refine lv_goto (tgt := 35) (pc := 31) hx hb dX3_hasRun_31 (by decide) ?_
          exact hRet _ _ _ _ _ _ hP hD hS dX3_hasRun_35 (by decide) ⟨(by simp_all [runP]), rfl⟩

set_option maxHeartbeats 4000000 in
set_option maxRecDepth 100000 in
theorem c_X3_flawOfMove (l : Launch) (g : Gx) (a : Nat → Nat) (fo : Nat → Int32) (sz : Nat → Nat) (la : Int32) (r q : Nat) (i j k : Int32) (hr : r < 18) (hq : q < 18) : Mi l g yX3_flawOfMove cX3_flawOfMove 6 ((some .int)) { frames := 1, cells := 0, slots := 0, locals := 23 } [.ref (a 1), .int (nI r), .int i, .int (nI q), .int j, .int k] [(a 1, .inr (3, [.ref (a 2), .ref (a 3), .ref (a 4), .int la])), (a 3, .inl (gI g, 18, .inl fo)), (a 4, .inl (gI g, 18, .inl (nF sz)))] (fun rv_ wv_ => rv_ = flawM fo sz r i q j k ∧ wv_ = [(a 1, .inr (3, [.ref (a 2), .ref (a 3), .ref (a 4), .int la])), (a 3, .inl (gI g, 18, .inl fo)), (a 4, .inl (gI g, 18, .inl (nF sz)))]) := by
  refine Mi.opn (own := RX3) (lv := [(0, .ref (a 1)), (1, .int (nI r)), (2, .int i), (3, .int (nI q)), (4, .int j), (5, .int k)]) (plainFor_of_name (by decide)) rfl rfl (Nat.le_of_ble_eq_true rfl) ?_
  intro p e R s m args below meth c A Q hx hb hml hown hts hA hK hX hRf hRl hRet H locs ls hP hD hS hl
  refine lv_aload_n (pc := 0) hx hb dX3_flawOfMove_0 rfl (lv_at hl 0 rfl) ?_
  refine lv_iload_n (pc := 1) hx hb dX3_flawOfMove_1 rfl (lv_at hl 1 rfl) ?_
  refine call_i (wr := [(a 4, .inl (gI g, 18, .inl (nF sz)))]) (pc := 2) (run_V (wc := [(a 1, .inr (3, [.ref (a 2), .ref (a 3), .ref (a 4), .int la])), (a 3, .inl (gI g, 18, .inl fo))]) (As := [.int (nI r)]) (rest := []) (pc := 2) hx hb hml hown hts hA hK hX (Nat.le_trans (by decide) hRf) (Nat.le_trans (by decide) hRl) hP hD hS (c_X3_isLost l g (a := a) (la := la) (fo := fo) (r := r) (by first | assumption | omega)) wd_2_51 wd_2_32 wd_2_33 wd_1_2 wd_2_34 hdX3_isLost [0, 1] rfl rfl 0 rfl rfl rfl hl.1 rfl (Nat.le_of_ble_eq_true rfl) dX3_flawOfMove_2 ⟨Nat.zero_le _, Nat.zero_le _⟩) hA hP hD hS [0, 1] [2] rfl rfl rfl (by decide) (fun r w1 H locs hq_2 hP hD hS => ?_)
  obtain ⟨rfl, rfl⟩ := hq_2
  have hP : va_P g.1 classes [(a 4, .inl (gI g, 18, .inl (nF sz))), (a 1, .inr (3, [.ref (a 2), .ref (a 3), .ref (a 4), .int la])), (a 3, .inl (gI g, 18, .inl fo))] H := hP
  have hD : va_D A [(a 4, .inl (gI g, 18, .inl (nF sz))), (a 1, .inr (3, [.ref (a 2), .ref (a 3), .ref (a 4), .int la])), (a 3, .inl (gI g, 18, .inl fo))] := hD
  refine b_if_ne (tgt := 16) (pc := 5) hx hb (fo r = -1) dX3_flawOfMove_5 (by decide) (fun h_5 => ?_) (fun h_5 => ?_)
  · skip
    refine lv_iconst (v := (1 : Int32)) (pc := 16) hx hb dX3_flawOfMove_16 (by decide) ?_
    have hP : va_P g.1 classes [(a 1, .inr (3, [.ref (a 2), .ref (a 3), .ref (a 4), .int la])), (a 3, .inl (gI g, 18, .inl fo)), (a 4, .inl (gI g, 18, .inl (nF sz)))] H := hP.sub [1, 2, 0] rfl
    have hD : va_D A [(a 1, .inr (3, [.ref (a 2), .ref (a 3), .ref (a 4), .int la])), (a 3, .inl (gI g, 18, .inl fo)), (a 4, .inl (gI g, 18, .inl (nF sz)))] := hD.sub [1, 2, 0] rfl rfl
    exact hRet _ _ _ _ _ _ hP hD hS dX3_flawOfMove_17 ⟨(by unfold flawM; simp only [if_pos h_5]), rfl⟩
  · skip
    refine lv_aload_n (pc := 8) hx hb dX3_flawOfMove_8 rfl (lv_at hl 0 rfl) ?_
    refine lv_iload_n (pc := 9) hx hb dX3_flawOfMove_9 rfl (lv_at hl 3 rfl) ?_
    refine call_i (wr := [(a 4, .inl (gI g, 18, .inl (nF sz)))]) (pc := 10) (run_V (wc := [(a 1, .inr (3, [.ref (a 2), .ref (a 3), .ref (a 4), .int la])), (a 3, .inl (gI g, 18, .inl fo))]) (As := [.int (nI q)]) (rest := []) (pc := 10) hx hb hml hown hts hA hK hX (Nat.le_trans (by decide) hRf) (Nat.le_trans (by decide) hRl) hP hD hS (c_X3_isLost l g (a := a) (la := la) (fo := fo) (r := q) (by first | assumption | omega)) wd_2_51 wd_2_32 wd_2_33 wd_1_2 wd_2_34 hdX3_isLost [1, 2] rfl rfl 0 rfl rfl rfl hl.1 rfl (Nat.le_of_ble_eq_true rfl) dX3_flawOfMove_10 ⟨Nat.zero_le _, Nat.zero_le _⟩) hA hP hD hS [1, 2] [0] rfl rfl rfl (by decide) (fun r w1 H locs hq_10 hP hD hS => ?_)
    obtain ⟨rfl, rfl⟩ := hq_10
    have hP : va_P g.1 classes [(a 4, .inl (gI g, 18, .inl (nF sz))), (a 1, .inr (3, [.ref (a 2), .ref (a 3), .ref (a 4), .int la])), (a 3, .inl (gI g, 18, .inl fo))] H := hP
    have hD : va_D A [(a 4, .inl (gI g, 18, .inl (nF sz))), (a 1, .inr (3, [.ref (a 2), .ref (a 3), .ref (a 4), .int la])), (a 3, .inl (gI g, 18, .inl fo))] := hD
    refine b_if_eq (tgt := 18) (pc := 13) hx hb (fo q = -1) dX3_flawOfMove_13 (by decide) (fun h_13 => ?_) (fun h_13 => ?_)
    · skip
      refine lv_aload_n (pc := 18) hx hb dX3_flawOfMove_18 rfl (lv_at hl 0 rfl) ?_
      refine va_get (D := g.1) (ci := 3) (v := .ref (a 3)) (C := RX3) (T := TX3) (N := 4) (index := 15) (pc := 19) hx hb hts inX3 hown hK hP 1 rfl rfl 1 (by decide) (hts _ wd_1_32) (fun _ h9 => h9) rfl dX3_flawOfMove_19 ?_
      refine lv_iload_n (pc := 22) hx hb dX3_flawOfMove_22 rfl (lv_at hl 1 rfl) ?_
      refine w_iald (f := fo) (k := r) (z := fo r) (pc := 23) hx hb hK hP 2 rfl (by omega) (by decide) (rfl) dX3_flawOfMove_23 ?_
      refine lv_aload_n (pc := 24) hx hb dX3_flawOfMove_24 rfl (lv_at hl 0 rfl) ?_
      refine va_get (D := g.1) (ci := 3) (v := .ref (a 3)) (C := RX3) (T := TX3) (N := 4) (index := 15) (pc := 25) hx hb hts inX3 hown hK hP 1 rfl rfl 1 (by decide) (hts _ wd_1_32) (fun _ h9 => h9) rfl dX3_flawOfMove_25 ?_
      refine lv_iload_n (pc := 28) hx hb dX3_flawOfMove_28 rfl (lv_at hl 3 rfl) ?_
      refine w_iald (f := fo) (k := q) (z := fo q) (pc := 29) hx hb hK hP 2 rfl (by omega) (by decide) (rfl) dX3_flawOfMove_29 ?_
      refine lv_icmp_eq (tgt := 35) (pc := 30) hx hb dX3_flawOfMove_30 (by decide) (fun h_30 => ?_) (fun h_30 => ?_)
      · skip
        refine lv_aload_n (pc := 35) hx hb dX3_flawOfMove_35 rfl (lv_at hl 0 rfl) ?_
        refine lv_iload_n (pc := 36) hx hb dX3_flawOfMove_36 rfl (lv_at hl 1 rfl) ?_
        refine lv_iload_n (pc := 37) hx hb dX3_flawOfMove_37 rfl (lv_at hl 2 rfl) ?_
        refine lv_iload (pc := 38) hx hb dX3_flawOfMove_38 (lv_at hl 5 rfl) ?_
        refine call_i (wr := [(a 3, .inl (gI g, 18, .inl fo))]) (pc := 40) (run_V (wc := [(a 1, .inr (3, [.ref (a 2), .ref (a 3), .ref (a 4), .int la])), (a 4, .inl (gI g, 18, .inl (nF sz)))]) (As := [.int (nI r), .int i, .int k]) (rest := []) (pc := 40) hx hb hml hown hts hA hK hX (Nat.le_trans (by decide) hRf) (Nat.le_trans (by decide) hRl) hP hD hS (c_X3_hasRun l g (a := a) (sz := sz) (la := la) (r := r) (i := i) (k := k) (by first | assumption | omega)) wd_2_70 wd_2_72 wd_0_0 wd_1_2 wd_2_73 hdX3_hasRun [1, 0] rfl rfl 0 rfl rfl rfl hl.1 rfl (Nat.le_of_ble_eq_true rfl) dX3_flawOfMove_40 ⟨Nat.zero_le _, Nat.zero_le _⟩) hA hP hD hS [1, 0] [2] rfl rfl rfl (by decide) (fun r w1 H locs hq_40 hP hD hS => ?_)
        obtain ⟨rfl, rfl⟩ := hq_40
        have hP : va_P g.1 classes [(a 3, .inl (gI g, 18, .inl fo)), (a 1, .inr (3, [.ref (a 2), .ref (a 3), .ref (a 4), .int la])), (a 4, .inl (gI g, 18, .inl (nF sz)))] H := hP
        have hD : va_D A [(a 3, .inl (gI g, 18, .inl fo)), (a 1, .inr (3, [.ref (a 2), .ref (a 3), .ref (a 4), .int la])), (a 4, .inl (gI g, 18, .inl (nF sz)))] := hD
        refine b_if_eq (tgt := 62) (pc := 43) hx hb (runP (sz r) i k) dX3_flawOfMove_43 (by decide) (fun h_43 => ?_) (fun h_43 => ?_)
        · skip
          refine lv_iconst (v := (2 : Int32)) (pc := 62) hx hb dX3_flawOfMove_62 (by decide) ?_
          have hP : va_P g.1 classes [(a 1, .inr (3, [.ref (a 2), .ref (a 3), .ref (a 4), .int la])), (a 3, .inl (gI g, 18, .inl fo)), (a 4, .inl (gI g, 18, .inl (nF sz)))] H := hP.sub [1, 0, 2] rfl
          have hD : va_D A [(a 1, .inr (3, [.ref (a 2), .ref (a 3), .ref (a 4), .int la])), (a 3, .inl (gI g, 18, .inl fo)), (a 4, .inl (gI g, 18, .inl (nF sz)))] := hD.sub [1, 0, 2] rfl rfl
          exact hRet _ _ _ _ _ _ hP hD hS dX3_flawOfMove_63 ⟨(by unfold flawM; simp only [if_neg h_5, if_neg h_13, if_pos h_30, if_neg h_43]), rfl⟩
        · skip
          refine lv_aload_n (pc := 46) hx hb dX3_flawOfMove_46 rfl (lv_at hl 0 rfl) ?_
          refine lv_iload_n (pc := 47) hx hb dX3_flawOfMove_47 rfl (lv_at hl 3 rfl) ?_
          refine lv_iload (pc := 48) hx hb dX3_flawOfMove_48 (lv_at hl 4 rfl) ?_
          refine lv_iload (pc := 50) hx hb dX3_flawOfMove_50 (lv_at hl 5 rfl) ?_
          refine call_i (wr := [(a 3, .inl (gI g, 18, .inl fo))]) (pc := 52) (run_V (wc := [(a 1, .inr (3, [.ref (a 2), .ref (a 3), .ref (a 4), .int la])), (a 4, .inl (gI g, 18, .inl (nF sz)))]) (As := [.int (nI q), .int j, .int k]) (rest := []) (pc := 52) hx hb hml hown hts hA hK hX (Nat.le_trans (by decide) hRf) (Nat.le_trans (by decide) hRl) hP hD hS (c_X3_hasRun l g (a := a) (sz := sz) (la := la) (r := q) (i := j) (k := k) (by first | assumption | omega)) wd_2_70 wd_2_72 wd_0_0 wd_1_2 wd_2_73 hdX3_hasRun [1, 2] rfl rfl 0 rfl rfl rfl hl.1 rfl (Nat.le_of_ble_eq_true rfl) dX3_flawOfMove_52 ⟨Nat.zero_le _, Nat.zero_le _⟩) hA hP hD hS [1, 2] [0] rfl rfl rfl (by decide) (fun r w1 H locs hq_52 hP hD hS => ?_)
          obtain ⟨rfl, rfl⟩ := hq_52
          have hP : va_P g.1 classes [(a 3, .inl (gI g, 18, .inl fo)), (a 1, .inr (3, [.ref (a 2), .ref (a 3), .ref (a 4), .int la])), (a 4, .inl (gI g, 18, .inl (nF sz)))] H := hP
          have hD : va_D A [(a 3, .inl (gI g, 18, .inl fo)), (a 1, .inr (3, [.ref (a 2), .ref (a 3), .ref (a 4), .int la])), (a 4, .inl (gI g, 18, .inl (nF sz)))] := hD
          refine b_if_eq (tgt := 62) (pc := 55) hx hb (runP (sz q) j k) dX3_flawOfMove_55 (by decide) (fun h_55 => ?_) (fun h_55 => ?_)
          · skip
            refine lv_iconst (v := (2 : Int32)) (pc := 62) hx hb dX3_flawOfMove_62 (by decide) ?_
            have hP : va_P g.1 classes [(a 1, .inr (3, [.ref (a 2), .ref (a 3), .ref (a 4), .int la])), (a 3, .inl (gI g, 18, .inl fo)), (a 4, .inl (gI g, 18, .inl (nF sz)))] H := hP.sub [1, 0, 2] rfl
            have hD : va_D A [(a 1, .inr (3, [.ref (a 2), .ref (a 3), .ref (a 4), .int la])), (a 3, .inl (gI g, 18, .inl fo)), (a 4, .inl (gI g, 18, .inl (nF sz)))] := hD.sub [1, 0, 2] rfl rfl
            exact hRet _ _ _ _ _ _ hP hD hS dX3_flawOfMove_63 ⟨(by unfold flawM; simp only [if_neg h_5, if_neg h_13, if_pos h_30, if_pos h_43, if_neg h_55]), rfl⟩
          · skip
            refine lv_iconst (v := (0 : Int32)) (pc := 58) hx hb dX3_flawOfMove_58 (by decide) ?_
            refine lv_goto (tgt := 63) (pc := 59) hx hb dX3_flawOfMove_59 (by decide) ?_
            have hP : va_P g.1 classes [(a 1, .inr (3, [.ref (a 2), .ref (a 3), .ref (a 4), .int la])), (a 3, .inl (gI g, 18, .inl fo)), (a 4, .inl (gI g, 18, .inl (nF sz)))] H := hP.sub [1, 0, 2] rfl
            have hD : va_D A [(a 1, .inr (3, [.ref (a 2), .ref (a 3), .ref (a 4), .int la])), (a 3, .inl (gI g, 18, .inl fo)), (a 4, .inl (gI g, 18, .inl (nF sz)))] := hD.sub [1, 0, 2] rfl rfl
            exact hRet _ _ _ _ _ _ hP hD hS dX3_flawOfMove_63 ⟨(by unfold flawM; simp only [if_neg h_5, if_neg h_13, if_pos h_30, if_pos h_43, if_pos h_55]), rfl⟩
      · skip
        refine lv_iconst (v := (4 : Int32)) (pc := 33) hx hb dX3_flawOfMove_33 (by decide) ?_
        have hP : va_P g.1 classes [(a 1, .inr (3, [.ref (a 2), .ref (a 3), .ref (a 4), .int la])), (a 3, .inl (gI g, 18, .inl fo)), (a 4, .inl (gI g, 18, .inl (nF sz)))] H := hP.sub [1, 2, 0] rfl
        have hD : va_D A [(a 1, .inr (3, [.ref (a 2), .ref (a 3), .ref (a 4), .int la])), (a 3, .inl (gI g, 18, .inl fo)), (a 4, .inl (gI g, 18, .inl (nF sz)))] := hD.sub [1, 2, 0] rfl rfl
        exact hRet _ _ _ _ _ _ hP hD hS dX3_flawOfMove_34 ⟨(by unfold flawM; simp only [if_neg h_5, if_neg h_13, if_neg h_30]), rfl⟩
    · skip
      refine lv_iconst (v := (1 : Int32)) (pc := 16) hx hb dX3_flawOfMove_16 (by decide) ?_
      have hP : va_P g.1 classes [(a 1, .inr (3, [.ref (a 2), .ref (a 3), .ref (a 4), .int la])), (a 3, .inl (gI g, 18, .inl fo)), (a 4, .inl (gI g, 18, .inl (nF sz)))] H := hP.sub [1, 2, 0] rfl
      have hD : va_D A [(a 1, .inr (3, [.ref (a 2), .ref (a 3), .ref (a 4), .int la])), (a 3, .inl (gI g, 18, .inl fo)), (a 4, .inl (gI g, 18, .inl (nF sz)))] := hD.sub [1, 2, 0] rfl rfl
      exact hRet _ _ _ _ _ _ hP hD hS dX3_flawOfMove_17 ⟨(by unfold flawM; simp only [if_neg h_5, if_pos h_13]), rfl⟩

set_option maxHeartbeats 4000000 in
set_option maxRecDepth 100000 in
theorem c_X3_itemOf (l : Launch) (g : Gx) (a : Nat → Nat) (it : Nat → Int32) (la : Int32) (r i : Nat) (hr : r < 18) (hi : i < 64) : Mi l g yX3_itemOf cX3_itemOf 3 ((some .int)) { frames := 0, cells := 0, slots := 0, locals := 0 } [.ref (a 1), .int (nI r), .int (nI i)] [(a 1, .inr (3, [.ref (a 2), .ref (a 3), .ref (a 4), .int la])), (a 2, .inl (gI g, 1152, .inl it))] (fun rv_ wv_ => rv_ = it (64 * r + i) ∧ wv_ = [(a 1, .inr (3, [.ref (a 2), .ref (a 3), .ref (a 4), .int la])), (a 2, .inl (gI g, 1152, .inl it))]) := by
  refine Mi.opn (own := RX3) (lv := [(0, .ref (a 1)), (1, .int (nI r)), (2, .int (nI i))]) (plainFor_of_name (by decide)) rfl rfl (Nat.le_of_ble_eq_true rfl) ?_
  intro p e R s m args below meth c A Q hx hb hml hown hts hA hK hX hRf hRl hRet H locs ls hP hD hS hl
  refine lv_aload_n (pc := 0) hx hb dX3_itemOf_0 rfl (lv_at hl 0 rfl) ?_
  refine va_get (D := g.1) (ci := 3) (v := .ref (a 2)) (C := RX3) (T := TX3) (N := 4) (index := 9) (pc := 1) hx hb hts inX3 hown hK hP 0 rfl rfl 0 (by decide) (hts _ wd_1_31) (fun _ h9 => h9) rfl dX3_itemOf_1 ?_
  refine lv_bipush (v := (64 : Int32)) (pc := 4) hx hb dX3_itemOf_4 (by decide) ?_
  refine lv_iload_n (pc := 6) hx hb dX3_itemOf_6 rfl (lv_at hl 1 rfl) ?_
  refine w_imul (z := nI (64 * r)) (pc := 7) hx hb dX3_itemOf_7 (pk_mul 64 r) ?_
  refine lv_iload_n (pc := 8) hx hb dX3_itemOf_8 rfl (lv_at hl 2 rfl) ?_
  refine w_iadd (z := nI ((64 * r) + i)) (pc := 9) hx hb dX3_itemOf_9 (nI_add (64 * r) i) ?_
  refine w_iald (f := it) (k := (64 * r) + i) (z := it ((64 * r) + i)) (pc := 10) hx hb hK hP 1 rfl (by omega) (by decide) (rfl) dX3_itemOf_10 ?_
  exact hRet _ _ _ _ _ _ hP hD hS dX3_itemOf_11 ⟨rfl, rfl⟩

set_option maxHeartbeats 4000000 in
set_option maxRecDepth 100000 in
theorem c_X3_reading (l : Launch) (g : Gx) (a : Nat → Nat) (it : Nat → Int32) (sz : Nat → Nat) (la : Int32) (d b k : Nat) (hd : d < 6) (hb3 : b < 3) (hk : k < 64) (hz : ∀ r, r < 18 → sz r ≤ 64) : Mi l g yX3_reading cX3_reading 6 ((some .int)) { frames := 0, cells := 0, slots := 0, locals := 0 } [.ref (a 1), .int (nI d), .int (nI b), .int (nI k)] [(a 1, .inr (3, [.ref (a 2), .ref (a 3), .ref (a 4), .int la])), (a 2, .inl (gI g, 1152, .inl it)), (a 4, .inl (gI g, 18, .inl (nF sz)))] (fun rv_ wv_ => rv_ = rdC it sz d b k ∧ wv_ = [(a 1, .inr (3, [.ref (a 2), .ref (a 3), .ref (a 4), .int la])), (a 2, .inl (gI g, 1152, .inl it)), (a 4, .inl (gI g, 18, .inl (nF sz)))]) := by
  refine Mi.opn (own := RX3) (lv := [(0, .ref (a 1)), (1, .int (nI d)), (2, .int (nI b)), (3, .int (nI k))]) (plainFor_of_name (by decide)) rfl rfl (Nat.le_of_ble_eq_true rfl) ?_
  intro p e R s m args below meth c A Q hx hb hml hown hts hA hK hX hRf hRl hRet H locs ls hP hD hS hl
  have hz1 := hz (3 * d + b) (by omega)
  refine lv_iconst (v := (3 : Int32)) (pc := 0) hx hb dX3_reading_0 (by decide) ?_
  refine lv_iload_n (pc := 1) hx hb dX3_reading_1 rfl (lv_at hl 1 rfl) ?_
  refine w_imul (z := nI (3 * d)) (pc := 2) hx hb dX3_reading_2 (pk_mul 3 d) ?_
  refine lv_iload_n (pc := 3) hx hb dX3_reading_3 rfl (lv_at hl 2 rfl) ?_
  refine w_iadd (z := nI ((3 * d) + b)) (pc := 4) hx hb dX3_reading_4 (nI_add (3 * d) b) ?_
  refine lv_istore (lv' := [(4, .int (nI ((3 * d) + b))), (0, .ref (a 1)), (1, .int (nI d)), (2, .int (nI b)), (3, .int (nI k))]) (pc := 5) hx hb dX3_reading_5 hl (by decide) rfl (fun ls hl => ?_)
  refine lv_iload_n (pc := 7) hx hb dX3_reading_7 rfl (lv_at hl 4 rfl) ?_
  refine lv_aload_n (pc := 8) hx hb dX3_reading_8 rfl (lv_at hl 1 rfl) ?_
  refine va_get (D := g.1) (ci := 3) (v := .ref (a 4)) (C := RX3) (T := TX3) (N := 4) (index := 18) (pc := 9) hx hb hts inX3 hown hK hP 0 rfl rfl 2 (by decide) (hts _ wd_1_33) (fun _ h9 => h9) rfl dX3_reading_9 ?_
  refine lv_iload (pc := 12) hx hb dX3_reading_12 (lv_at hl 0 rfl) ?_
  refine w_iald (f := nF sz) (k := (3 * d) + b) (z := nI (sz ((3 * d) + b))) (pc := 14) hx hb hK hP 2 rfl (by omega) (by decide) (rfl) dX3_reading_14 ?_
  refine n_icmp_lt (tgt := 20) (pc := 15) hx hb k (sz ((3 * d) + b)) (by omega) (by omega) dX3_reading_15 (by decide) (fun h_15 => ?_) (fun h_15 => ?_)
  · skip
    refine lv_aload_n (pc := 20) hx hb dX3_reading_20 rfl (lv_at hl 1 rfl) ?_
    refine va_get (D := g.1) (ci := 3) (v := .ref (a 2)) (C := RX3) (T := TX3) (N := 4) (index := 9) (pc := 21) hx hb hts inX3 hown hK hP 0 rfl rfl 0 (by decide) (hts _ wd_1_31) (fun _ h9 => h9) rfl dX3_reading_21 ?_
    refine lv_bipush (v := (64 : Int32)) (pc := 24) hx hb dX3_reading_24 (by decide) ?_
    refine lv_iload (pc := 26) hx hb dX3_reading_26 (lv_at hl 0 rfl) ?_
    refine w_imul (z := nI (64 * ((3 * d) + b))) (pc := 28) hx hb dX3_reading_28 (pk_mul 64 ((3 * d) + b)) ?_
    refine lv_iload_n (pc := 29) hx hb dX3_reading_29 rfl (lv_at hl 4 rfl) ?_
    refine w_iadd (z := nI ((64 * ((3 * d) + b)) + k)) (pc := 30) hx hb dX3_reading_30 (nI_add (64 * ((3 * d) + b)) k) ?_
    refine w_iald (f := it) (k := (64 * ((3 * d) + b)) + k) (z := it ((64 * ((3 * d) + b)) + k)) (pc := 31) hx hb hK hP 1 rfl (by omega) (by decide) (rfl) dX3_reading_31 ?_
    refine lv_istore (lv' := [(5, .int (it ((64 * ((3 * d) + b)) + k))), (4, .int (nI ((3 * d) + b))), (0, .ref (a 1)), (1, .int (nI d)), (2, .int (nI b)), (3, .int (nI k))]) (pc := 32) hx hb dX3_reading_32 hl (by decide) rfl (fun ls hl => ?_)
    refine lv_iload (pc := 34) hx hb dX3_reading_34 (lv_at hl 0 rfl) ?_
    refine lv_if_lt (tgt := 52) (pc := 36) hx hb dX3_reading_36 (by decide) (fun h_36 => ?_) (fun h_36 => ?_)
    · skip
      refine lv_iconst (v := (-1 : Int32)) (pc := 52) hx hb dX3_reading_52 (by decide) ?_
      exact hRet _ _ _ _ _ _ hP hD hS dX3_reading_53 ⟨(by unfold rdC okR; simp only [if_pos h_15, if_neg (Nat.not_le.mpr h_15), if_pos h_36]), rfl⟩
    · skip
      refine lv_iload (pc := 39) hx hb dX3_reading_39 (lv_at hl 0 rfl) ?_
      refine lv_sipush (v := (1000 : Int32)) (pc := 41) hx hb dX3_reading_41 (by decide) ?_
      refine lv_icmp_gt (tgt := 52) (pc := 44) hx hb dX3_reading_44 (by decide) (fun h_44 => ?_) (fun h_44 => ?_)
      · skip
        refine lv_iconst (v := (-1 : Int32)) (pc := 52) hx hb dX3_reading_52 (by decide) ?_
        exact hRet _ _ _ _ _ _ hP hD hS dX3_reading_53 ⟨(by unfold rdC okR; simp only [if_pos h_15, if_neg (Nat.not_le.mpr h_15), if_neg h_36, if_pos h_44]), rfl⟩
      · skip
        refine lv_iload (pc := 47) hx hb dX3_reading_47 (lv_at hl 0 rfl) ?_
        refine lv_goto (tgt := 53) (pc := 49) hx hb dX3_reading_49 (by decide) ?_
        exact hRet _ _ _ _ _ _ hP hD hS dX3_reading_53 ⟨(by unfold rdC okR; simp only [if_pos h_15, if_neg (Nat.not_le.mpr h_15), if_neg h_36, if_neg h_44]), rfl⟩
  · skip
    refine lv_iconst (v := (-1 : Int32)) (pc := 18) hx hb dX3_reading_18 (by decide) ?_
    exact hRet _ _ _ _ _ _ hP hD hS dX3_reading_19 ⟨(by unfold rdC; simp only [if_pos h_15, if_neg (Nat.not_lt.mpr h_15)]), rfl⟩
