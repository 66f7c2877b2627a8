section RDM
variable {it fo : Nat → Int32} {zM : Nat → Nat} {d bd k : Nat}
theorem rdM_null (h : fo (3 * d + bd) = -1) : rdC it (effS fo zM) d bd k = -1 := by
  unfold rdC effS; rw [if_pos h, if_neg (Nat.not_lt_zero _)]
theorem rdM_out (h : zM (3 * d + bd) ≤ k) : rdC it (effS fo zM) d bd k = -1 := by
  unfold rdC effS
  by_cases c : fo (3 * d + bd) = -1
  · rw [if_pos c, if_neg (Nat.not_lt_zero _)]
  · rw [if_neg c, if_neg (by omega)]
theorem rdM_in (h1 : ¬ fo (3 * d + bd) = -1) (h2 : k < zM (3 * d + bd)) (h3 : rg (it (64 * (3 * d + bd) + k)) 0 1000) : rdC it (effS fo zM) d bd k = it (64 * (3 * d + bd) + k) := by
  unfold rdC effS okR
  rw [if_neg h1, if_pos h2, if_neg h3.1, if_neg h3.2]
theorem rdM_bad (h1 : ¬ fo (3 * d + bd) = -1) (h2 : k < zM (3 * d + bd)) (h3 : ¬ rg (it (64 * (3 * d + bd) + k)) 0 1000) : rdC it (effS fo zM) d bd k = -1 := by
  unfold rdC effS okR
  rw [if_neg h1, if_pos h2]
  by_cases c : it (64 * (3 * d + bd) + k) < 0
  · rw [if_pos c]
  · rw [if_neg c, if_pos (Classical.byContradiction fun z => h3 ⟨c, z⟩)]
end RDM
set_option maxHeartbeats 4000000 in
set_option maxRecDepth 100000 in
theorem c_X9_reading (l : Launch) (g : Gx) (b : Nat → Nat) (it fo : Nat → Int32) (zM : Nat → Nat) (la br : Int32) (hi n dp mo te ow eg : Nat) (d bd k : Nat) (hd : d < 6) (hb3 : bd < 3) (hk : k < 64) (hfo : foOk fo) (hzM : ∀ r, r < 18 → zM r ≤ 64) : Mi l g yX9_reading cX9_reading 6 ((some .int)) { frames := 1, cells := 0, slots := 0, locals := 25 } [.ref (b 0), .int (nI d), .int (nI bd), .int (nI k)] [(b 0, .inr (9, [.ref (b 1), .ref (b 2), .ref (b 3), .ref (b 4), .int la, .int br, .int (nI hi), .ref (b 5), .ref (b 6), .int (nI n), .ref (b 7), .ref (b 8), .ref (b 9), .int (nI dp), .int (nI mo), .int (nI te), .ref (b 10), .ref (b 11), .ref (b 12), .ref (b 13), .ref (b 14), .ref (b 15), .ref (b 16), .ref (b 17), .ref (b 18), .ref (b 19), .int (nI ow), .int (nI eg), .ref (b 20), .ref (b 21), .ref (b 22), .ref (b 23), .ref (b 24), .ref (b 25), .ref (b 26), .ref (b 27), .ref (b 28), .ref (b 29)])), (b 1, .inl (gI g, 18, .inl fo)), (b 2, .inl (gI g, 18, .inl (nF zM))), (b 3, .inl (gI g, 1152, .inl it))] (fun rv_ wv_ => rv_ = rdC it (effS fo zM) d bd k ∧ wv_ = [(b 0, .inr (9, [.ref (b 1), .ref (b 2), .ref (b 3), .ref (b 4), .int la, .int br, .int (nI hi), .ref (b 5), .ref (b 6), .int (nI n), .ref (b 7), .ref (b 8), .ref (b 9), .int (nI dp), .int (nI mo), .int (nI te), .ref (b 10), .ref (b 11), .ref (b 12), .ref (b 13), .ref (b 14), .ref (b 15), .ref (b 16), .ref (b 17), .ref (b 18), .ref (b 19), .int (nI ow), .int (nI eg), .ref (b 20), .ref (b 21), .ref (b 22), .ref (b 23), .ref (b 24), .ref (b 25), .ref (b 26), .ref (b 27), .ref (b 28), .ref (b 29)])), (b 1, .inl (gI g, 18, .inl fo)), (b 2, .inl (gI g, 18, .inl (nF zM))), (b 3, .inl (gI g, 1152, .inl it))]) := by
  refine Mi.opn (own := RX9) (lv := [(0, .ref (b 0)), (1, .int (nI d)), (2, .int (nI bd)), (3, .int (nI k))]) (plainFor_of_name (by decide)) rfl rfl (Nat.le_of_ble_eq_true rfl) ?_
  intro p e R s m args below meth c A Q hx hb hml hown hts hA hK hX hRf hRl hRet H locs ls hP hD hS hl
  have hzr := hzM (3 * d + bd) (by omega)
  refine lv_iconst (v := (3 : Int32)) (pc := 0) hx hb dX9_reading_0 (by decide) ?_
  refine lv_iload_n (pc := 1) hx hb dX9_reading_1 rfl (lv_at hl 1 rfl) ?_
  refine w_imul (z := nI (3 * d)) (pc := 2) hx hb dX9_reading_2 (pk_mul 3 d) ?_
  refine lv_iload_n (pc := 3) hx hb dX9_reading_3 rfl (lv_at hl 2 rfl) ?_
  refine w_iadd (z := nI ((3 * d) + bd)) (pc := 4) hx hb dX9_reading_4 (nI_add (3 * d) bd) ?_
  refine lv_istore (lv' := [(4, .int (nI ((3 * d) + bd))), (0, .ref (b 0)), (1, .int (nI d)), (2, .int (nI bd)), (3, .int (nI k))]) (pc := 5) hx hb dX9_reading_5 hl (by decide) rfl (fun ls hl => ?_)
  have L46 : ∀ (v : Int32) (hv1 : okR v = rdC it (effS fo zM) d bd k), ∀ (H : Heap) (locs : List Loc) (ls : Array Slot), va_P g.1 classes [(b 0, .inr (9, [.ref (b 1), .ref (b 2), .ref (b 3), .ref (b 4), .int la, .int br, .int (nI hi), .ref (b 5), .ref (b 6), .int (nI n), .ref (b 7), .ref (b 8), .ref (b 9), .int (nI dp), .int (nI mo), .int (nI te), .ref (b 10), .ref (b 11), .ref (b 12), .ref (b 13), .ref (b 14), .ref (b 15), .ref (b 16), .ref (b 17), .ref (b 18), .ref (b 19), .int (nI ow), .int (nI eg), .ref (b 20), .ref (b 21), .ref (b 22), .ref (b 23), .ref (b 24), .ref (b 25), .ref (b 26), .ref (b 27), .ref (b 28), .ref (b 29)])), (b 1, .inl (gI g, 18, .inl fo)), (b 2, .inl (gI g, 18, .inl (nF zM))), (b 3, .inl (gI g, 1152, .inl it))] H → va_D A [(b 0, .inr (9, [.ref (b 1), .ref (b 2), .ref (b 3), .ref (b 4), .int la, .int br, .int (nI hi), .ref (b 5), .ref (b 6), .int (nI n), .ref (b 7), .ref (b 8), .ref (b 9), .int (nI dp), .int (nI mo), .int (nI te), .ref (b 10), .ref (b 11), .ref (b 12), .ref (b 13), .ref (b 14), .ref (b 15), .ref (b 16), .ref (b 17), .ref (b 18), .ref (b 19), .int (nI ow), .int (nI eg), .ref (b 20), .ref (b 21), .ref (b 22), .ref (b 23), .ref (b 24), .ref (b 25), .ref (b 26), .ref (b 27), .ref (b 28), .ref (b 29)])), (b 1, .inl (gI g, 18, .inl fo)), (b 2, .inl (gI g, 18, .inl (nF zM))), (b 3, .inl (gI g, 1152, .inl it))] → va_S A s.heap H locs → lv_has ls 6 [(0, .ref (b 0)), (1, .int (nI d)), (2, .int (nI bd)), (3, .int (nI k)), (4, .int (nI ((3 * d) + bd))), (5, .int v)] → W p l e R s m args below meth c H locs 0 0 Q (F0 m 46 ls []) := by
    intro v hv1 H locs ls hP hD hS hl
    refine lv_iload (pc := 46) hx hb dX9_reading_46 (lv_at hl 5 rfl) ?_
    refine lv_i2l (v := v.toInt64) (pc := 48) hx hb dX9_reading_48 (rfl) ?_
    refine lv_lconst (v := (0 : Int64)) (pc := 49) hx hb dX9_reading_49 (by decide) ?_
    refine lv_ldc2 (v := (1000 : Int64)) (pc := 50) hx hb hown (hts _ wd_4_120) dX9_reading_50 ?_
    refine call_i (wr := [(b 0, .inr (9, [.ref (b 1), .ref (b 2), .ref (b 3), .ref (b 4), .int la, .int br, .int (nI hi), .ref (b 5), .ref (b 6), .int (nI n), .ref (b 7), .ref (b 8), .ref (b 9), .int (nI dp), .int (nI mo), .int (nI te), .ref (b 10), .ref (b 11), .ref (b 12), .ref (b 13), .ref (b 14), .ref (b 15), .ref (b 16), .ref (b 17), .ref (b 18), .ref (b 19), .int (nI ow), .int (nI eg), .ref (b 20), .ref (b 21), .ref (b 22), .ref (b 23), .ref (b 24), .ref (b 25), .ref (b 26), .ref (b 27), .ref (b 28), .ref (b 29)])), (b 1, .inl (gI g, 18, .inl fo)), (b 2, .inl (gI g, 18, .inl (nF zM))), (b 3, .inl (gI g, 1152, .inl it))]) (pc := 53) (run_S (wc := []) (As := [.long v.toInt64, .long (0 : Int64), .long (1000 : Int64)]) (rest := []) (pc := 53) hx hb hml hown hts hA hK hX (Nat.le_trans (by decide) hRf) (Nat.le_trans (by decide) hRl) hP hD hS (c_X9_in l g (v := v.toInt64) (lo := (0 : Int64)) (hi := (1000 : Int64)) ) wd_4_79 wd_4_80 wd_1_11 wd_4_81 hdX9_in [] rfl rfl rfl hl.1 rfl (Nat.le_of_ble_eq_true rfl) dX9_reading_53 ⟨Nat.zero_le _, Nat.zero_le _⟩) hA hP hD hS [] [0, 1, 2, 3] rfl rfl rfl (by decide) (fun r w1 H locs hq_53 hP hD hS => ?_)
    obtain ⟨rfl, rfl⟩ := hq_53
    have hP : va_P g.1 classes [(b 0, .inr (9, [.ref (b 1), .ref (b 2), .ref (b 3), .ref (b 4), .int la, .int br, .int (nI hi), .ref (b 5), .ref (b 6), .int (nI n), .ref (b 7), .ref (b 8), .ref (b 9), .int (nI dp), .int (nI mo), .int (nI te), .ref (b 10), .ref (b 11), .ref (b 12), .ref (b 13), .ref (b 14), .ref (b 15), .ref (b 16), .ref (b 17), .ref (b 18), .ref (b 19), .int (nI ow), .int (nI eg), .ref (b 20), .ref (b 21), .ref (b 22), .ref (b 23), .ref (b 24), .ref (b 25), .ref (b 26), .ref (b 27), .ref (b 28), .ref (b 29)])), (b 1, .inl (gI g, 18, .inl fo)), (b 2, .inl (gI g, 18, .inl (nF zM))), (b 3, .inl (gI g, 1152, .inl it))] H := hP
    have hD : va_D A [(b 0, .inr (9, [.ref (b 1), .ref (b 2), .ref (b 3), .ref (b 4), .int la, .int br, .int (nI hi), .ref (b 5), .ref (b 6), .int (nI n), .ref (b 7), .ref (b 8), .ref (b 9), .int (nI dp), .int (nI mo), .int (nI te), .ref (b 10), .ref (b 11), .ref (b 12), .ref (b 13), .ref (b 14), .ref (b 15), .ref (b 16), .ref (b 17), .ref (b 18), .ref (b 19), .int (nI ow), .int (nI eg), .ref (b 20), .ref (b 21), .ref (b 22), .ref (b 23), .ref (b 24), .ref (b 25), .ref (b 26), .ref (b 27), .ref (b 28), .ref (b 29)])), (b 1, .inl (gI g, 18, .inl fo)), (b 2, .inl (gI g, 18, .inl (nF zM))), (b 3, .inl (gI g, 1152, .inl it))] := hD
    rw [show (if rgL v.toInt64 (0 : Int64) (1000 : Int64) then (1 : Int32) else 0) = (if rg v (0 : Int32) (1000 : Int32) then (1 : Int32) else 0) from rgL_ite rfl rfl]
    refine b_if_eq (tgt := 64) (pc := 56) hx hb (rg v (0 : Int32) (1000 : Int32)) dX9_reading_56 (by decide) (fun h_56 => ?_) (fun h_56 => ?_)
    · skip
      refine lv_iconst (v := (-1 : Int32)) (pc := 64) hx hb dX9_reading_64 (by decide) ?_
      exact hRet _ _ _ _ _ _ hP hD hS dX9_reading_65 ⟨(by rw [← hv1]; unfold okR; by_cases c : v < 0; rw [if_pos c]; rw [if_neg c, if_pos (Classical.byContradiction fun z => h_56 ⟨c, z⟩)]), rfl⟩
    · skip
      refine lv_iload (pc := 59) hx hb dX9_reading_59 (lv_at hl 5 rfl) ?_
      refine lv_goto (tgt := 65) (pc := 61) hx hb dX9_reading_61 (by decide) ?_
      exact hRet _ _ _ _ _ _ hP hD hS dX9_reading_65 ⟨(by rw [← hv1]; unfold okR; rw [if_neg h_56.1, if_neg h_56.2]), rfl⟩
  refine lv_aload_n (pc := 7) hx hb dX9_reading_7 rfl (lv_at hl 1 rfl) ?_
  refine va_get (D := g.1) (ci := 9) (v := .ref (b 1)) (C := RX9) (T := TX9) (N := 38) (index := 7) (pc := 8) hx hb hts inX9 hown hK hP 0 rfl rfl 0 (by decide) (hts _ wd_3_196) (fun _ h9 => h9) rfl dX9_reading_8 ?_
  refine lv_iload (pc := 11) hx hb dX9_reading_11 (lv_at hl 0 rfl) ?_
  refine w_iald (f := fo) (k := (3 * d) + bd) (z := fo ((3 * d) + bd)) (pc := 13) hx hb hK hP 1 rfl (by omega) (by first | decide | assumption) (rfl) dX9_reading_13 ?_
  refine lv_if_lt (tgt := 28) (pc := 14) hx hb dX9_reading_14 (by decide) (fun h_14 => ?_) (fun h_14 => ?_)
  · skip
    refine lv_iconst (v := (-1 : Int32)) (pc := 28) hx hb dX9_reading_28 (by decide) ?_
    refine lv_goto (tgt := 44) (pc := 29) hx hb dX9_reading_29 (by decide) ?_
    refine lv_istore (lv' := [(5, .int (-1 : Int32)), (4, .int (nI ((3 * d) + bd))), (0, .ref (b 0)), (1, .int (nI d)), (2, .int (nI bd)), (3, .int (nI k))]) (pc := 44) hx hb dX9_reading_44 hl (by decide) rfl (fun ls hl => ?_)
    exact L46 (-1 : Int32) (rdM_null (fo_neg hfo (by omega) (Int32.not_le.mpr h_14))).symm _ _ _ hP hD hS (lv_sub hl [2, 3, 4, 5, 1, 0] rfl)
  · skip
    refine lv_iload_n (pc := 17) hx hb dX9_reading_17 rfl (lv_at hl 4 rfl) ?_
    refine lv_aload_n (pc := 18) hx hb dX9_reading_18 rfl (lv_at hl 1 rfl) ?_
    refine va_get (D := g.1) (ci := 9) (v := .ref (b 2)) (C := RX9) (T := TX9) (N := 38) (index := 13) (pc := 19) hx hb hts inX9 hown hK hP 0 rfl rfl 1 (by decide) (hts _ wd_3_197) (fun _ h9 => h9) rfl dX9_reading_19 ?_
    refine lv_iload (pc := 22) hx hb dX9_reading_22 (lv_at hl 0 rfl) ?_
    refine w_iald (f := nF zM) (k := (3 * d) + bd) (z := nI (zM ((3 * d) + bd))) (pc := 24) hx hb hK hP 2 rfl (by omega) (by first | decide | assumption) (rfl) dX9_reading_24 ?_
    refine n_icmp_lt (tgt := 32) (pc := 25) hx hb k (zM ((3 * d) + bd)) (by omega) (by omega) dX9_reading_25 (by decide) (fun h_25 => ?_) (fun h_25 => ?_)
    · skip
      refine lv_aload_n (pc := 32) hx hb dX9_reading_32 rfl (lv_at hl 1 rfl) ?_
      refine va_get (D := g.1) (ci := 9) (v := .ref (b 3)) (C := RX9) (T := TX9) (N := 38) (index := 16) (pc := 33) hx hb hts inX9 hown hK hP 0 rfl rfl 2 (by decide) (hts _ wd_3_198) (fun _ h9 => h9) rfl dX9_reading_33 ?_
      refine lv_bipush (v := (64 : Int32)) (pc := 36) hx hb dX9_reading_36 (by decide) ?_
      refine lv_iload (pc := 38) hx hb dX9_reading_38 (lv_at hl 0 rfl) ?_
      refine w_imul (z := nI (64 * ((3 * d) + bd))) (pc := 40) hx hb dX9_reading_40 (pk_mul 64 ((3 * d) + bd)) ?_
      refine lv_iload_n (pc := 41) hx hb dX9_reading_41 rfl (lv_at hl 4 rfl) ?_
      refine w_iadd (z := nI ((64 * ((3 * d) + bd)) + k)) (pc := 42) hx hb dX9_reading_42 (nI_add (64 * ((3 * d) + bd)) k) ?_
      refine w_iald (f := it) (k := (64 * ((3 * d) + bd)) + k) (z := it ((64 * ((3 * d) + bd)) + k)) (pc := 43) hx hb hK hP 3 rfl (by omega) (by first | decide | assumption) (rfl) dX9_reading_43 ?_
      refine lv_istore (lv' := [(5, .int (it ((64 * ((3 * d) + bd)) + k))), (4, .int (nI ((3 * d) + bd))), (0, .ref (b 0)), (1, .int (nI d)), (2, .int (nI bd)), (3, .int (nI k))]) (pc := 44) hx hb dX9_reading_44 hl (by decide) rfl (fun ls hl => ?_)
      exact L46 (it ((64 * ((3 * d) + bd)) + k)) (by unfold rdC effS; rw [if_neg (fo_pos (Int32.not_lt.mp h_14)), if_pos h_25]) _ _ _ hP hD hS (lv_sub hl [2, 3, 4, 5, 1, 0] rfl)
    · skip
      refine lv_iconst (v := (-1 : Int32)) (pc := 28) hx hb dX9_reading_28 (by decide) ?_
      refine lv_goto (tgt := 44) (pc := 29) hx hb dX9_reading_29 (by decide) ?_
      refine lv_istore (lv' := [(5, .int (-1 : Int32)), (4, .int (nI ((3 * d) + bd))), (0, .ref (b 0)), (1, .int (nI d)), (2, .int (nI bd)), (3, .int (nI k))]) (pc := 44) hx hb dX9_reading_44 hl (by decide) rfl (fun ls hl => ?_)
      exact L46 (-1 : Int32) (rdM_out h_25).symm _ _ _ hP hD hS (lv_sub hl [2, 3, 4, 5, 1, 0] rfl)

set_option maxHeartbeats 4000000 in
set_option maxRecDepth 100000 in
theorem c_X9_isCloud (l : Launch) (g : Gx) (b : Nat → Nat) (it fo : Nat → Int32) (zM : Nat → Nat) (la br : Int32) (hi n dp mo te ow eg : Nat) (d k : Nat) (hd : d < 6) (hk : k < 64) (hfo : foOk fo) (hzM : ∀ r, r < 18 → zM r ≤ 64) : Mi l g yX9_isCloud cX9_isCloud 3 ((some .boolean)) { frames := 2, cells := 0, slots := 0, locals := 50 } [.ref (b 0), .int (nI d), .int (nI k)] [(b 0, .inr (9, [.ref (b 1), .ref (b 2), .ref (b 3), .ref (b 4), .int la, .int br, .int (nI hi), .ref (b 5), .ref (b 6), .int (nI n), .ref (b 7), .ref (b 8), .ref (b 9), .int (nI dp), .int (nI mo), .int (nI te), .ref (b 10), .ref (b 11), .ref (b 12), .ref (b 13), .ref (b 14), .ref (b 15), .ref (b 16), .ref (b 17), .ref (b 18), .ref (b 19), .int (nI ow), .int (nI eg), .ref (b 20), .ref (b 21), .ref (b 22), .ref (b 23), .ref (b 24), .ref (b 25), .ref (b 26), .ref (b 27), .ref (b 28), .ref (b 29)])), (b 1, .inl (gI g, 18, .inl fo)), (b 2, .inl (gI g, 18, .inl (nF zM))), (b 3, .inl (gI g, 1152, .inl it))] (fun rv_ wv_ => (rv_ = if br < rdC it (effS fo zM) d 0 k then 1 else 0) ∧ wv_ = [(b 0, .inr (9, [.ref (b 1), .ref (b 2), .ref (b 3), .ref (b 4), .int la, .int br, .int (nI hi), .ref (b 5), .ref (b 6), .int (nI n), .ref (b 7), .ref (b 8), .ref (b 9), .int (nI dp), .int (nI mo), .int (nI te), .ref (b 10), .ref (b 11), .ref (b 12), .ref (b 13), .ref (b 14), .ref (b 15), .ref (b 16), .ref (b 17), .ref (b 18), .ref (b 19), .int (nI ow), .int (nI eg), .ref (b 20), .ref (b 21), .ref (b 22), .ref (b 23), .ref (b 24), .ref (b 25), .ref (b 26), .ref (b 27), .ref (b 28), .ref (b 29)])), (b 1, .inl (gI g, 18, .inl fo)), (b 2, .inl (gI g, 18, .inl (nF zM))), (b 3, .inl (gI g, 1152, .inl it))]) := by
  refine Mz.opn (own := RX9) (lv := [(0, .ref (b 0)), (1, .int (nI d)), (2, .int (nI k))]) (plainFor_of_name (by decide)) rfl rfl (Nat.le_of_ble_eq_true rfl) ?_
  intro p e R s m args below meth c A Q hx hb hml hown hts hA hK hX hRf hRl hRet H locs ls hP hD hS hl
  refine lv_aload_n (pc := 0) hx hb dX9_isCloud_0 rfl (lv_at hl 0 rfl) ?_
  refine lv_iload_n (pc := 1) hx hb dX9_isCloud_1 rfl (lv_at hl 1 rfl) ?_
  refine lv_iconst (v := (0 : Int32)) (pc := 2) hx hb dX9_isCloud_2 (by decide) ?_
  refine lv_iload_n (pc := 3) hx hb dX9_isCloud_3 rfl (lv_at hl 2 rfl) ?_
  refine call_i (wr := []) (pc := 4) (run_V (wc := [(b 0, .inr (9, [.ref (b 1), .ref (b 2), .ref (b 3), .ref (b 4), .int la, .int br, .int (nI hi), .ref (b 5), .ref (b 6), .int (nI n), .ref (b 7), .ref (b 8), .ref (b 9), .int (nI dp), .int (nI mo), .int (nI te), .ref (b 10), .ref (b 11), .ref (b 12), .ref (b 13), .ref (b 14), .ref (b 15), .ref (b 16), .ref (b 17), .ref (b 18), .ref (b 19), .int (nI ow), .int (nI eg), .ref (b 20), .ref (b 21), .ref (b 22), .ref (b 23), .ref (b 24), .ref (b 25), .ref (b 26), .ref (b 27), .ref (b 28), .ref (b 29)])), (b 1, .inl (gI g, 18, .inl fo)), (b 2, .inl (gI g, 18, .inl (nF zM))), (b 3, .inl (gI g, 1152, .inl it))]) (As := [.int (nI d), .int (0 : Int32), .int (nI k)]) (rest := []) (pc := 4) hx hb hml hown hts hA hK hX (Nat.le_trans (by decide) hRf) (Nat.le_trans (by decide) hRl) hP hD hS (c_X9_reading l g (b := b) (it := it) (fo := fo) (zM := zM) (la := la) (br := br) (hi := hi) (n := n) (dp := dp) (mo := mo) (te := te) (ow := ow) (eg := eg) (d := d) (bd := 0) (k := k) (by first | assumption | omega) (by first | assumption | omega) (by first | assumption | omega) (by first | assumption | omega) (by first | assumption | omega)) wd_4_142 wd_4_144 wd_0_19 wd_1_11 wd_4_145 hdX9_reading [0, 1, 2, 3] rfl rfl 0 rfl rfl rfl hl.1 rfl (Nat.le_of_ble_eq_true rfl) dX9_isCloud_4 ⟨Nat.zero_le _, Nat.zero_le _⟩) hA hP hD hS [0, 1, 2, 3] [] rfl rfl rfl (by decide) (fun r w1 H locs hq_4 hP hD hS => ?_)
  obtain ⟨rfl, rfl⟩ := hq_4
  have hP : va_P g.1 classes [(b 0, .inr (9, [.ref (b 1), .ref (b 2), .ref (b 3), .ref (b 4), .int la, .int br, .int (nI hi), .ref (b 5), .ref (b 6), .int (nI n), .ref (b 7), .ref (b 8), .ref (b 9), .int (nI dp), .int (nI mo), .int (nI te), .ref (b 10), .ref (b 11), .ref (b 12), .ref (b 13), .ref (b 14), .ref (b 15), .ref (b 16), .ref (b 17), .ref (b 18), .ref (b 19), .int (nI ow), .int (nI eg), .ref (b 20), .ref (b 21), .ref (b 22), .ref (b 23), .ref (b 24), .ref (b 25), .ref (b 26), .ref (b 27), .ref (b 28), .ref (b 29)])), (b 1, .inl (gI g, 18, .inl fo)), (b 2, .inl (gI g, 18, .inl (nF zM))), (b 3, .inl (gI g, 1152, .inl it))] H := hP
  have hD : va_D A [(b 0, .inr (9, [.ref (b 1), .ref (b 2), .ref (b 3), .ref (b 4), .int la, .int br, .int (nI hi), .ref (b 5), .ref (b 6), .int (nI n), .ref (b 7), .ref (b 8), .ref (b 9), .int (nI dp), .int (nI mo), .int (nI te), .ref (b 10), .ref (b 11), .ref (b 12), .ref (b 13), .ref (b 14), .ref (b 15), .ref (b 16), .ref (b 17), .ref (b 18), .ref (b 19), .int (nI ow), .int (nI eg), .ref (b 20), .ref (b 21), .ref (b 22), .ref (b 23), .ref (b 24), .ref (b 25), .ref (b 26), .ref (b 27), .ref (b 28), .ref (b 29)])), (b 1, .inl (gI g, 18, .inl fo)), (b 2, .inl (gI g, 18, .inl (nF zM))), (b 3, .inl (gI g, 1152, .inl it))] := hD
  refine lv_aload_n (pc := 7) hx hb dX9_isCloud_7 rfl (lv_at hl 0 rfl) ?_
  refine va_get (D := g.1) (ci := 9) (v := .int br) (C := RX9) (T := TX9) (N := 38) (index := 22) (pc := 8) hx hb hts inX9 hown hK hP 0 rfl rfl 5 (by decide) (hts _ wd_3_201) (fun _ h9 => h9) rfl dX9_isCloud_8 ?_
  refine lv_icmp_le (tgt := 18) (pc := 11) hx hb dX9_isCloud_11 (by decide) (fun h_11 => ?_) (fun h_11 => ?_)
  · skip
    refine lv_iconst (v := (0 : Int32)) (pc := 18) hx hb dX9_isCloud_18 (by decide) ?_
    exact hRet _ _ _ _ _ _ hP hD hS dX9_isCloud_19 (by decide) ⟨(by rw [if_neg (Int32.not_lt.mpr h_11)]), rfl⟩
  · skip
    refine lv_iconst (v := (1 : Int32)) (pc := 14) hx hb dX9_isCloud_14 (by decide) ?_
    refine lv_goto (tgt := 19) (pc := 15) hx hb dX9_isCloud_15 (by decide) ?_
    exact hRet _ _ _ _ _ _ hP hD hS dX9_isCloud_19 (by decide) ⟨(by rw [if_pos (Int32.not_le.mp h_11)]), rfl⟩
