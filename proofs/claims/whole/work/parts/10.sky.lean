set_option maxHeartbeats 4000000 in
set_option maxRecDepth 100000 in
theorem c_J9_floorDiv_7cf53 (l : Launch) (g : Gx) (x y : Int32) (h1 : -1000000 ≤ x.toInt) (h2 : x.toInt ≤ 1000000) (hy : 0 < y.toInt) : Mi l g yJ9_floorDiv_7cf53 cJ9_floorDiv_7cf53 3 ((some .int)) { frames := 0, cells := 0, slots := 0, locals := 0 } [.int x, .int y] [] (fun rv_ wv_ => rv_ = flD x y ∧ wv_ = []) := by
  refine Mi.opn (own := RJ9) (lv := [(0, .int x), (1, .int y)]) (by decide +kernel) rfl rfl (Nat.le_of_ble_eq_true rfl) ?_
  intro p e R s m args below meth c A Q hx hb hml hown hts hA hK hX hRf hRl hRet H locs ls hP hD hS hl
  refine lv_iload_n (pc := 0) hx hb dJ9_floorDiv_7cf53_0 rfl (lv_at hl 0 rfl) ?_
  refine lv_iload_n (pc := 1) hx hb dJ9_floorDiv_7cf53_1 rfl (lv_at hl 1 rfl) ?_
  refine w_idiv (z := x / y) (pc := 2) hx hb dJ9_floorDiv_7cf53_2 (fun z => by rw [z] at hy; exact absurd hy (by decide)) (rfl) ?_
  refine lv_istore_n (lv' := [(2, .int (x / y)), (0, .int x), (1, .int y)]) (pc := 3) hx hb dJ9_floorDiv_7cf53_3 rfl hl (by decide) rfl (fun ls hl => ?_)
  refine lv_iload_n (pc := 4) hx hb dJ9_floorDiv_7cf53_4 rfl (lv_at hl 1 rfl) ?_
  refine lv_iload_n (pc := 5) hx hb dJ9_floorDiv_7cf53_5 rfl (lv_at hl 2 rfl) ?_
  refine w_ixor (z := x ^^^ y) (pc := 6) hx hb dJ9_floorDiv_7cf53_6 (rfl) ?_
  refine lv_if_ge (tgt := 21) (pc := 7) hx hb dJ9_floorDiv_7cf53_7 (by decide) (fun h_7 => ?_) (fun h_7 => ?_)
  · skip
    refine lv_iload_n (pc := 21) hx hb dJ9_floorDiv_7cf53_21 rfl (lv_at hl 0 rfl) ?_
    exact hRet _ _ _ _ _ _ hP hD hS dJ9_floorDiv_7cf53_22 ⟨(fd_a h1 h2 hy h_7), rfl⟩
  · skip
    refine lv_iload_n (pc := 10) hx hb dJ9_floorDiv_7cf53_10 rfl (lv_at hl 0 rfl) ?_
    refine lv_iload_n (pc := 11) hx hb dJ9_floorDiv_7cf53_11 rfl (lv_at hl 2 rfl) ?_
    refine w_imul (z := (x / y) * y) (pc := 12) hx hb dJ9_floorDiv_7cf53_12 (rfl) ?_
    refine lv_iload_n (pc := 13) hx hb dJ9_floorDiv_7cf53_13 rfl (lv_at hl 1 rfl) ?_
    refine lv_icmp_eq (tgt := 21) (pc := 14) hx hb dJ9_floorDiv_7cf53_14 (by decide) (fun h_14 => ?_) (fun h_14 => ?_)
    · skip
      refine lv_iload_n (pc := 21) hx hb dJ9_floorDiv_7cf53_21 rfl (lv_at hl 0 rfl) ?_
      exact hRet _ _ _ _ _ _ hP hD hS dJ9_floorDiv_7cf53_22 ⟨(fd_b h1 h2 hy h_14), rfl⟩
    · skip
      refine lv_iload_n (pc := 17) hx hb dJ9_floorDiv_7cf53_17 rfl (lv_at hl 0 rfl) ?_
      refine lv_iconst (v := (1 : Int32)) (pc := 18) hx hb dJ9_floorDiv_7cf53_18 (by decide) ?_
      refine w_isub (z := (x / y) - (1 : Int32)) (pc := 19) hx hb dJ9_floorDiv_7cf53_19 (rfl) ?_
      exact hRet _ _ _ _ _ _ hP hD hS dJ9_floorDiv_7cf53_20 ⟨(fd_c h1 h2 hy h_7 h_14), rfl⟩

set_option maxHeartbeats 4000000 in
set_option maxRecDepth 100000 in
theorem c_X5_bright (l : Launch) (g : Gx) (a : Nat → Nat) (br : Int32) (hi : Nat)  : Mi l g yX5_bright cX5_bright 1 ((some .int)) { frames := 0, cells := 0, slots := 0, locals := 0 } [.ref (a 5)] [(a 5, .inr (5, [.ref (a 1), .ref (a 6), .ref (a 7), .int br, .int (nI hi)]))] (fun rv_ wv_ => rv_ = br ∧ wv_ = [(a 5, .inr (5, [.ref (a 1), .ref (a 6), .ref (a 7), .int br, .int (nI hi)]))]) := by
  refine Mi.opn (own := RX5) (lv := [(0, .ref (a 5))]) (plainFor_of_name (by decide)) rfl rfl (Nat.le_of_ble_eq_true rfl) ?_
  intro p e R s m args below meth c A Q hx hb hml hown hts hA hK hX hRf hRl hRet H locs ls hP hD hS hl
  refine lv_aload_n (pc := 0) hx hb dX5_bright_0 rfl (lv_at hl 0 rfl) ?_
  refine va_get (D := g.1) (ci := 5) (v := .int br) (C := RX5) (T := TX5) (N := 5) (index := 18) (pc := 1) hx hb hts inX5 hown hK hP 0 rfl rfl 3 (by decide) (hts _ wd_1_54) (fun _ h9 => h9) rfl dX5_bright_1 ?_
  exact hRet _ _ _ _ _ _ hP hD hS dX5_bright_4 ⟨rfl, rfl⟩

set_option maxHeartbeats 4000000 in
set_option maxRecDepth 100000 in
theorem c_X5_high (l : Launch) (g : Gx) (a : Nat → Nat) (br : Int32) (hi : Nat)  : Mi l g yX5_high cX5_high 1 ((some .int)) { frames := 0, cells := 0, slots := 0, locals := 0 } [.ref (a 5)] [(a 5, .inr (5, [.ref (a 1), .ref (a 6), .ref (a 7), .int br, .int (nI hi)]))] (fun rv_ wv_ => rv_ = nI hi ∧ wv_ = [(a 5, .inr (5, [.ref (a 1), .ref (a 6), .ref (a 7), .int br, .int (nI hi)]))]) := by
  refine Mi.opn (own := RX5) (lv := [(0, .ref (a 5))]) (plainFor_of_name (by decide)) rfl rfl (Nat.le_of_ble_eq_true rfl) ?_
  intro p e R s m args below meth c A Q hx hb hml hown hts hA hK hX hRf hRl hRet H locs ls hP hD hS hl
  refine lv_aload_n (pc := 0) hx hb dX5_high_0 rfl (lv_at hl 0 rfl) ?_
  refine va_get (D := g.1) (ci := 5) (v := .int (nI hi)) (C := RX5) (T := TX5) (N := 5) (index := 22) (pc := 1) hx hb hts inX5 hown hK hP 0 rfl rfl 4 (by decide) (hts _ wd_1_55) (fun _ h9 => h9) rfl dX5_high_1 ?_
  exact hRet _ _ _ _ _ _ hP hD hS dX5_high_4 ⟨rfl, rfl⟩

set_option maxHeartbeats 4000000 in
set_option maxRecDepth 100000 in
theorem c_X5_setClouds (l : Launch) (g : Gx) (a : Nat → Nat) (br : Int32) (hi : Nat) (x : Int32) (y : Nat)  : Mv l g yX5_setClouds cX5_setClouds 3 (none) { frames := 0, cells := 0, slots := 0, locals := 0 } [.ref (a 5), .int x, .int (nI y)] [(a 5, .inr (5, [.ref (a 1), .ref (a 6), .ref (a 7), .int br, .int (nI hi)]))] (fun wv_ => wv_ = [(a 5, .inr (5, [.ref (a 1), .ref (a 6), .ref (a 7), .int x, .int (nI y)]))]) 0 0 := by
  refine Mv.opn (own := RX5) (lv := [(0, .ref (a 5)), (1, .int x), (2, .int (nI y))]) (plainFor_of_name (by decide)) rfl rfl (Nat.le_of_ble_eq_true rfl) ?_
  intro p e R s m args below meth c A Q hx hb hml hown hts hA hK hX hRf hRl hRet H locs ls hP hD hS hl
  refine lv_aload_n (pc := 0) hx hb dX5_setClouds_0 rfl (lv_at hl 0 rfl) ?_
  refine lv_iload_n (pc := 1) hx hb dX5_setClouds_1 rfl (lv_at hl 1 rfl) ?_
  refine w_put (ci := 5) (v := .int x) (ty := .int) (C := RX5) (T := TX5) (N := 5) (index := 18) (ws' := [(a 5, .inr (5, [.ref (a 1), .ref (a 6), .ref (a 7), .int x, .int (nI hi)]))]) (pc := 2) hx hb hts inX5 tyX5 tyX5_ok nmX5 hown hK hP hD hS 0 rfl rfl 3 (by decide) (hts _ wd_1_54) (fun _ h9 => h9) rfl (by decide +kernel) rfl rfl (Nat.le_of_ble_eq_true rfl) rfl dX5_setClouds_2 (fun H locs hP hD hS => ?_)
  refine lv_aload_n (pc := 5) hx hb dX5_setClouds_5 rfl (lv_at hl 0 rfl) ?_
  refine lv_iload_n (pc := 6) hx hb dX5_setClouds_6 rfl (lv_at hl 2 rfl) ?_
  refine w_put (ci := 5) (v := .int (nI y)) (ty := .int) (C := RX5) (T := TX5) (N := 5) (index := 22) (ws' := [(a 5, .inr (5, [.ref (a 1), .ref (a 6), .ref (a 7), .int x, .int (nI y)]))]) (pc := 7) hx hb hts inX5 tyX5 tyX5_ok nmX5 hown hK hP hD hS 0 rfl rfl 4 (by decide) (hts _ wd_1_55) (fun _ h9 => h9) rfl (by decide +kernel) rfl rfl (Nat.le_of_ble_eq_true rfl) rfl dX5_setClouds_7 (fun H locs hP hD hS => ?_)
  exact hRet _ _ _ _ _ hP hD hS dX5_setClouds_10 rfl

set_option maxHeartbeats 4000000 in
set_option maxRecDepth 100000 in
theorem c_X5_setSun (l : Launch) (g : Gx) (a : Nat → Nat) (br : Int32) (hi : Nat) (sx sy : Nat → Int32) (d : Nat) (x y : Int32) (hd : d < 6) : Mv l g yX5_setSun cX5_setSun 4 (none) { frames := 0, cells := 0, slots := 0, locals := 0 } [.ref (a 5), .int (nI d), .int x, .int y] [(a 5, .inr (5, [.ref (a 1), .ref (a 6), .ref (a 7), .int br, .int (nI hi)])), (a 6, .inl (gI g, 6, .inl sx)), (a 7, .inl (gI g, 6, .inl sy))] (fun wv_ => wv_ = [(a 5, .inr (5, [.ref (a 1), .ref (a 6), .ref (a 7), .int br, .int (nI hi)])), (a 6, .inl (gI g, 6, .inl (up sx d x))), (a 7, .inl (gI g, 6, .inl (up sy d y)))]) 0 0 := by
  refine Mv.opn (own := RX5) (lv := [(0, .ref (a 5)), (1, .int (nI d)), (2, .int x), (3, .int y)]) (plainFor_of_name (by decide)) rfl rfl (Nat.le_of_ble_eq_true rfl) ?_
  intro p e R s m args below meth c A Q hx hb hml hown hts hA hK hX hRf hRl hRet H locs ls hP hD hS hl
  refine lv_aload_n (pc := 0) hx hb dX5_setSun_0 rfl (lv_at hl 0 rfl) ?_
  refine va_get (D := g.1) (ci := 5) (v := .ref (a 6)) (C := RX5) (T := TX5) (N := 5) (index := 9) (pc := 1) hx hb hts inX5 hown hK hP 0 rfl rfl 1 (by decide) (hts _ wd_1_52) (fun _ h9 => h9) rfl dX5_setSun_1 ?_
  refine lv_iload_n (pc := 4) hx hb dX5_setSun_4 rfl (lv_at hl 1 rfl) ?_
  refine lv_iload_n (pc := 5) hx hb dX5_setSun_5 rfl (lv_at hl 2 rfl) ?_
  refine w_iast (f := sx) (f' := up sx d x) (k := d) (ws' := [(a 5, .inr (5, [.ref (a 1), .ref (a 6), .ref (a 7), .int br, .int (nI hi)])), (a 6, .inl (gI g, 6, .inl (up sx d x))), (a 7, .inl (gI g, 6, .inl sy))]) (pc := 6) hx hb hK hP hD hS 1 rfl (by omega) (by decide) (rfl) rfl dX5_setSun_6 (fun H locs hP hD hS => ?_)
  refine lv_aload_n (pc := 7) hx hb dX5_setSun_7 rfl (lv_at hl 0 rfl) ?_
  refine va_get (D := g.1) (ci := 5) (v := .ref (a 7)) (C := RX5) (T := TX5) (N := 5) (index := 15) (pc := 8) hx hb hts inX5 hown hK hP 0 rfl rfl 2 (by decide) (hts _ wd_1_53) (fun _ h9 => h9) rfl dX5_setSun_8 ?_
  refine lv_iload_n (pc := 11) hx hb dX5_setSun_11 rfl (lv_at hl 1 rfl) ?_
  refine lv_iload_n (pc := 12) hx hb dX5_setSun_12 rfl (lv_at hl 3 rfl) ?_
  refine w_iast (f := sy) (f' := up sy d y) (k := d) (ws' := [(a 5, .inr (5, [.ref (a 1), .ref (a 6), .ref (a 7), .int br, .int (nI hi)])), (a 6, .inl (gI g, 6, .inl (up sx d x))), (a 7, .inl (gI g, 6, .inl (up sy d y)))]) (pc := 13) hx hb hK hP hD hS 2 rfl (by omega) (by decide) (rfl) rfl dX5_setSun_13 (fun H locs hP hD hS => ?_)
  exact hRet _ _ _ _ _ hP hD hS dX5_setSun_14 rfl

set_option maxHeartbeats 4000000 in
set_option maxRecDepth 100000 in
theorem c_X5_isShadowed (l : Launch) (g : Gx) (a : Nat → Nat) (it : Nat → Int32) (sz : Nat → Nat) (la : Int32) (br : Int32) (hi : Nat) (sx sy : Nat → Int32) (d k : Nat) (hd : d < 6) (hk : k < 64) (ok : okSky sz sx sy hi) : Mi l g yX5_isShadowed cX5_isShadowed 6 ((some .boolean)) { frames := 1, cells := 0, slots := 0, locals := 25 } [.ref (a 5), .int (nI d), .int (nI k)] [(a 5, .inr (5, [.ref (a 1), .ref (a 6), .ref (a 7), .int br, .int (nI hi)])), (a 6, .inl (gI g, 6, .inl sx)), (a 7, .inl (gI g, 6, .inl sy)), (a 1, .inr (3, [.ref (a 2), .ref (a 3), .ref (a 4), .int la])), (a 2, .inl (gI g, 1152, .inl it)), (a 4, .inl (gI g, 18, .inl (nF sz)))] (fun rv_ wv_ => (rv_ = if shP (rdC it sz) br hi sx sy d k then 1 else 0) ∧ wv_ = [(a 5, .inr (5, [.ref (a 1), .ref (a 6), .ref (a 7), .int br, .int (nI hi)])), (a 6, .inl (gI g, 6, .inl sx)), (a 7, .inl (gI g, 6, .inl sy)), (a 1, .inr (3, [.ref (a 2), .ref (a 3), .ref (a 4), .int la])), (a 2, .inl (gI g, 1152, .inl it)), (a 4, .inl (gI g, 18, .inl (nF sz)))]) := by
  refine Mz.opn (own := RX5) (lv := [(0, .ref (a 5)), (1, .int (nI d)), (2, .int (nI k))]) (plainFor_of_name (by decide)) rfl rfl (Nat.le_of_ble_eq_true rfl) ?_
  intro p e R s m args below meth c A Q hx hb hml hown hts hA hK hX hRf hRl hRet H locs ls hP hD hS hl
  have hsx := ok.2.1 d hd
  have hsy := ok.2.2.1 d hd
  have hhi := ok.2.2.2
  have L20 : ∀  (hne : ¬ (sx d = 0 ∧ sy d = 0)), ∀ (H : Heap) (locs : List Loc) (ls : Array Slot), va_P g.1 classes [(a 5, .inr (5, [.ref (a 1), .ref (a 6), .ref (a 7), .int br, .int (nI hi)])), (a 6, .inl (gI g, 6, .inl sx)), (a 7, .inl (gI g, 6, .inl sy)), (a 1, .inr (3, [.ref (a 2), .ref (a 3), .ref (a 4), .int la])), (a 2, .inl (gI g, 1152, .inl it)), (a 4, .inl (gI g, 18, .inl (nF sz)))] H → va_D A [(a 5, .inr (5, [.ref (a 1), .ref (a 6), .ref (a 7), .int br, .int (nI hi)])), (a 6, .inl (gI g, 6, .inl sx)), (a 7, .inl (gI g, 6, .inl sy)), (a 1, .inr (3, [.ref (a 2), .ref (a 3), .ref (a 4), .int la])), (a 2, .inl (gI g, 1152, .inl it)), (a 4, .inl (gI g, 18, .inl (nF sz)))] → va_S A s.heap H locs → lv_has ls 6 [(0, .ref (a 5)), (1, .int (nI d)), (2, .int (nI k))] → W p l e R s m args below meth c H locs 0 0 Q (F0 m 20 ls []) := by
    intro hne H locs ls hP hD hS hl
    refine lv_iload_n (pc := 20) hx hb dX5_isShadowed_20 rfl (lv_at hl 2 rfl) ?_
    refine lv_bipush (v := (8 : Int32)) (pc := 21) hx hb dX5_isShadowed_21 (by decide) ?_
    refine w_irem (z := nI (k % 8)) (pc := 23) hx hb dX5_isShadowed_23 (by decide) (pk_rem (a := k) (d := 8) (by omega) (by decide) (by decide)) ?_
    refine lv_istore_n (lv' := [(3, .int (nI (k % 8))), (0, .ref (a 5)), (1, .int (nI d)), (2, .int (nI k))]) (pc := 24) hx hb dX5_isShadowed_24 rfl hl (by decide) rfl (fun ls hl => ?_)
    refine lv_iload_n (pc := 25) hx hb dX5_isShadowed_25 rfl (lv_at hl 3 rfl) ?_
    refine lv_bipush (v := (8 : Int32)) (pc := 26) hx hb dX5_isShadowed_26 (by decide) ?_
    refine w_idiv (z := nI (k / 8)) (pc := 28) hx hb dX5_isShadowed_28 (by decide) (pk_div (a := k) (d := 8) (by omega) (by decide) (by decide)) ?_
    refine lv_istore (lv' := [(4, .int (nI (k / 8))), (3, .int (nI (k % 8))), (0, .ref (a 5)), (1, .int (nI d)), (2, .int (nI k))]) (pc := 29) hx hb dX5_isShadowed_29 hl (by decide) rfl (fun ls hl => ?_)
    refine lv_iconst (v := (0 : Int32)) (pc := 31) hx hb dX5_isShadowed_31 (by decide) ?_
    refine lv_istore (lv' := [(5, .int (0 : Int32)), (4, .int (nI (k / 8))), (3, .int (nI (k % 8))), (0, .ref (a 5)), (1, .int (nI d)), (2, .int (nI k))]) (pc := 32) hx hb dX5_isShadowed_32 hl (by decide) rfl (fun ls hl => ?_)
    have L34 : ∀ (nn : Nat) (t : Nat) (X : Int32) (Y : Int32) (ht : t ≤ hi) (hX1 : X.toInt = ((k % 8 : Nat) : Int) - (t : Int) * (sx d).toInt) (hY1 : Y.toInt = ((k / 8 : Nat) : Int) - (t : Int) * (sy d).toInt) (hon : 0 ≤ X.toInt ∧ X.toInt ≤ 7 ∧ 0 ≤ Y.toInt ∧ Y.toInt ≤ 7) (hsh : shB (rdC it sz d 0) br (k % 8) (k / 8) (sx d).toInt (sy d).toInt t = false), hi - t < nn → ∀ (H : Heap) (locs : List Loc) (ls : Array Slot), va_P g.1 classes [(a 5, .inr (5, [.ref (a 1), .ref (a 6), .ref (a 7), .int br, .int (nI hi)])), (a 6, .inl (gI g, 6, .inl sx)), (a 7, .inl (gI g, 6, .inl sy)), (a 1, .inr (3, [.ref (a 2), .ref (a 3), .ref (a 4), .int la])), (a 2, .inl (gI g, 1152, .inl it)), (a 4, .inl (gI g, 18, .inl (nF sz)))] H → va_D A [(a 5, .inr (5, [.ref (a 1), .ref (a 6), .ref (a 7), .int br, .int (nI hi)])), (a 6, .inl (gI g, 6, .inl sx)), (a 7, .inl (gI g, 6, .inl sy)), (a 1, .inr (3, [.ref (a 2), .ref (a 3), .ref (a 4), .int la])), (a 2, .inl (gI g, 1152, .inl it)), (a 4, .inl (gI g, 18, .inl (nF sz)))] → va_S A s.heap H locs → lv_has ls 6 [(0, .ref (a 5)), (1, .int (nI d)), (2, .int (nI k)), (3, .int X), (4, .int Y), (5, .int (nI t))] → W p l e R s m args below meth c H locs 0 0 Q (F0 m 34 ls []) := by
      intro nn
      induction nn with
      | zero => exact fun t X Y ht hX1 hY1 hon hsh hm => absurd hm (Nat.not_lt_zero _)
      | succ nn ih34 =>
        intro t X Y ht hX1 hY1 hon hsh hm34 H locs ls hP hD hS hl
        have eX : (X - sx d).toInt = ((k % 8 : Nat) : Int) - ((t + 1 : Nat) : Int) * (sx d).toInt := by rw [step_sub hX1 (by omega) (by omega) hsx, Int.natCast_succ, Int.add_mul, Int.one_mul]; omega
        have eY : (Y - sy d).toInt = ((k / 8 : Nat) : Int) - ((t + 1 : Nat) : Int) * (sy d).toInt := by rw [step_sub hY1 (by omega) (by omega) hsy, Int.natCast_succ, Int.add_mul, Int.one_mul]; omega
        refine lv_iload (pc := 34) hx hb dX5_isShadowed_34 (lv_at hl 5 rfl) ?_
        refine lv_aload_n (pc := 36) hx hb dX5_isShadowed_36 rfl (lv_at hl 0 rfl) ?_
        refine va_get (D := g.1) (ci := 5) (v := .int (nI hi)) (C := RX5) (T := TX5) (N := 5) (index := 22) (pc := 37) hx hb hts inX5 hown hK hP 0 rfl rfl 4 (by decide) (hts _ wd_1_55) (fun _ h9 => h9) rfl dX5_isShadowed_37 ?_
        refine n_icmp_ge (tgt := 117) (pc := 40) hx hb t hi (by omega) (by omega) dX5_isShadowed_40 (by decide) (fun h_40 => ?_) (fun h_40 => ?_)
        · skip
          refine lv_iconst (v := (0 : Int32)) (pc := 117) hx hb dX5_isShadowed_117 (by decide) ?_
          exact hRet _ _ _ _ _ _ hP hD hS dX5_isShadowed_118 (by decide) ⟨(by rw [if_neg (fun z => by have z2 := z.2; rw [show hi = t by omega, hsh] at z2; exact absurd z2 (by decide))]), rfl⟩
        · skip
          refine lv_iload_n (pc := 43) hx hb dX5_isShadowed_43 rfl (lv_at hl 3 rfl) ?_
          refine lv_aload_n (pc := 44) hx hb dX5_isShadowed_44 rfl (lv_at hl 0 rfl) ?_
          refine va_get (D := g.1) (ci := 5) (v := .ref (a 6)) (C := RX5) (T := TX5) (N := 5) (index := 9) (pc := 45) hx hb hts inX5 hown hK hP 0 rfl rfl 1 (by decide) (hts _ wd_1_52) (fun _ h9 => h9) rfl dX5_isShadowed_45 ?_
          refine lv_iload_n (pc := 48) hx hb dX5_isShadowed_48 rfl (lv_at hl 1 rfl) ?_
          refine w_iald (f := sx) (k := d) (z := sx d) (pc := 49) hx hb hK hP 1 rfl (by omega) (by decide) (rfl) dX5_isShadowed_49 ?_
          refine w_isub (z := X - (sx d)) (pc := 50) hx hb dX5_isShadowed_50 (rfl) ?_
          refine lv_istore_n (lv' := [(3, .int (X - (sx d))), (0, .ref (a 5)), (1, .int (nI d)), (2, .int (nI k)), (4, .int Y), (5, .int (nI t))]) (pc := 51) hx hb dX5_isShadowed_51 rfl hl (by decide) rfl (fun ls hl => ?_)
          refine lv_iload (pc := 52) hx hb dX5_isShadowed_52 (lv_at hl 4 rfl) ?_
          refine lv_aload_n (pc := 54) hx hb dX5_isShadowed_54 rfl (lv_at hl 1 rfl) ?_
          refine va_get (D := g.1) (ci := 5) (v := .ref (a 7)) (C := RX5) (T := TX5) (N := 5) (index := 15) (pc := 55) hx hb hts inX5 hown hK hP 0 rfl rfl 2 (by decide) (hts _ wd_1_53) (fun _ h9 => h9) rfl dX5_isShadowed_55 ?_
          refine lv_iload_n (pc := 58) hx hb dX5_isShadowed_58 rfl (lv_at hl 2 rfl) ?_
          refine w_iald (f := sy) (k := d) (z := sy d) (pc := 59) hx hb hK hP 2 rfl (by omega) (by decide) (rfl) dX5_isShadowed_59 ?_
          refine w_isub (z := Y - (sy d)) (pc := 60) hx hb dX5_isShadowed_60 (rfl) ?_
          refine lv_istore (lv' := [(4, .int (Y - (sy d))), (3, .int (X - (sx d))), (0, .ref (a 5)), (1, .int (nI d)), (2, .int (nI k)), (5, .int (nI t))]) (pc := 61) hx hb dX5_isShadowed_61 hl (by decide) rfl (fun ls hl => ?_)
          refine lv_iload_n (pc := 63) hx hb dX5_isShadowed_63 rfl (lv_at hl 1 rfl) ?_
          refine lv_iconst (v := (0 : Int32)) (pc := 64) hx hb dX5_isShadowed_64 (by decide) ?_
          refine lv_bipush (v := (7 : Int32)) (pc := 65) hx hb dX5_isShadowed_65 (by decide) ?_
          refine call_i (wr := [(a 5, .inr (5, [.ref (a 1), .ref (a 6), .ref (a 7), .int br, .int (nI hi)])), (a 6, .inl (gI g, 6, .inl sx)), (a 7, .inl (gI g, 6, .inl sy)), (a 1, .inr (3, [.ref (a 2), .ref (a 3), .ref (a 4), .int la])), (a 2, .inl (gI g, 1152, .inl it)), (a 4, .inl (gI g, 18, .inl (nF sz)))]) (pc := 67) (run_SN (wc := []) (As := [.int (X - (sx d)), .int (0 : Int32), .int (7 : Int32)]) (rest := []) (pc := 67) hx hb hml hown hts hA hK hX (Nat.le_trans (by decide) hRf) (Nat.le_trans (by decide) hRl) hP hD hS (c_X8_within l g (v := X - (sx d)) (lo := (0 : Int32)) (hi := (7 : Int32)) ) hX.1.2.2.2.2.2 wd_2_3 wd_1_1 wd_2_4 hdX8_within [] rfl rfl rfl hl.1 rfl (Nat.le_of_ble_eq_true rfl) dX5_isShadowed_67 ⟨Nat.zero_le _, Nat.zero_le _⟩) hA hP hD hS [] [0, 1, 2, 3, 4, 5] rfl rfl rfl (by decide) (fun r w1 H locs hq_67 hP hD hS => ?_)
          obtain ⟨rfl, rfl⟩ := hq_67
          have hP : va_P g.1 classes [(a 5, .inr (5, [.ref (a 1), .ref (a 6), .ref (a 7), .int br, .int (nI hi)])), (a 6, .inl (gI g, 6, .inl sx)), (a 7, .inl (gI g, 6, .inl sy)), (a 1, .inr (3, [.ref (a 2), .ref (a 3), .ref (a 4), .int la])), (a 2, .inl (gI g, 1152, .inl it)), (a 4, .inl (gI g, 18, .inl (nF sz)))] H := hP
          have hD : va_D A [(a 5, .inr (5, [.ref (a 1), .ref (a 6), .ref (a 7), .int br, .int (nI hi)])), (a 6, .inl (gI g, 6, .inl sx)), (a 7, .inl (gI g, 6, .inl sy)), (a 1, .inr (3, [.ref (a 2), .ref (a 3), .ref (a 4), .int la])), (a 2, .inl (gI g, 1152, .inl it)), (a 4, .inl (gI g, 18, .inl (nF sz)))] := hD
          refine b_if_eq (tgt := 84) (pc := 70) hx hb (rg (X - (sx d)) (0 : Int32) (7 : Int32)) dX5_isShadowed_70 (by decide) (fun h_70 => ?_) (fun h_70 => ?_)
          · skip
            refine lv_iconst (v := (0 : Int32)) (pc := 84) hx hb dX5_isShadowed_84 (by decide) ?_
            exact hRet _ _ _ _ _ _ hP hD hS dX5_isShadowed_85 (by decide) ⟨(by rw [if_neg (fun z => by have := sh_off (by omega) (by omega) hsh (Or.inl (by rw [← eX]; exact nrg_toInt h_70)) hi; have z2 := z.2; rw [this] at z2; exact absurd z2 (by decide))]), rfl⟩
          · skip
            refine lv_iload (pc := 73) hx hb dX5_isShadowed_73 (lv_at hl 0 rfl) ?_
            refine lv_iconst (v := (0 : Int32)) (pc := 75) hx hb dX5_isShadowed_75 (by decide) ?_
            refine lv_bipush (v := (7 : Int32)) (pc := 76) hx hb dX5_isShadowed_76 (by decide) ?_
            refine call_i (wr := [(a 5, .inr (5, [.ref (a 1), .ref (a 6), .ref (a 7), .int br, .int (nI hi)])), (a 6, .inl (gI g, 6, .inl sx)), (a 7, .inl (gI g, 6, .inl sy)), (a 1, .inr (3, [.ref (a 2), .ref (a 3), .ref (a 4), .int la])), (a 2, .inl (gI g, 1152, .inl it)), (a 4, .inl (gI g, 18, .inl (nF sz)))]) (pc := 78) (run_SN (wc := []) (As := [.int (Y - (sy d)), .int (0 : Int32), .int (7 : Int32)]) (rest := []) (pc := 78) hx hb hml hown hts hA hK hX (Nat.le_trans (by decide) hRf) (Nat.le_trans (by decide) hRl) hP hD hS (c_X8_within l g (v := Y - (sy d)) (lo := (0 : Int32)) (hi := (7 : Int32)) ) hX.1.2.2.2.2.2 wd_2_3 wd_1_1 wd_2_4 hdX8_within [] rfl rfl rfl hl.1 rfl (Nat.le_of_ble_eq_true rfl) dX5_isShadowed_78 ⟨Nat.zero_le _, Nat.zero_le _⟩) hA hP hD hS [] [0, 1, 2, 3, 4, 5] rfl rfl rfl (by decide) (fun r w1 H locs hq_78 hP hD hS => ?_)
            obtain ⟨rfl, rfl⟩ := hq_78
            have hP : va_P g.1 classes [(a 5, .inr (5, [.ref (a 1), .ref (a 6), .ref (a 7), .int br, .int (nI hi)])), (a 6, .inl (gI g, 6, .inl sx)), (a 7, .inl (gI g, 6, .inl sy)), (a 1, .inr (3, [.ref (a 2), .ref (a 3), .ref (a 4), .int la])), (a 2, .inl (gI g, 1152, .inl it)), (a 4, .inl (gI g, 18, .inl (nF sz)))] H := hP
            have hD : va_D A [(a 5, .inr (5, [.ref (a 1), .ref (a 6), .ref (a 7), .int br, .int (nI hi)])), (a 6, .inl (gI g, 6, .inl sx)), (a 7, .inl (gI g, 6, .inl sy)), (a 1, .inr (3, [.ref (a 2), .ref (a 3), .ref (a 4), .int la])), (a 2, .inl (gI g, 1152, .inl it)), (a 4, .inl (gI g, 18, .inl (nF sz)))] := hD
            refine b_if_ne (tgt := 86) (pc := 81) hx hb (rg (Y - (sy d)) (0 : Int32) (7 : Int32)) dX5_isShadowed_81 (by decide) (fun h_81 => ?_) (fun h_81 => ?_)
            · skip
              obtain ⟨x1, hx1, ex1⟩ := rg_nat h_70 (n := 7) rfl
              obtain ⟨y1, hy1, ey1⟩ := rg_nat h_81 (n := 7) rfl
              rw [ex1, ey1] at hl
              refine lv_aload_n (pc := 86) hx hb dX5_isShadowed_86 rfl (lv_at hl 2 rfl) ?_
              refine va_get (D := g.1) (ci := 5) (v := .ref (a 1)) (C := RX5) (T := TX5) (N := 5) (index := 25) (pc := 87) hx hb hts inX5 hown hK hP 0 rfl rfl 0 (by decide) (hts _ wd_1_51) (fun _ h9 => h9) rfl dX5_isShadowed_87 ?_
              refine lv_iload_n (pc := 90) hx hb dX5_isShadowed_90 rfl (lv_at hl 3 rfl) ?_
              refine lv_iconst (v := (0 : Int32)) (pc := 91) hx hb dX5_isShadowed_91 (by decide) ?_
              refine lv_bipush (v := (8 : Int32)) (pc := 92) hx hb dX5_isShadowed_92 (by decide) ?_
              refine lv_iload (pc := 94) hx hb dX5_isShadowed_94 (lv_at hl 0 rfl) ?_
              refine w_imul (z := nI (8 * y1)) (pc := 96) hx hb dX5_isShadowed_96 (pk_mul 8 y1) ?_
              refine lv_iload_n (pc := 97) hx hb dX5_isShadowed_97 rfl (lv_at hl 1 rfl) ?_
              refine w_iadd (z := nI ((8 * y1) + x1)) (pc := 98) hx hb dX5_isShadowed_98 (nI_add (8 * y1) x1) ?_
              refine call_i (wr := [(a 5, .inr (5, [.ref (a 1), .ref (a 6), .ref (a 7), .int br, .int (nI hi)])), (a 6, .inl (gI g, 6, .inl sx)), (a 7, .inl (gI g, 6, .inl sy))]) (pc := 99) (run_V (wc := [(a 1, .inr (3, [.ref (a 2), .ref (a 3), .ref (a 4), .int la])), (a 2, .inl (gI g, 1152, .inl it)), (a 4, .inl (gI g, 18, .inl (nF sz)))]) (As := [.int (nI d), .int (0 : Int32), .int (nI ((8 * y1) + x1))]) (rest := []) (pc := 99) hx hb hml hown hts hA hK hX (Nat.le_trans (by decide) hRf) (Nat.le_trans (by decide) hRl) hP hD hS (c_X3_reading l g (a := a) (it := it) (sz := sz) (la := la) (d := d) (b := 0) (k := (8 * y1) + x1) (by first | assumption | omega) (by first | assumption | omega) (by first | assumption | omega) ok.1) wd_2_115 wd_2_116 wd_2_117 wd_1_2 wd_2_118 hdX3_reading [3, 4, 5] rfl rfl 0 rfl rfl rfl hl.1 rfl (Nat.le_of_ble_eq_true rfl) dX5_isShadowed_99 ⟨Nat.zero_le _, Nat.zero_le _⟩) hA hP hD hS [3, 4, 5] [0, 1, 2] rfl rfl rfl (by decide) (fun r w1 H locs hq_99 hP hD hS => ?_)
              obtain ⟨rfl, rfl⟩ := hq_99
              have hP : va_P g.1 classes [(a 5, .inr (5, [.ref (a 1), .ref (a 6), .ref (a 7), .int br, .int (nI hi)])), (a 6, .inl (gI g, 6, .inl sx)), (a 7, .inl (gI g, 6, .inl sy)), (a 1, .inr (3, [.ref (a 2), .ref (a 3), .ref (a 4), .int la])), (a 2, .inl (gI g, 1152, .inl it)), (a 4, .inl (gI g, 18, .inl (nF sz)))] H := hP
              have hD : va_D A [(a 5, .inr (5, [.ref (a 1), .ref (a 6), .ref (a 7), .int br, .int (nI hi)])), (a 6, .inl (gI g, 6, .inl sx)), (a 7, .inl (gI g, 6, .inl sy)), (a 1, .inr (3, [.ref (a 2), .ref (a 3), .ref (a 4), .int la])), (a 2, .inl (gI g, 1152, .inl it)), (a 4, .inl (gI g, 18, .inl (nF sz)))] := hD
              refine lv_aload_n (pc := 102) hx hb dX5_isShadowed_102 rfl (lv_at hl 2 rfl) ?_
              refine va_get (D := g.1) (ci := 5) (v := .int br) (C := RX5) (T := TX5) (N := 5) (index := 18) (pc := 103) hx hb hts inX5 hown hK hP 0 rfl rfl 3 (by decide) (hts _ wd_1_54) (fun _ h9 => h9) rfl dX5_isShadowed_103 ?_
              refine lv_icmp_le (tgt := 111) (pc := 106) hx hb dX5_isShadowed_106 (by decide) (fun h_106 => ?_) (fun h_106 => ?_)
              · skip
                refine lv_iinc (v := nI (t + 1)) (lv' := [(5, .int (nI (t + 1))), (4, .int (nI y1)), (3, .int (nI x1)), (0, .ref (a 5)), (1, .int (nI d)), (2, .int (nI k))]) (pc := 111) hx hb dX5_isShadowed_111 hl (k := 5) rfl (inc_n t 1) (by decide) rfl (fun ls hl => ?_)
                refine lv_goto (tgt := 34) (pc := 114) hx hb dX5_isShadowed_114 (by decide) ?_
                exact ih34 (t + 1) (nI x1) (nI y1) (by omega) (by rw [← ex1]; exact eX) (by rw [← ey1]; exact eY) (by rw [nI_toInt (by omega), nI_toInt (by omega)]; omega) (by unfold shB; rw [hsh, Bool.false_or]; unfold hit; apply decide_eq_false; rw [← eX, ← eY, ex1, ey1, nI_toInt (by omega), nI_toInt (by omega)]; intro z; exact Int32.not_lt.mpr h_106 z.2.2.2.2) (by have := hm34; omega) _ _ _ hP hD hS (lv_sub hl [3, 4, 5, 2, 1, 0] rfl)
              · skip
                refine lv_iconst (v := (1 : Int32)) (pc := 109) hx hb dX5_isShadowed_109 (by decide) ?_
                exact hRet _ _ _ _ _ _ hP hD hS dX5_isShadowed_110 (by decide) ⟨(by rw [if_pos ⟨hne, shB_mono (n := t + 1) (by unfold shB; rw [hsh, Bool.false_or]; unfold hit; apply decide_eq_true; rw [← eX, ← eY, ex1, ey1, nI_toInt (by omega), nI_toInt (by omega)]; refine ⟨by omega, by omega, by omega, by omega, ?_⟩; exact Int32.not_le.mp h_106) (by omega)⟩]), rfl⟩
            · skip
              refine lv_iconst (v := (0 : Int32)) (pc := 84) hx hb dX5_isShadowed_84 (by decide) ?_
              exact hRet _ _ _ _ _ _ hP hD hS dX5_isShadowed_85 (by decide) ⟨(by rw [if_neg (fun z => by have := sh_off (by omega) (by omega) hsh (Or.inr (by rw [← eY]; exact nrg_toInt h_81)) hi; have z2 := z.2; rw [this] at z2; exact absurd z2 (by decide))]), rfl⟩
    exact L34 _ 0 (nI (k % 8)) (nI (k / 8)) (Nat.zero_le _) (by rw [nI_toInt (by omega)]; omega) (by rw [nI_toInt (by omega)]; omega) (by rw [nI_toInt (by omega), nI_toInt (by omega)]; omega) rfl (Nat.lt_succ_self _) _ _ _ hP hD hS (lv_sub hl [3, 4, 5, 2, 1, 0] rfl)
  refine lv_aload_n (pc := 0) hx hb dX5_isShadowed_0 rfl (lv_at hl 0 rfl) ?_
  refine va_get (D := g.1) (ci := 5) (v := .ref (a 6)) (C := RX5) (T := TX5) (N := 5) (index := 9) (pc := 1) hx hb hts inX5 hown hK hP 0 rfl rfl 1 (by decide) (hts _ wd_1_52) (fun _ h9 => h9) rfl dX5_isShadowed_1 ?_
  refine lv_iload_n (pc := 4) hx hb dX5_isShadowed_4 rfl (lv_at hl 1 rfl) ?_
  refine w_iald (f := sx) (k := d) (z := sx d) (pc := 5) hx hb hK hP 1 rfl (by omega) (by decide) (rfl) dX5_isShadowed_5 ?_
  refine lv_if_ne (tgt := 20) (pc := 6) hx hb dX5_isShadowed_6 (by decide) (fun h_6 => ?_) (fun h_6 => ?_)
  · skip
    exact L20 (fun q => h_6 q.1) _ _ _ hP hD hS (lv_sub hl [0, 1, 2] rfl)
  · skip
    refine lv_aload_n (pc := 9) hx hb dX5_isShadowed_9 rfl (lv_at hl 0 rfl) ?_
    refine va_get (D := g.1) (ci := 5) (v := .ref (a 7)) (C := RX5) (T := TX5) (N := 5) (index := 15) (pc := 10) hx hb hts inX5 hown hK hP 0 rfl rfl 2 (by decide) (hts _ wd_1_53) (fun _ h9 => h9) rfl dX5_isShadowed_10 ?_
    refine lv_iload_n (pc := 13) hx hb dX5_isShadowed_13 rfl (lv_at hl 1 rfl) ?_
    refine w_iald (f := sy) (k := d) (z := sy d) (pc := 14) hx hb hK hP 2 rfl (by omega) (by decide) (rfl) dX5_isShadowed_14 ?_
    refine lv_if_ne (tgt := 20) (pc := 15) hx hb dX5_isShadowed_15 (by decide) (fun h_15 => ?_) (fun h_15 => ?_)
    · skip
      exact L20 (fun q => h_15 q.2) _ _ _ hP hD hS (lv_sub hl [0, 1, 2] rfl)
    · skip
      refine lv_iconst (v := (0 : Int32)) (pc := 18) hx hb dX5_isShadowed_18 (by decide) ?_
      exact hRet _ _ _ _ _ _ hP hD hS dX5_isShadowed_19 (by decide) ⟨(by rw [if_neg (fun z => z.1 ⟨h_6, h_15⟩)]), rfl⟩

set_option maxHeartbeats 4000000 in
set_option maxRecDepth 100000 in
theorem c_X5_stateAt (l : Launch) (g : Gx) (a : Nat → Nat) (it : Nat → Int32) (sz : Nat → Nat) (la : Int32) (br : Int32) (hi : Nat) (sx sy : Nat → Int32) (d k : Nat) (hd : d < 6) (hk : k < 64) (ok : okSky sz sx sy hi) : Mi l g yX5_stateAt cX5_stateAt 4 ((some .int)) { frames := 2, cells := 0, slots := 0, locals := 50 } [.ref (a 5), .int (nI d), .int (nI k)] [(a 5, .inr (5, [.ref (a 1), .ref (a 6), .ref (a 7), .int br, .int (nI hi)])), (a 6, .inl (gI g, 6, .inl sx)), (a 7, .inl (gI g, 6, .inl sy)), (a 1, .inr (3, [.ref (a 2), .ref (a 3), .ref (a 4), .int la])), (a 2, .inl (gI g, 1152, .inl it)), (a 4, .inl (gI g, 18, .inl (nF sz)))] (fun rv_ wv_ => rv_ = nI (skyF (rdC it sz) br hi sx sy d k) ∧ wv_ = [(a 5, .inr (5, [.ref (a 1), .ref (a 6), .ref (a 7), .int br, .int (nI hi)])), (a 6, .inl (gI g, 6, .inl sx)), (a 7, .inl (gI g, 6, .inl sy)), (a 1, .inr (3, [.ref (a 2), .ref (a 3), .ref (a 4), .int la])), (a 2, .inl (gI g, 1152, .inl it)), (a 4, .inl (gI g, 18, .inl (nF sz)))]) := by
  refine Mi.opn (own := RX5) (lv := [(0, .ref (a 5)), (1, .int (nI d)), (2, .int (nI k))]) (plainFor_of_name (by decide)) rfl rfl (Nat.le_of_ble_eq_true rfl) ?_
  intro p e R s m args below meth c A Q hx hb hml hown hts hA hK hX hRf hRl hRet H locs ls hP hD hS hl
  refine lv_iconst (v := (0 : Int32)) (pc := 0) hx hb dX5_stateAt_0 (by decide) ?_
  refine lv_istore_n (lv' := [(3, .int (0 : Int32)), (0, .ref (a 5)), (1, .int (nI d)), (2, .int (nI k))]) (pc := 1) hx hb dX5_stateAt_1 rfl hl (by decide) rfl (fun ls hl => ?_)
  have L2 : ∀ (nn : Nat) (i : Nat) (hi3 : i ≤ 3) (hn : ∀ j, j < i → ¬ rdC it sz d j k = -1), 3 - i < nn → ∀ (H : Heap) (locs : List Loc) (ls : Array Slot), va_P g.1 classes [(a 5, .inr (5, [.ref (a 1), .ref (a 6), .ref (a 7), .int br, .int (nI hi)])), (a 6, .inl (gI g, 6, .inl sx)), (a 7, .inl (gI g, 6, .inl sy)), (a 1, .inr (3, [.ref (a 2), .ref (a 3), .ref (a 4), .int la])), (a 2, .inl (gI g, 1152, .inl it)), (a 4, .inl (gI g, 18, .inl (nF sz)))] H → va_D A [(a 5, .inr (5, [.ref (a 1), .ref (a 6), .ref (a 7), .int br, .int (nI hi)])), (a 6, .inl (gI g, 6, .inl sx)), (a 7, .inl (gI g, 6, .inl sy)), (a 1, .inr (3, [.ref (a 2), .ref (a 3), .ref (a 4), .int la])), (a 2, .inl (gI g, 1152, .inl it)), (a 4, .inl (gI g, 18, .inl (nF sz)))] → va_S A s.heap H locs → lv_has ls 4 [(0, .ref (a 5)), (1, .int (nI d)), (2, .int (nI k)), (3, .int (nI i))] → W p l e R s m args below meth c H locs 0 0 Q (F0 m 2 ls []) := by
    intro nn
    induction nn with
    | zero => exact fun i hi3 hn hm => absurd hm (Nat.not_lt_zero _)
    | succ nn ih2 =>
      intro i hi3 hn hm2 H locs ls hP hD hS hl
      refine lv_iload_n (pc := 2) hx hb dX5_stateAt_2 rfl (lv_at hl 3 rfl) ?_
      refine lv_iconst (v := (3 : Int32)) (pc := 3) hx hb dX5_stateAt_3 (by decide) ?_
      refine n_icmp_ge (tgt := 29) (pc := 4) hx hb i 3 (by omega) (by omega) dX5_stateAt_4 (by decide) (fun h_4 => ?_) (fun h_4 => ?_)
      · skip
        have hn3 := hn
        rw [show i = 3 by omega] at hn3
        refine lv_aload_n (pc := 29) hx hb dX5_stateAt_29 rfl (lv_at hl 0 rfl) ?_
        refine va_get (D := g.1) (ci := 5) (v := .ref (a 1)) (C := RX5) (T := TX5) (N := 5) (index := 25) (pc := 30) hx hb hts inX5 hown hK hP 0 rfl rfl 0 (by decide) (hts _ wd_1_51) (fun _ h9 => h9) rfl dX5_stateAt_30 ?_
        refine lv_iload_n (pc := 33) hx hb dX5_stateAt_33 rfl (lv_at hl 1 rfl) ?_
        refine lv_iconst (v := (0 : Int32)) (pc := 34) hx hb dX5_stateAt_34 (by decide) ?_
        refine lv_iload_n (pc := 35) hx hb dX5_stateAt_35 rfl (lv_at hl 2 rfl) ?_
        refine call_i (wr := [(a 5, .inr (5, [.ref (a 1), .ref (a 6), .ref (a 7), .int br, .int (nI hi)])), (a 6, .inl (gI g, 6, .inl sx)), (a 7, .inl (gI g, 6, .inl sy))]) (pc := 36) (run_V (wc := [(a 1, .inr (3, [.ref (a 2), .ref (a 3), .ref (a 4), .int la])), (a 2, .inl (gI g, 1152, .inl it)), (a 4, .inl (gI g, 18, .inl (nF sz)))]) (As := [.int (nI d), .int (0 : Int32), .int (nI k)]) (rest := []) (pc := 36) hx hb hml hown hts hA hK hX (Nat.le_trans (by decide) hRf) (Nat.le_trans (by decide) hRl) hP hD hS (c_X3_reading l g (a := a) (it := it) (sz := sz) (la := la) (d := d) (b := 0) (k := k) (by first | assumption | omega) (by first | assumption | omega) (by first | assumption | omega) ok.1) wd_2_115 wd_2_116 wd_2_117 wd_1_2 wd_2_118 hdX3_reading [3, 4, 5] rfl rfl 0 rfl rfl rfl hl.1 rfl (Nat.le_of_ble_eq_true rfl) dX5_stateAt_36 ⟨Nat.zero_le _, Nat.zero_le _⟩) hA hP hD hS [3, 4, 5] [0, 1, 2] rfl rfl rfl (by decide) (fun r w1 H locs hq_36 hP hD hS => ?_)
        obtain ⟨rfl, rfl⟩ := hq_36
        have hP : va_P g.1 classes [(a 5, .inr (5, [.ref (a 1), .ref (a 6), .ref (a 7), .int br, .int (nI hi)])), (a 6, .inl (gI g, 6, .inl sx)), (a 7, .inl (gI g, 6, .inl sy)), (a 1, .inr (3, [.ref (a 2), .ref (a 3), .ref (a 4), .int la])), (a 2, .inl (gI g, 1152, .inl it)), (a 4, .inl (gI g, 18, .inl (nF sz)))] H := hP
        have hD : va_D A [(a 5, .inr (5, [.ref (a 1), .ref (a 6), .ref (a 7), .int br, .int (nI hi)])), (a 6, .inl (gI g, 6, .inl sx)), (a 7, .inl (gI g, 6, .inl sy)), (a 1, .inr (3, [.ref (a 2), .ref (a 3), .ref (a 4), .int la])), (a 2, .inl (gI g, 1152, .inl it)), (a 4, .inl (gI g, 18, .inl (nF sz)))] := hD
        refine lv_aload_n (pc := 39) hx hb dX5_stateAt_39 rfl (lv_at hl 0 rfl) ?_
        refine va_get (D := g.1) (ci := 5) (v := .int br) (C := RX5) (T := TX5) (N := 5) (index := 18) (pc := 40) hx hb hts inX5 hown hK hP 0 rfl rfl 3 (by decide) (hts _ wd_1_54) (fun _ h9 => h9) rfl dX5_stateAt_40 ?_
        refine lv_icmp_le (tgt := 48) (pc := 43) hx hb dX5_stateAt_43 (by decide) (fun h_43 => ?_) (fun h_43 => ?_)
        · skip
          refine lv_aload_n (pc := 48) hx hb dX5_stateAt_48 rfl (lv_at hl 0 rfl) ?_
          refine lv_iload_n (pc := 49) hx hb dX5_stateAt_49 rfl (lv_at hl 1 rfl) ?_
          refine lv_iload_n (pc := 50) hx hb dX5_stateAt_50 rfl (lv_at hl 2 rfl) ?_
          refine call_i (wr := []) (pc := 51) (run_V (wc := [(a 5, .inr (5, [.ref (a 1), .ref (a 6), .ref (a 7), .int br, .int (nI hi)])), (a 6, .inl (gI g, 6, .inl sx)), (a 7, .inl (gI g, 6, .inl sy)), (a 1, .inr (3, [.ref (a 2), .ref (a 3), .ref (a 4), .int la])), (a 2, .inl (gI g, 1152, .inl it)), (a 4, .inl (gI g, 18, .inl (nF sz)))]) (As := [.int (nI d), .int (nI k)]) (rest := []) (pc := 51) hx hb hml hown hts hA hK hX (Nat.le_trans (by decide) hRf) (Nat.le_trans (by decide) hRl) hP hD hS (c_X5_isShadowed l g (a := a) (it := it) (sz := sz) (la := la) (br := br) (hi := hi) (sx := sx) (sy := sy) (d := d) (k := k) (by first | assumption | omega) (by first | assumption | omega) (by first | assumption | omega)) wd_2_119 wd_2_121 wd_0_1 wd_1_4 wd_2_122 hdX5_isShadowed [0, 1, 2, 3, 4, 5] rfl rfl 0 rfl rfl rfl hl.1 rfl (Nat.le_of_ble_eq_true rfl) dX5_stateAt_51 ⟨Nat.zero_le _, Nat.zero_le _⟩) hA hP hD hS [0, 1, 2, 3, 4, 5] [] rfl rfl rfl (by decide) (fun r w1 H locs hq_51 hP hD hS => ?_)
          obtain ⟨rfl, rfl⟩ := hq_51
          have hP : va_P g.1 classes [(a 5, .inr (5, [.ref (a 1), .ref (a 6), .ref (a 7), .int br, .int (nI hi)])), (a 6, .inl (gI g, 6, .inl sx)), (a 7, .inl (gI g, 6, .inl sy)), (a 1, .inr (3, [.ref (a 2), .ref (a 3), .ref (a 4), .int la])), (a 2, .inl (gI g, 1152, .inl it)), (a 4, .inl (gI g, 18, .inl (nF sz)))] H := hP
          have hD : va_D A [(a 5, .inr (5, [.ref (a 1), .ref (a 6), .ref (a 7), .int br, .int (nI hi)])), (a 6, .inl (gI g, 6, .inl sx)), (a 7, .inl (gI g, 6, .inl sy)), (a 1, .inr (3, [.ref (a 2), .ref (a 3), .ref (a 4), .int la])), (a 2, .inl (gI g, 1152, .inl it)), (a 4, .inl (gI g, 18, .inl (nF sz)))] := hD
          refine b_if_eq (tgt := 61) (pc := 54) hx hb (shP (rdC it sz) br hi sx sy d k) dX5_stateAt_54 (by decide) (fun h_54 => ?_) (fun h_54 => ?_)
          · skip
            refine lv_iconst (v := (3 : Int32)) (pc := 61) hx hb dX5_stateAt_61 (by decide) ?_
            exact hRet _ _ _ _ _ _ hP hD hS dX5_stateAt_62 ⟨(by rw [skyF_has hn3, if_neg (Int32.not_lt.mpr h_43), if_neg h_54]; rfl), rfl⟩
          · skip
            refine lv_iconst (v := (2 : Int32)) (pc := 57) hx hb dX5_stateAt_57 (by decide) ?_
            refine lv_goto (tgt := 62) (pc := 58) hx hb dX5_stateAt_58 (by decide) ?_
            exact hRet _ _ _ _ _ _ hP hD hS dX5_stateAt_62 ⟨(by rw [skyF_has hn3, if_neg (Int32.not_lt.mpr h_43), if_pos h_54]; rfl), rfl⟩
        · skip
          refine lv_iconst (v := (1 : Int32)) (pc := 46) hx hb dX5_stateAt_46 (by decide) ?_
          exact hRet _ _ _ _ _ _ hP hD hS dX5_stateAt_47 ⟨(by rw [skyF_has hn3, if_pos (Int32.not_le.mp h_43)]; rfl), rfl⟩
      · skip
        refine lv_aload_n (pc := 7) hx hb dX5_stateAt_7 rfl (lv_at hl 0 rfl) ?_
        refine va_get (D := g.1) (ci := 5) (v := .ref (a 1)) (C := RX5) (T := TX5) (N := 5) (index := 25) (pc := 8) hx hb hts inX5 hown hK hP 0 rfl rfl 0 (by decide) (hts _ wd_1_51) (fun _ h9 => h9) rfl dX5_stateAt_8 ?_
        refine lv_iload_n (pc := 11) hx hb dX5_stateAt_11 rfl (lv_at hl 1 rfl) ?_
        refine lv_iload_n (pc := 12) hx hb dX5_stateAt_12 rfl (lv_at hl 3 rfl) ?_
        refine lv_iload_n (pc := 13) hx hb dX5_stateAt_13 rfl (lv_at hl 2 rfl) ?_
        refine call_i (wr := [(a 5, .inr (5, [.ref (a 1), .ref (a 6), .ref (a 7), .int br, .int (nI hi)])), (a 6, .inl (gI g, 6, .inl sx)), (a 7, .inl (gI g, 6, .inl sy))]) (pc := 14) (run_V (wc := [(a 1, .inr (3, [.ref (a 2), .ref (a 3), .ref (a 4), .int la])), (a 2, .inl (gI g, 1152, .inl it)), (a 4, .inl (gI g, 18, .inl (nF sz)))]) (As := [.int (nI d), .int (nI i), .int (nI k)]) (rest := []) (pc := 14) hx hb hml hown hts hA hK hX (Nat.le_trans (by decide) hRf) (Nat.le_trans (by decide) hRl) hP hD hS (c_X3_reading l g (a := a) (it := it) (sz := sz) (la := la) (d := d) (b := i) (k := k) (by first | assumption | omega) (by first | assumption | omega) (by first | assumption | omega) ok.1) wd_2_115 wd_2_116 wd_2_117 wd_1_2 wd_2_118 hdX3_reading [3, 4, 5] rfl rfl 0 rfl rfl rfl hl.1 rfl (Nat.le_of_ble_eq_true rfl) dX5_stateAt_14 ⟨Nat.zero_le _, Nat.zero_le _⟩) hA hP hD hS [3, 4, 5] [0, 1, 2] rfl rfl rfl (by decide) (fun r w1 H locs hq_14 hP hD hS => ?_)
        obtain ⟨rfl, rfl⟩ := hq_14
        have hP : va_P g.1 classes [(a 5, .inr (5, [.ref (a 1), .ref (a 6), .ref (a 7), .int br, .int (nI hi)])), (a 6, .inl (gI g, 6, .inl sx)), (a 7, .inl (gI g, 6, .inl sy)), (a 1, .inr (3, [.ref (a 2), .ref (a 3), .ref (a 4), .int la])), (a 2, .inl (gI g, 1152, .inl it)), (a 4, .inl (gI g, 18, .inl (nF sz)))] H := hP
        have hD : va_D A [(a 5, .inr (5, [.ref (a 1), .ref (a 6), .ref (a 7), .int br, .int (nI hi)])), (a 6, .inl (gI g, 6, .inl sx)), (a 7, .inl (gI g, 6, .inl sy)), (a 1, .inr (3, [.ref (a 2), .ref (a 3), .ref (a 4), .int la])), (a 2, .inl (gI g, 1152, .inl it)), (a 4, .inl (gI g, 18, .inl (nF sz)))] := hD
        refine lv_iconst (v := (-1 : Int32)) (pc := 17) hx hb dX5_stateAt_17 (by decide) ?_
        refine lv_icmp_ne (tgt := 23) (pc := 18) hx hb dX5_stateAt_18 (by decide) (fun h_18 => ?_) (fun h_18 => ?_)
        · skip
          refine lv_iinc (v := nI (i + 1)) (lv' := [(3, .int (nI (i + 1))), (0, .ref (a 5)), (1, .int (nI d)), (2, .int (nI k))]) (pc := 23) hx hb dX5_stateAt_23 hl (k := 3) rfl (inc_n i 1) (by decide) rfl (fun ls hl => ?_)
          refine lv_goto (tgt := 2) (pc := 26) hx hb dX5_stateAt_26 (by decide) ?_
          exact ih2 (i + 1) (by omega) (fun j hj => by rcases Nat.lt_succ_iff_lt_or_eq.mp hj with q | q; exact hn j q; exact q ▸ h_18) (by have := hm2; omega) _ _ _ hP hD hS (lv_sub hl [1, 2, 3, 0] rfl)
        · skip
          refine lv_iconst (v := (0 : Int32)) (pc := 21) hx hb dX5_stateAt_21 (by decide) ?_
          exact hRet _ _ _ _ _ _ hP hD hS dX5_stateAt_22 ⟨(by rw [skyF_miss h_4 h_18]; rfl), rfl⟩
  exact L2 _ 0 (by decide) (fun j hj => absurd hj (Nat.not_lt_zero _)) (Nat.lt_succ_self _) _ _ _ hP hD hS (lv_sub hl [1, 2, 3, 0] rfl)

set_option maxHeartbeats 4000000 in
set_option maxRecDepth 100000 in
theorem c_X5_featureAt (l : Launch) (g : Gx) (a : Nat → Nat) (it : Nat → Int32) (sz : Nat → Nat) (la : Int32) (br : Int32) (hi : Nat) (d k f : Nat) (hd : d < 6) (hk : k < 64) (hf : f < 4) (hz : ∀ r, r < 18 → sz r ≤ 64) (hc : ∀ i, i < 3 → ¬ rdC it sz d i k = -1) : Mi l g yX5_featureAt cX5_featureAt 6 ((some .int)) { frames := 1, cells := 0, slots := 0, locals := 25 } [.ref (a 5), .int (nI d), .int (nI k), .int (nI f)] [(a 5, .inr (5, [.ref (a 1), .ref (a 6), .ref (a 7), .int br, .int (nI hi)])), (a 1, .inr (3, [.ref (a 2), .ref (a 3), .ref (a 4), .int la])), (a 2, .inl (gI g, 1152, .inl it)), (a 4, .inl (gI g, 18, .inl (nF sz)))] (fun rv_ wv_ => rv_ = ftF (rdC it sz) d k f ∧ wv_ = [(a 5, .inr (5, [.ref (a 1), .ref (a 6), .ref (a 7), .int br, .int (nI hi)])), (a 1, .inr (3, [.ref (a 2), .ref (a 3), .ref (a 4), .int la])), (a 2, .inl (gI g, 1152, .inl it)), (a 4, .inl (gI g, 18, .inl (nF sz)))]) := by
  refine Mi.opn (own := RX5) (lv := [(0, .ref (a 5)), (1, .int (nI d)), (2, .int (nI k)), (3, .int (nI f))]) (plainFor_of_name (by decide)) rfl rfl (Nat.le_of_ble_eq_true rfl) ?_
  intro p e R s m args below meth c A Q hx hb hml hown hts hA hK hX hRf hRl hRet H locs ls hP hD hS hl
  have r1 := (rdC_rng it sz d 1 k).resolve_left (hc 1 (by decide))
  have r2 := (rdC_rng it sz d 2 k).resolve_left (hc 2 (by decide))
  have s12 : (rdC it sz d 2 k + rdC it sz d 1 k).toInt = (rdC it sz d 2 k).toInt + (rdC it sz d 1 k).toInt := fb_addI (by omega) (by omega)
  have d12 : (rdC it sz d 2 k - rdC it sz d 1 k).toInt = (rdC it sz d 2 k).toInt - (rdC it sz d 1 k).toInt := fb_subI (by omega) (by omega)
  have k12 : (1000 * (rdC it sz d 2 k - rdC it sz d 1 k)).toInt = 1000 * ((rdC it sz d 2 k).toInt - (rdC it sz d 1 k).toInt) := by rw [fb_mulI (by rw [d12]; show _ ≤ 1000 * _; omega) (by rw [d12]; show 1000 * _ < _; omega), d12]; rfl
  refine lv_iload_n (pc := 0) hx hb dX5_featureAt_0 rfl (lv_at hl 3 rfl) ?_
  refine lv_iconst (v := (3 : Int32)) (pc := 1) hx hb dX5_featureAt_1 (by decide) ?_
  refine n_icmp_ge (tgt := 16) (pc := 2) hx hb f 3 (by omega) (by omega) dX5_featureAt_2 (by decide) (fun h_2 => ?_) (fun h_2 => ?_)
  · skip
    refine lv_aload_n (pc := 16) hx hb dX5_featureAt_16 rfl (lv_at hl 0 rfl) ?_
    refine va_get (D := g.1) (ci := 5) (v := .ref (a 1)) (C := RX5) (T := TX5) (N := 5) (index := 25) (pc := 17) hx hb hts inX5 hown hK hP 0 rfl rfl 0 (by decide) (hts _ wd_1_51) (fun _ h9 => h9) rfl dX5_featureAt_17 ?_
    refine lv_iload_n (pc := 20) hx hb dX5_featureAt_20 rfl (lv_at hl 1 rfl) ?_
    refine lv_iconst (v := (1 : Int32)) (pc := 21) hx hb dX5_featureAt_21 (by decide) ?_
    refine lv_iload_n (pc := 22) hx hb dX5_featureAt_22 rfl (lv_at hl 2 rfl) ?_
    refine call_i (wr := [(a 5, .inr (5, [.ref (a 1), .ref (a 6), .ref (a 7), .int br, .int (nI hi)]))]) (pc := 23) (run_V (wc := [(a 1, .inr (3, [.ref (a 2), .ref (a 3), .ref (a 4), .int la])), (a 2, .inl (gI g, 1152, .inl it)), (a 4, .inl (gI g, 18, .inl (nF sz)))]) (As := [.int (nI d), .int (1 : Int32), .int (nI k)]) (rest := []) (pc := 23) hx hb hml hown hts hA hK hX (Nat.le_trans (by decide) hRf) (Nat.le_trans (by decide) hRl) hP hD hS (c_X3_reading l g (a := a) (it := it) (sz := sz) (la := la) (d := d) (b := 1) (k := k) (by first | assumption | omega) (by first | assumption | omega) (by first | assumption | omega) (by first | assumption | omega)) wd_2_115 wd_2_116 wd_2_117 wd_1_2 wd_2_118 hdX3_reading [1, 2, 3] rfl rfl 0 rfl rfl rfl hl.1 rfl (Nat.le_of_ble_eq_true rfl) dX5_featureAt_23 ⟨Nat.zero_le _, Nat.zero_le _⟩) hA hP hD hS [1, 2, 3] [0] rfl rfl rfl (by decide) (fun r w1 H locs hq_23 hP hD hS => ?_)
    obtain ⟨rfl, rfl⟩ := hq_23
    have hP : va_P g.1 classes [(a 5, .inr (5, [.ref (a 1), .ref (a 6), .ref (a 7), .int br, .int (nI hi)])), (a 1, .inr (3, [.ref (a 2), .ref (a 3), .ref (a 4), .int la])), (a 2, .inl (gI g, 1152, .inl it)), (a 4, .inl (gI g, 18, .inl (nF sz)))] H := hP
    have hD : va_D A [(a 5, .inr (5, [.ref (a 1), .ref (a 6), .ref (a 7), .int br, .int (nI hi)])), (a 1, .inr (3, [.ref (a 2), .ref (a 3), .ref (a 4), .int la])), (a 2, .inl (gI g, 1152, .inl it)), (a 4, .inl (gI g, 18, .inl (nF sz)))] := hD
    refine lv_istore (lv' := [(4, .int (rdC it sz d 1 k)), (0, .ref (a 5)), (1, .int (nI d)), (2, .int (nI k)), (3, .int (nI f))]) (pc := 26) hx hb dX5_featureAt_26 hl (by decide) rfl (fun ls hl => ?_)
    refine lv_aload_n (pc := 28) hx hb dX5_featureAt_28 rfl (lv_at hl 1 rfl) ?_
    refine va_get (D := g.1) (ci := 5) (v := .ref (a 1)) (C := RX5) (T := TX5) (N := 5) (index := 25) (pc := 29) hx hb hts inX5 hown hK hP 0 rfl rfl 0 (by decide) (hts _ wd_1_51) (fun _ h9 => h9) rfl dX5_featureAt_29 ?_
    refine lv_iload_n (pc := 32) hx hb dX5_featureAt_32 rfl (lv_at hl 2 rfl) ?_
    refine lv_iconst (v := (2 : Int32)) (pc := 33) hx hb dX5_featureAt_33 (by decide) ?_
    refine lv_iload_n (pc := 34) hx hb dX5_featureAt_34 rfl (lv_at hl 3 rfl) ?_
    refine call_i (wr := [(a 5, .inr (5, [.ref (a 1), .ref (a 6), .ref (a 7), .int br, .int (nI hi)]))]) (pc := 35) (run_V (wc := [(a 1, .inr (3, [.ref (a 2), .ref (a 3), .ref (a 4), .int la])), (a 2, .inl (gI g, 1152, .inl it)), (a 4, .inl (gI g, 18, .inl (nF sz)))]) (As := [.int (nI d), .int (2 : Int32), .int (nI k)]) (rest := []) (pc := 35) hx hb hml hown hts hA hK hX (Nat.le_trans (by decide) hRf) (Nat.le_trans (by decide) hRl) hP hD hS (c_X3_reading l g (a := a) (it := it) (sz := sz) (la := la) (d := d) (b := 2) (k := k) (by first | assumption | omega) (by first | assumption | omega) (by first | assumption | omega) (by first | assumption | omega)) wd_2_115 wd_2_116 wd_2_117 wd_1_2 wd_2_118 hdX3_reading [1, 2, 3] rfl rfl 0 rfl rfl rfl hl.1 rfl (Nat.le_of_ble_eq_true rfl) dX5_featureAt_35 ⟨Nat.zero_le _, Nat.zero_le _⟩) hA hP hD hS [1, 2, 3] [0] rfl rfl rfl (by decide) (fun r w1 H locs hq_35 hP hD hS => ?_)
    obtain ⟨rfl, rfl⟩ := hq_35
    have hP : va_P g.1 classes [(a 5, .inr (5, [.ref (a 1), .ref (a 6), .ref (a 7), .int br, .int (nI hi)])), (a 1, .inr (3, [.ref (a 2), .ref (a 3), .ref (a 4), .int la])), (a 2, .inl (gI g, 1152, .inl it)), (a 4, .inl (gI g, 18, .inl (nF sz)))] H := hP
    have hD : va_D A [(a 5, .inr (5, [.ref (a 1), .ref (a 6), .ref (a 7), .int br, .int (nI hi)])), (a 1, .inr (3, [.ref (a 2), .ref (a 3), .ref (a 4), .int la])), (a 2, .inl (gI g, 1152, .inl it)), (a 4, .inl (gI g, 18, .inl (nF sz)))] := hD
    refine lv_istore (lv' := [(5, .int (rdC it sz d 2 k)), (4, .int (rdC it sz d 1 k)), (0, .ref (a 5)), (1, .int (nI d)), (2, .int (nI k)), (3, .int (nI f))]) (pc := 38) hx hb dX5_featureAt_38 hl (by decide) rfl (fun ls hl => ?_)
    refine lv_iload (pc := 40) hx hb dX5_featureAt_40 (lv_at hl 0 rfl) ?_
    refine lv_iload (pc := 42) hx hb dX5_featureAt_42 (lv_at hl 1 rfl) ?_
    refine w_iadd (z := (rdC it sz d 2 k) + (rdC it sz d 1 k)) (pc := 44) hx hb dX5_featureAt_44 (rfl) ?_
    refine lv_if_gt (tgt := 52) (pc := 45) hx hb dX5_featureAt_45 (by decide) (fun h_45 => ?_) (fun h_45 => ?_)
    · skip
      refine lv_sipush (v := (1000 : Int32)) (pc := 52) hx hb dX5_featureAt_52 (by decide) ?_
      refine lv_iload (pc := 55) hx hb dX5_featureAt_55 (lv_at hl 0 rfl) ?_
      refine lv_iload (pc := 57) hx hb dX5_featureAt_57 (lv_at hl 1 rfl) ?_
      refine w_isub (z := (rdC it sz d 2 k) - (rdC it sz d 1 k)) (pc := 59) hx hb dX5_featureAt_59 (rfl) ?_
      refine w_imul (z := (1000 : Int32) * ((rdC it sz d 2 k) - (rdC it sz d 1 k))) (pc := 60) hx hb dX5_featureAt_60 (rfl) ?_
      refine lv_iload (pc := 61) hx hb dX5_featureAt_61 (lv_at hl 0 rfl) ?_
      refine lv_iload (pc := 63) hx hb dX5_featureAt_63 (lv_at hl 1 rfl) ?_
      refine w_iadd (z := (rdC it sz d 2 k) + (rdC it sz d 1 k)) (pc := 65) hx hb dX5_featureAt_65 (rfl) ?_
      refine call_i (wr := [(a 5, .inr (5, [.ref (a 1), .ref (a 6), .ref (a 7), .int br, .int (nI hi)])), (a 1, .inr (3, [.ref (a 2), .ref (a 3), .ref (a 4), .int la])), (a 2, .inl (gI g, 1152, .inl it)), (a 4, .inl (gI g, 18, .inl (nF sz)))]) (pc := 66) (run_S (wc := []) (As := [.int ((1000 : Int32) * ((rdC it sz d 2 k) - (rdC it sz d 1 k))), .int ((rdC it sz d 2 k) + (rdC it sz d 1 k))]) (rest := []) (pc := 66) hx hb hml hown hts hA hK hX (Nat.le_trans (by decide) hRf) (Nat.le_trans (by decide) hRl) hP hD hS (c_J9_floorDiv_7cf53 l g (x := (1000 : Int32) * ((rdC it sz d 2 k) - (rdC it sz d 1 k))) (y := (rdC it sz d 2 k) + (rdC it sz d 1 k)) (by rw [k12]; omega) (by rw [k12]; omega) (by have := (fa_lt 0 _).mp h_45; exact this)) wd_2_132 wd_2_133 wd_1_13 wd_2_134 hdJ9_floorDiv_7cf53 [] rfl rfl rfl hl.1 rfl (Nat.le_of_ble_eq_true rfl) dX5_featureAt_66 ⟨Nat.zero_le _, Nat.zero_le _⟩) hA hP hD hS [] [0, 1, 2, 3] rfl rfl rfl (by decide) (fun r w1 H locs hq_66 hP hD hS => ?_)
      obtain ⟨rfl, rfl⟩ := hq_66
      have hP : va_P g.1 classes [(a 5, .inr (5, [.ref (a 1), .ref (a 6), .ref (a 7), .int br, .int (nI hi)])), (a 1, .inr (3, [.ref (a 2), .ref (a 3), .ref (a 4), .int la])), (a 2, .inl (gI g, 1152, .inl it)), (a 4, .inl (gI g, 18, .inl (nF sz)))] H := hP
      have hD : va_D A [(a 5, .inr (5, [.ref (a 1), .ref (a 6), .ref (a 7), .int br, .int (nI hi)])), (a 1, .inr (3, [.ref (a 2), .ref (a 3), .ref (a 4), .int la])), (a 2, .inl (gI g, 1152, .inl it)), (a 4, .inl (gI g, 18, .inl (nF sz)))] := hD
      exact hRet _ _ _ _ _ _ hP hD hS dX5_featureAt_69 ⟨(by unfold ftF gnF; rw [if_neg (by omega), if_neg (fun z => by rw [z] at h_45; exact absurd h_45 (by decide))]), rfl⟩
    · skip
      refine lv_iconst (v := (0 : Int32)) (pc := 48) hx hb dX5_featureAt_48 (by decide) ?_
      refine lv_goto (tgt := 69) (pc := 49) hx hb dX5_featureAt_49 (by decide) ?_
      exact hRet _ _ _ _ _ _ hP hD hS dX5_featureAt_69 ⟨(by unfold ftF gnF; rw [if_neg (by omega), if_pos (i32_ext (by rw [s12]; have := Int32.not_lt.mp h_45; rw [fa_le, s12] at this; have e0 : (0 : Int32).toInt = 0 := rfl; rw [e0] at this ⊢; omega))]), rfl⟩
  · skip
    refine lv_aload_n (pc := 5) hx hb dX5_featureAt_5 rfl (lv_at hl 0 rfl) ?_
    refine va_get (D := g.1) (ci := 5) (v := .ref (a 1)) (C := RX5) (T := TX5) (N := 5) (index := 25) (pc := 6) hx hb hts inX5 hown hK hP 0 rfl rfl 0 (by decide) (hts _ wd_1_51) (fun _ h9 => h9) rfl dX5_featureAt_6 ?_
    refine lv_iload_n (pc := 9) hx hb dX5_featureAt_9 rfl (lv_at hl 1 rfl) ?_
    refine lv_iload_n (pc := 10) hx hb dX5_featureAt_10 rfl (lv_at hl 3 rfl) ?_
    refine lv_iload_n (pc := 11) hx hb dX5_featureAt_11 rfl (lv_at hl 2 rfl) ?_
    refine call_i (wr := [(a 5, .inr (5, [.ref (a 1), .ref (a 6), .ref (a 7), .int br, .int (nI hi)]))]) (pc := 12) (run_V (wc := [(a 1, .inr (3, [.ref (a 2), .ref (a 3), .ref (a 4), .int la])), (a 2, .inl (gI g, 1152, .inl it)), (a 4, .inl (gI g, 18, .inl (nF sz)))]) (As := [.int (nI d), .int (nI f), .int (nI k)]) (rest := []) (pc := 12) hx hb hml hown hts hA hK hX (Nat.le_trans (by decide) hRf) (Nat.le_trans (by decide) hRl) hP hD hS (c_X3_reading l g (a := a) (it := it) (sz := sz) (la := la) (d := d) (b := f) (k := k) (by first | assumption | omega) (by first | assumption | omega) (by first | assumption | omega) (by first | assumption | omega)) wd_2_115 wd_2_116 wd_2_117 wd_1_2 wd_2_118 hdX3_reading [1, 2, 3] rfl rfl 0 rfl rfl rfl hl.1 rfl (Nat.le_of_ble_eq_true rfl) dX5_featureAt_12 ⟨Nat.zero_le _, Nat.zero_le _⟩) hA hP hD hS [1, 2, 3] [0] rfl rfl rfl (by decide) (fun r w1 H locs hq_12 hP hD hS => ?_)
    obtain ⟨rfl, rfl⟩ := hq_12
    have hP : va_P g.1 classes [(a 5, .inr (5, [.ref (a 1), .ref (a 6), .ref (a 7), .int br, .int (nI hi)])), (a 1, .inr (3, [.ref (a 2), .ref (a 3), .ref (a 4), .int la])), (a 2, .inl (gI g, 1152, .inl it)), (a 4, .inl (gI g, 18, .inl (nF sz)))] H := hP
    have hD : va_D A [(a 5, .inr (5, [.ref (a 1), .ref (a 6), .ref (a 7), .int br, .int (nI hi)])), (a 1, .inr (3, [.ref (a 2), .ref (a 3), .ref (a 4), .int la])), (a 2, .inl (gI g, 1152, .inl it)), (a 4, .inl (gI g, 18, .inl (nF sz)))] := hD
    exact hRet _ _ _ _ _ _ hP hD hS dX5_featureAt_15 ⟨(by unfold ftF; rw [if_pos h_2]), rfl⟩
