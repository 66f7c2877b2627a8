theorem gather_step {cl : Nat → Bool} {sk k1 : Nat → Nat} {sd sc : Nat → Nat} {rd : Nat → Nat → Nat → Int32} {g1 g2 : Nat → Int32} {i T f : Nat} (hc : cl i = true) (hT : T = tN cl i) (hF : ∀ t, t < T → k1 t = sk (tI cl i t) ∧ ∀ f, f < 4 → g1 (40 * f + t) = ftF rd (sd (tI cl i t)) (sc (tI cl i t)) f) (hf : 4 ≤ f) (hJ : ∀ j, j < f → g2 (40 * j + T) = ftF rd (sd i) (sc i) j) (hG : ∀ j t, t < T → g2 (40 * j + t) = g1 (40 * j + t)) :
    ∀ t, t < T + 1 → up k1 T (sk i) t = sk (tI cl (i + 1) t) ∧ ∀ f, f < 4 → g2 (40 * f + t) = ftF rd (sd (tI cl (i + 1) t)) (sc (tI cl (i + 1) t)) f := by
  intro t ht
  rcases Nat.lt_succ_iff_lt_or_eq.mp ht with q | q
  · rw [tI_old (hT ▸ q), up_ne _ _ (by omega)]
    exact ⟨(hF t q).1, fun j hj => (hG j t q).trans ((hF t q).2 j hj)⟩
  · rw [q, hT, tI_new hc, ← hT, up_same]
    exact ⟨rfl, fun j hj => hJ j (by omega)⟩
set_option maxHeartbeats 4000000 in
set_option maxRecDepth 100000 in
theorem c_J9_abs_0f7a4 (l : Launch) (g : Gx) (x : Int32)  : Mi l g yJ9_abs_0f7a4 cJ9_abs_0f7a4 1 ((some .int)) { frames := 0, cells := 0, slots := 0, locals := 0 } [.int x] [] (fun rv_ wv_ => rv_ = absI x ∧ wv_ = []) := by
  refine Mi.opn (own := RJ9) (lv := [(0, .int x)]) (by decide +kernel) rfl rfl (Nat.le_of_ble_eq_true rfl) ?_
  intro p e R s m args below meth c A Q hx hb hml hown hts hA hK hX hRf hRl hRet H locs ls hP hD hS hl
  refine lv_iload_n (pc := 0) hx hb dJ9_abs_0f7a4_0 rfl (lv_at hl 0 rfl) ?_
  refine lv_if_ge (tgt := 9) (pc := 1) hx hb dJ9_abs_0f7a4_1 (by decide) (fun h_1 => ?_) (fun h_1 => ?_)
  · skip
    refine lv_iload_n (pc := 9) hx hb dJ9_abs_0f7a4_9 rfl (lv_at hl 0 rfl) ?_
    exact hRet _ _ _ _ _ _ hP hD hS dJ9_abs_0f7a4_10 ⟨(by unfold absI; simp only [if_pos h_1]), rfl⟩
  · skip
    refine lv_iload_n (pc := 4) hx hb dJ9_abs_0f7a4_4 rfl (lv_at hl 0 rfl) ?_
    refine w_ineg (z := -x) (pc := 5) hx hb dJ9_abs_0f7a4_5 rfl ?_
    refine lv_goto (tgt := 10) (pc := 6) hx hb dJ9_abs_0f7a4_6 (by decide) ?_
    exact hRet _ _ _ _ _ _ hP hD hS dJ9_abs_0f7a4_10 ⟨(by unfold absI; simp only [if_neg h_1]), rfl⟩

set_option maxHeartbeats 4000000 in
set_option maxRecDepth 100000 in
theorem c_J7_fill_53178 (l : Launch) (g : Gx) (ad len : Nat) (f : Nat → Int32) (x : Int32) (hl31 : len < 2 ^ 31) : Mv l g yJ7_fill_53178 cJ7_fill_53178 4 (none) { frames := 0, cells := 0, slots := 0, locals := 0 } [.ref ad, .int x] [(ad, .inl (gI g, len, .inl f))] (fun wv_ => wv_ = [(ad, .inl (gI g, len, .inl (fillF f 0 len x)))]) 0 0 := by
  refine Mv.opn (own := RJ7) (lv := [(0, .ref ad), (1, .int x)]) (by decide +kernel) rfl rfl (Nat.le_of_ble_eq_true rfl) ?_
  intro p e R s m args below meth c A Q hx hb hml hown hts hA hK hX hRf hRl hRet H locs ls hP hD hS hl
  refine lv_iconst (v := (0 : Int32)) (pc := 0) hx hb dJ7_fill_53178_0 (by decide) ?_
  refine lv_istore_n (lv' := [(2, .int (0 : Int32)), (0, .ref ad), (1, .int x)]) (pc := 1) hx hb dJ7_fill_53178_1 rfl hl (by decide) rfl (fun ls hl => ?_)
  refine lv_aload_n (pc := 2) hx hb dJ7_fill_53178_2 rfl (lv_at hl 1 rfl) ?_
  refine va_alen (v := nI len) (pc := 3) hx hb hK hP 0 0 rfl rfl rfl dJ7_fill_53178_3 ?_
  refine lv_istore_n (lv' := [(3, .int (nI len)), (2, .int (0 : Int32)), (0, .ref ad), (1, .int x)]) (pc := 4) hx hb dJ7_fill_53178_4 rfl hl (by decide) rfl (fun ls hl => ?_)
  have L5 : ∀ (nn : Nat) (i : Nat) (h : Nat → Int32) (hi : i ≤ len) (hf : h = fillF f 0 i x), len - i < nn → ∀ (H : Heap) (locs : List Loc) (ls : Array Slot), va_P g.1 classes [(ad, .inl (gI g, len, .inl h))] H → va_D A [(ad, .inl (gI g, len, .inl h))] → va_S A s.heap H locs → lv_has ls 4 [(0, .ref ad), (1, .int x), (2, .int (nI i)), (3, .int (nI len))] → W p l e R s m args below meth c H locs 0 0 Q (F0 m 5 ls []) := by
    intro nn
    induction nn with
    | zero => exact fun i h hi hf hm => absurd hm (Nat.not_lt_zero _)
    | succ nn ih5 =>
      intro i h hi hf hm5 H locs ls hP hD hS hl
      refine lv_iload_n (pc := 5) hx hb dJ7_fill_53178_5 rfl (lv_at hl 2 rfl) ?_
      refine lv_iload_n (pc := 6) hx hb dJ7_fill_53178_6 rfl (lv_at hl 3 rfl) ?_
      refine n_icmp_ge (tgt := 20) (pc := 7) hx hb i len (by omega) (by omega) dJ7_fill_53178_7 (by decide) (fun h_7 => ?_) (fun h_7 => ?_)
      · skip
        exact hRet _ _ _ _ _ hP hD hS dJ7_fill_53178_20 (by rw [hf, show i = len by omega])
      · skip
        refine lv_aload_n (pc := 10) hx hb dJ7_fill_53178_10 rfl (lv_at hl 0 rfl) ?_
        refine lv_iload_n (pc := 11) hx hb dJ7_fill_53178_11 rfl (lv_at hl 2 rfl) ?_
        refine lv_iload_n (pc := 12) hx hb dJ7_fill_53178_12 rfl (lv_at hl 1 rfl) ?_
        refine w_iast (f := h) (f' := up h i x) (k := i) (ws' := [(ad, .inl (gI g, len, .inl (up h i x)))]) (pc := 13) hx hb hK hP hD hS 0 rfl (by omega) (by first | decide | assumption) (rfl) rfl dJ7_fill_53178_13 (fun H locs hP hD hS => ?_)
        refine lv_iinc (v := nI (i + 1)) (lv' := [(2, .int (nI (i + 1))), (0, .ref ad), (1, .int x), (3, .int (nI len))]) (pc := 14) hx hb dJ7_fill_53178_14 hl (k := 2) rfl (inc_n i 1) (by decide) rfl (fun ls hl => ?_)
        refine lv_goto (tgt := 5) (pc := 17) hx hb dJ7_fill_53178_17 (by decide) ?_
        exact ih5 (i + 1) (up h i x) (by omega) (by rw [hf, fillF_s _ _ (by omega)]) (by have := hm5; omega) _ _ _ hP hD hS (lv_sub hl [1, 2, 0, 3] rfl)
  exact L5 _ 0 f (Nat.zero_le _) (fillF_0 _ _ _).symm (Nat.lt_succ_self _) _ _ _ hP hD hS (lv_sub hl [2, 3, 1, 0] rfl)

set_option maxHeartbeats 4000000 in
set_option maxRecDepth 100000 in
theorem c_X4_number (l : Launch) (g : Gx) (a : Nat → Nat) (n tn : Nat)  : Mi l g yX4_number cX4_number 1 ((some .int)) { frames := 0, cells := 0, slots := 0, locals := 0 } [.ref (a 8)] [(a 8, .inr (4, [.ref (a 9), .ref (a 10), .ref (a 11), .int (nI n), .ref (a 12), .ref (a 13), .int (nI tn)]))] (fun rv_ wv_ => rv_ = nI n ∧ wv_ = [(a 8, .inr (4, [.ref (a 9), .ref (a 10), .ref (a 11), .int (nI n), .ref (a 12), .ref (a 13), .int (nI tn)]))]) := by
  refine Mi.opn (own := RX4) (lv := [(0, .ref (a 8))]) (plainFor_of_name (by decide)) rfl rfl (Nat.le_of_ble_eq_true rfl) ?_
  intro p e R s m args below meth c A Q hx hb hml hown hts hA hK hX hRf hRl hRet H locs ls hP hD hS hl
  refine lv_aload_n (pc := 0) hx hb dX4_number_0 rfl (lv_at hl 0 rfl) ?_
  refine va_get (D := g.1) (ci := 4) (v := .int (nI n)) (C := RX4) (T := TX4) (N := 7) (index := 21) (pc := 1) hx hb hts inX4 hown hK hP 0 rfl rfl 3 (by decide) (hts _ wd_1_76) (fun _ h9 => h9) rfl dX4_number_1 ?_
  exact hRet _ _ _ _ _ _ hP hD hS dX4_number_4 ⟨rfl, rfl⟩

set_option maxHeartbeats 4000000 in
set_option maxRecDepth 100000 in
theorem c_X4_teachers (l : Launch) (g : Gx) (a : Nat → Nat) (n tn : Nat)  : Mi l g yX4_teachers cX4_teachers 1 ((some .int)) { frames := 0, cells := 0, slots := 0, locals := 0 } [.ref (a 8)] [(a 8, .inr (4, [.ref (a 9), .ref (a 10), .ref (a 11), .int (nI n), .ref (a 12), .ref (a 13), .int (nI tn)]))] (fun rv_ wv_ => rv_ = nI tn ∧ wv_ = [(a 8, .inr (4, [.ref (a 9), .ref (a 10), .ref (a 11), .int (nI n), .ref (a 12), .ref (a 13), .int (nI tn)]))]) := by
  refine Mi.opn (own := RX4) (lv := [(0, .ref (a 8))]) (plainFor_of_name (by decide)) rfl rfl (Nat.le_of_ble_eq_true rfl) ?_
  intro p e R s m args below meth c A Q hx hb hml hown hts hA hK hX hRf hRl hRet H locs ls hP hD hS hl
  refine lv_aload_n (pc := 0) hx hb dX4_teachers_0 rfl (lv_at hl 0 rfl) ?_
  refine va_get (D := g.1) (ci := 4) (v := .int (nI tn)) (C := RX4) (T := TX4) (N := 7) (index := 31) (pc := 1) hx hb hts inX4 hown hK hP 0 rfl rfl 6 (by decide) (hts _ wd_1_79) (fun _ h9 => h9) rfl dX4_teachers_1 ?_
  exact hRet _ _ _ _ _ _ hP hD hS dX4_teachers_4 ⟨rfl, rfl⟩

set_option maxHeartbeats 4000000 in
set_option maxRecDepth 100000 in
theorem c_X4_clear (l : Launch) (g : Gx) (a : Nat → Nat) (n tn : Nat)  : Mv l g yX4_clear cX4_clear 1 (none) { frames := 0, cells := 0, slots := 0, locals := 0 } [.ref (a 8)] [(a 8, .inr (4, [.ref (a 9), .ref (a 10), .ref (a 11), .int (nI n), .ref (a 12), .ref (a 13), .int (nI tn)]))] (fun wv_ => wv_ = [(a 8, .inr (4, [.ref (a 9), .ref (a 10), .ref (a 11), .int (nI 0), .ref (a 12), .ref (a 13), .int (nI tn)]))]) 0 0 := by
  refine Mv.opn (own := RX4) (lv := [(0, .ref (a 8))]) (plainFor_of_name (by decide)) rfl rfl (Nat.le_of_ble_eq_true rfl) ?_
  intro p e R s m args below meth c A Q hx hb hml hown hts hA hK hX hRf hRl hRet H locs ls hP hD hS hl
  refine lv_aload_n (pc := 0) hx hb dX4_clear_0 rfl (lv_at hl 0 rfl) ?_
  refine lv_iconst (v := (0 : Int32)) (pc := 1) hx hb dX4_clear_1 (by decide) ?_
  refine w_put (ci := 4) (v := .int (0 : Int32)) (ty := .int) (C := RX4) (T := TX4) (N := 7) (index := 21) (ws' := [(a 8, .inr (4, [.ref (a 9), .ref (a 10), .ref (a 11), .int (0 : Int32), .ref (a 12), .ref (a 13), .int (nI tn)]))]) (pc := 2) hx hb hts inX4 tyX4 tyX4_ok nmX4 hown hK hP hD hS 0 rfl rfl 3 (by decide) (hts _ wd_1_76) (fun _ h9 => h9) rfl (by decide +kernel) rfl rfl (Nat.le_of_ble_eq_true rfl) rfl dX4_clear_2 (fun H locs hP hD hS => ?_)
  exact hRet _ _ _ _ _ hP hD hS dX4_clear_5 rfl

set_option maxHeartbeats 4000000 in
set_option maxRecDepth 100000 in
theorem c_X4_add (l : Launch) (g : Gx) (a : Nat → Nat) (sd sc sk : Nat → Nat) (n tn : Nat) (d k j : Nat) (hn : n < 40) : Mv l g yX4_add cX4_add 4 (none) { frames := 0, cells := 0, slots := 0, locals := 0 } [.ref (a 8), .int (nI d), .int (nI k), .int (nI j)] [(a 8, .inr (4, [.ref (a 9), .ref (a 10), .ref (a 11), .int (nI n), .ref (a 12), .ref (a 13), .int (nI tn)])), (a 9, .inl (gI g, 40, .inl (nF sd))), (a 10, .inl (gI g, 40, .inl (nF sc))), (a 11, .inl (gI g, 40, .inl (nF sk)))] (fun wv_ => wv_ = [(a 8, .inr (4, [.ref (a 9), .ref (a 10), .ref (a 11), .int (nI (n + 1)), .ref (a 12), .ref (a 13), .int (nI tn)])), (a 9, .inl (gI g, 40, .inl (nF (up sd n d)))), (a 10, .inl (gI g, 40, .inl (nF (up sc n k)))), (a 11, .inl (gI g, 40, .inl (nF (up sk n j))))]) 0 0 := by
  refine Mv.opn (own := RX4) (lv := [(0, .ref (a 8)), (1, .int (nI d)), (2, .int (nI k)), (3, .int (nI j))]) (plainFor_of_name (by decide)) rfl rfl (Nat.le_of_ble_eq_true rfl) ?_
  intro p e R s m args below meth c A Q hx hb hml hown hts hA hK hX hRf hRl hRet H locs ls hP hD hS hl
  refine lv_aload_n (pc := 0) hx hb dX4_add_0 rfl (lv_at hl 0 rfl) ?_
  refine va_get (D := g.1) (ci := 4) (v := .int (nI n)) (C := RX4) (T := TX4) (N := 7) (index := 21) (pc := 1) hx hb hts inX4 hown hK hP 0 rfl rfl 3 (by decide) (hts _ wd_1_76) (fun _ h9 => h9) rfl dX4_add_1 ?_
  refine lv_bipush (v := (40 : Int32)) (pc := 4) hx hb dX4_add_4 (by decide) ?_
  refine n_icmp_ge (tgt := 49) (pc := 6) hx hb n 40 (by omega) (by omega) dX4_add_6 (by decide) (fun h_6 => ?_) (fun h_6 => ?_)
  · skip
    exfalso; omega
  · skip
    refine lv_aload_n (pc := 9) hx hb dX4_add_9 rfl (lv_at hl 0 rfl) ?_
    refine va_get (D := g.1) (ci := 4) (v := .ref (a 9)) (C := RX4) (T := TX4) (N := 7) (index := 9) (pc := 10) hx hb hts inX4 hown hK hP 0 rfl rfl 0 (by decide) (hts _ wd_1_73) (fun _ h9 => h9) rfl dX4_add_10 ?_
    refine lv_aload_n (pc := 13) hx hb dX4_add_13 rfl (lv_at hl 0 rfl) ?_
    refine va_get (D := g.1) (ci := 4) (v := .int (nI n)) (C := RX4) (T := TX4) (N := 7) (index := 21) (pc := 14) hx hb hts inX4 hown hK hP 0 rfl rfl 3 (by decide) (hts _ wd_1_76) (fun _ h9 => h9) rfl dX4_add_14 ?_
    refine lv_iload_n (pc := 17) hx hb dX4_add_17 rfl (lv_at hl 1 rfl) ?_
    refine w_iast (f := nF sd) (f' := nF (up sd n d)) (k := n) (ws' := [(a 8, .inr (4, [.ref (a 9), .ref (a 10), .ref (a 11), .int (nI n), .ref (a 12), .ref (a 13), .int (nI tn)])), (a 9, .inl (gI g, 40, .inl (nF (up sd n d)))), (a 10, .inl (gI g, 40, .inl (nF sc))), (a 11, .inl (gI g, 40, .inl (nF sk)))]) (pc := 18) hx hb hK hP hD hS 1 rfl (by omega) (by first | decide | assumption) (nF_up _ _ _) rfl dX4_add_18 (fun H locs hP hD hS => ?_)
    refine lv_aload_n (pc := 19) hx hb dX4_add_19 rfl (lv_at hl 0 rfl) ?_
    refine va_get (D := g.1) (ci := 4) (v := .ref (a 10)) (C := RX4) (T := TX4) (N := 7) (index := 15) (pc := 20) hx hb hts inX4 hown hK hP 0 rfl rfl 1 (by decide) (hts _ wd_1_74) (fun _ h9 => h9) rfl dX4_add_20 ?_
    refine lv_aload_n (pc := 23) hx hb dX4_add_23 rfl (lv_at hl 0 rfl) ?_
    refine va_get (D := g.1) (ci := 4) (v := .int (nI n)) (C := RX4) (T := TX4) (N := 7) (index := 21) (pc := 24) hx hb hts inX4 hown hK hP 0 rfl rfl 3 (by decide) (hts _ wd_1_76) (fun _ h9 => h9) rfl dX4_add_24 ?_
    refine lv_iload_n (pc := 27) hx hb dX4_add_27 rfl (lv_at hl 2 rfl) ?_
    refine w_iast (f := nF sc) (f' := nF (up sc n k)) (k := n) (ws' := [(a 8, .inr (4, [.ref (a 9), .ref (a 10), .ref (a 11), .int (nI n), .ref (a 12), .ref (a 13), .int (nI tn)])), (a 9, .inl (gI g, 40, .inl (nF (up sd n d)))), (a 10, .inl (gI g, 40, .inl (nF (up sc n k)))), (a 11, .inl (gI g, 40, .inl (nF sk)))]) (pc := 28) hx hb hK hP hD hS 2 rfl (by omega) (by first | decide | assumption) (nF_up _ _ _) rfl dX4_add_28 (fun H locs hP hD hS => ?_)
    refine lv_aload_n (pc := 29) hx hb dX4_add_29 rfl (lv_at hl 0 rfl) ?_
    refine va_get (D := g.1) (ci := 4) (v := .ref (a 11)) (C := RX4) (T := TX4) (N := 7) (index := 18) (pc := 30) hx hb hts inX4 hown hK hP 0 rfl rfl 2 (by decide) (hts _ wd_1_75) (fun _ h9 => h9) rfl dX4_add_30 ?_
    refine lv_aload_n (pc := 33) hx hb dX4_add_33 rfl (lv_at hl 0 rfl) ?_
    refine va_get (D := g.1) (ci := 4) (v := .int (nI n)) (C := RX4) (T := TX4) (N := 7) (index := 21) (pc := 34) hx hb hts inX4 hown hK hP 0 rfl rfl 3 (by decide) (hts _ wd_1_76) (fun _ h9 => h9) rfl dX4_add_34 ?_
    refine lv_iload_n (pc := 37) hx hb dX4_add_37 rfl (lv_at hl 3 rfl) ?_
    refine w_iast (f := nF sk) (f' := nF (up sk n j)) (k := n) (ws' := [(a 8, .inr (4, [.ref (a 9), .ref (a 10), .ref (a 11), .int (nI n), .ref (a 12), .ref (a 13), .int (nI tn)])), (a 9, .inl (gI g, 40, .inl (nF (up sd n d)))), (a 10, .inl (gI g, 40, .inl (nF (up sc n k)))), (a 11, .inl (gI g, 40, .inl (nF (up sk n j))))]) (pc := 38) hx hb hK hP hD hS 3 rfl (by omega) (by first | decide | assumption) (nF_up _ _ _) rfl dX4_add_38 (fun H locs hP hD hS => ?_)
    refine lv_aload_n (pc := 39) hx hb dX4_add_39 rfl (lv_at hl 0 rfl) ?_
    refine lv_dup (pc := 40) hx hb dX4_add_40 rfl ?_
    refine va_get (D := g.1) (ci := 4) (v := .int (nI n)) (C := RX4) (T := TX4) (N := 7) (index := 21) (pc := 41) hx hb hts inX4 hown hK hP 0 rfl rfl 3 (by decide) (hts _ wd_1_76) (fun _ h9 => h9) rfl dX4_add_41 ?_
    refine lv_iconst (v := (1 : Int32)) (pc := 44) hx hb dX4_add_44 (by decide) ?_
    refine w_iadd (z := nI (n + 1)) (pc := 45) hx hb dX4_add_45 (nI_add n 1) ?_
    refine w_put (ci := 4) (v := .int (nI (n + 1))) (ty := .int) (C := RX4) (T := TX4) (N := 7) (index := 21) (ws' := [(a 8, .inr (4, [.ref (a 9), .ref (a 10), .ref (a 11), .int (nI (n + 1)), .ref (a 12), .ref (a 13), .int (nI tn)])), (a 9, .inl (gI g, 40, .inl (nF (up sd n d)))), (a 10, .inl (gI g, 40, .inl (nF (up sc n k)))), (a 11, .inl (gI g, 40, .inl (nF (up sk n j))))]) (pc := 46) hx hb hts inX4 tyX4 tyX4_ok nmX4 hown hK hP hD hS 0 rfl rfl 3 (by decide) (hts _ wd_1_76) (fun _ h9 => h9) rfl (by decide +kernel) rfl rfl (Nat.le_of_ble_eq_true rfl) rfl dX4_add_46 (fun H locs hP hD hS => ?_)
    exact hRet _ _ _ _ _ hP hD hS dX4_add_49 rfl

set_option maxHeartbeats 4000000 in
set_option maxRecDepth 100000 in
theorem c_X4_classOf (l : Launch) (g : Gx) (a : Nat → Nat) (n tn : Nat) (kc : Nat → Nat) (t : Nat) (ht : t < 40) : Mi l g yX4_classOf cX4_classOf 2 ((some .int)) { frames := 0, cells := 0, slots := 0, locals := 0 } [.ref (a 8), .int (nI t)] [(a 8, .inr (4, [.ref (a 9), .ref (a 10), .ref (a 11), .int (nI n), .ref (a 12), .ref (a 13), .int (nI tn)])), (a 12, .inl (gI g, 40, .inl (nF kc)))] (fun rv_ wv_ => rv_ = nI (kc t) ∧ wv_ = [(a 8, .inr (4, [.ref (a 9), .ref (a 10), .ref (a 11), .int (nI n), .ref (a 12), .ref (a 13), .int (nI tn)])), (a 12, .inl (gI g, 40, .inl (nF kc)))]) := by
  refine Mi.opn (own := RX4) (lv := [(0, .ref (a 8)), (1, .int (nI t))]) (plainFor_of_name (by decide)) rfl rfl (Nat.le_of_ble_eq_true rfl) ?_
  intro p e R s m args below meth c A Q hx hb hml hown hts hA hK hX hRf hRl hRet H locs ls hP hD hS hl
  refine lv_aload_n (pc := 0) hx hb dX4_classOf_0 rfl (lv_at hl 0 rfl) ?_
  refine va_get (D := g.1) (ci := 4) (v := .ref (a 12)) (C := RX4) (T := TX4) (N := 7) (index := 25) (pc := 1) hx hb hts inX4 hown hK hP 0 rfl rfl 4 (by decide) (hts _ wd_1_77) (fun _ h9 => h9) rfl dX4_classOf_1 ?_
  refine lv_iload_n (pc := 4) hx hb dX4_classOf_4 rfl (lv_at hl 1 rfl) ?_
  refine w_iald (f := nF kc) (k := t) (z := nI (kc t)) (pc := 5) hx hb hK hP 1 rfl (by omega) (by first | decide | assumption) (rfl) dX4_classOf_5 ?_
  exact hRet _ _ _ _ _ _ hP hD hS dX4_classOf_6 ⟨rfl, rfl⟩

set_option maxHeartbeats 4000000 in
set_option maxRecDepth 100000 in
theorem c_X4_featureOf (l : Launch) (g : Gx) (a : Nat → Nat) (n tn : Nat) (ge : Nat → Int32) (t f : Nat) (ht : t < 40) (hf : f < 4) : Mi l g yX4_featureOf cX4_featureOf 3 ((some .int)) { frames := 0, cells := 0, slots := 0, locals := 0 } [.ref (a 8), .int (nI t), .int (nI f)] [(a 8, .inr (4, [.ref (a 9), .ref (a 10), .ref (a 11), .int (nI n), .ref (a 12), .ref (a 13), .int (nI tn)])), (a 13, .inl (gI g, 160, .inl ge))] (fun rv_ wv_ => rv_ = ge (40 * f + t) ∧ wv_ = [(a 8, .inr (4, [.ref (a 9), .ref (a 10), .ref (a 11), .int (nI n), .ref (a 12), .ref (a 13), .int (nI tn)])), (a 13, .inl (gI g, 160, .inl ge))]) := by
  refine Mi.opn (own := RX4) (lv := [(0, .ref (a 8)), (1, .int (nI t)), (2, .int (nI f))]) (plainFor_of_name (by decide)) rfl rfl (Nat.le_of_ble_eq_true rfl) ?_
  intro p e R s m args below meth c A Q hx hb hml hown hts hA hK hX hRf hRl hRet H locs ls hP hD hS hl
  refine lv_aload_n (pc := 0) hx hb dX4_featureOf_0 rfl (lv_at hl 0 rfl) ?_
  refine va_get (D := g.1) (ci := 4) (v := .ref (a 13)) (C := RX4) (T := TX4) (N := 7) (index := 28) (pc := 1) hx hb hts inX4 hown hK hP 0 rfl rfl 5 (by decide) (hts _ wd_1_78) (fun _ h9 => h9) rfl dX4_featureOf_1 ?_
  refine lv_bipush (v := (40 : Int32)) (pc := 4) hx hb dX4_featureOf_4 (by decide) ?_
  refine lv_iload_n (pc := 6) hx hb dX4_featureOf_6 rfl (lv_at hl 2 rfl) ?_
  refine w_imul (z := nI (40 * f)) (pc := 7) hx hb dX4_featureOf_7 (pk_mul 40 f) ?_
  refine lv_iload_n (pc := 8) hx hb dX4_featureOf_8 rfl (lv_at hl 1 rfl) ?_
  refine w_iadd (z := nI ((40 * f) + t)) (pc := 9) hx hb dX4_featureOf_9 (nI_add (40 * f) t) ?_
  refine w_iald (f := ge) (k := (40 * f) + t) (z := ge ((40 * f) + t)) (pc := 10) hx hb hK hP 1 rfl (by omega) (by first | decide | assumption) (rfl) dX4_featureOf_10 ?_
  exact hRet _ _ _ _ _ _ hP hD hS dX4_featureOf_11 ⟨rfl, rfl⟩

set_option maxHeartbeats 4000000 in
set_option maxRecDepth 100000 in
theorem c_X4_gather (l : Launch) (g : Gx) (a : Nat → Nat) (it : Nat → Int32) (sz : Nat → Nat) (la : Int32) (br : Int32) (hi : Nat) (sx sy : Nat → Int32) (sd sc sk : Nat → Nat) (n tn : Nat) (kc : Nat → Nat) (ge : Nat → Int32) (ok : okSky sz sx sy hi) (oks : okSmp sd sc sk n) : Mv l g yX4_gather cX4_gather 4 (none) { frames := 3, cells := 0, slots := 0, locals := 73 } [.ref (a 8), .ref (a 5)] [(a 8, .inr (4, [.ref (a 9), .ref (a 10), .ref (a 11), .int (nI n), .ref (a 12), .ref (a 13), .int (nI tn)])), (a 9, .inl (gI g, 40, .inl (nF sd))), (a 10, .inl (gI g, 40, .inl (nF sc))), (a 11, .inl (gI g, 40, .inl (nF sk))), (a 12, .inl (gI g, 40, .inl (nF kc))), (a 13, .inl (gI g, 160, .inl ge)), (a 5, .inr (5, [.ref (a 1), .ref (a 6), .ref (a 7), .int br, .int (nI hi)])), (a 6, .inl (gI g, 6, .inl sx)), (a 7, .inl (gI g, 6, .inl sy)), (a 1, .inr (3, [.ref (a 2), .ref (a 3), .ref (a 4), .int la])), (a 2, .inl (gI g, 1152, .inl it)), (a 4, .inl (gI g, 18, .inl (nF sz)))] (fun wv_ => ∃ kc2 : Nat → Nat, ∃ ge2 : Nat → Int32, wv_ = [(a 8, .inr (4, [.ref (a 9), .ref (a 10), .ref (a 11), .int (nI n), .ref (a 12), .ref (a 13), .int (nI (tN (fun s => decide (skyF (rdC it sz) br hi sx sy (sd s) (sc s) = 3)) n))])), (a 9, .inl (gI g, 40, .inl (nF sd))), (a 10, .inl (gI g, 40, .inl (nF sc))), (a 11, .inl (gI g, 40, .inl (nF sk))), (a 12, .inl (gI g, 40, .inl (nF kc2))), (a 13, .inl (gI g, 160, .inl ge2)), (a 5, .inr (5, [.ref (a 1), .ref (a 6), .ref (a 7), .int br, .int (nI hi)])), (a 6, .inl (gI g, 6, .inl sx)), (a 7, .inl (gI g, 6, .inl sy)), (a 1, .inr (3, [.ref (a 2), .ref (a 3), .ref (a 4), .int la])), (a 2, .inl (gI g, 1152, .inl it)), (a 4, .inl (gI g, 18, .inl (nF sz)))] ∧ (∀ t, t < tN (fun s => decide (skyF (rdC it sz) br hi sx sy (sd s) (sc s) = 3)) n → kc2 t = sk (tI (fun s => decide (skyF (rdC it sz) br hi sx sy (sd s) (sc s) = 3)) n t) ∧ ∀ f, f < 4 → ge2 (40 * f + t) = ftF (rdC it sz) (sd (tI (fun s => decide (skyF (rdC it sz) br hi sx sy (sd s) (sc s) = 3)) n t)) (sc (tI (fun s => decide (skyF (rdC it sz) br hi sx sy (sd s) (sc s) = 3)) n t)) f)) 0 0 := by
  refine Mv.opn (own := RX4) (lv := [(0, .ref (a 8)), (1, .ref (a 5))]) (plainFor_of_name (by decide)) rfl rfl (Nat.le_of_ble_eq_true rfl) ?_
  intro p e R s m args below meth c A Q hx hb hml hown hts hA hK hX hRf hRl hRet H locs ls hP hD hS hl
  refine lv_aload_n (pc := 0) hx hb dX4_gather_0 rfl (lv_at hl 0 rfl) ?_
  refine lv_iconst (v := (0 : Int32)) (pc := 1) hx hb dX4_gather_1 (by decide) ?_
  refine w_put (ci := 4) (v := .int (0 : Int32)) (ty := .int) (C := RX4) (T := TX4) (N := 7) (index := 31) (ws' := [(a 8, .inr (4, [.ref (a 9), .ref (a 10), .ref (a 11), .int (nI n), .ref (a 12), .ref (a 13), .int (0 : Int32)])), (a 9, .inl (gI g, 40, .inl (nF sd))), (a 10, .inl (gI g, 40, .inl (nF sc))), (a 11, .inl (gI g, 40, .inl (nF sk))), (a 12, .inl (gI g, 40, .inl (nF kc))), (a 13, .inl (gI g, 160, .inl ge)), (a 5, .inr (5, [.ref (a 1), .ref (a 6), .ref (a 7), .int br, .int (nI hi)])), (a 6, .inl (gI g, 6, .inl sx)), (a 7, .inl (gI g, 6, .inl sy)), (a 1, .inr (3, [.ref (a 2), .ref (a 3), .ref (a 4), .int la])), (a 2, .inl (gI g, 1152, .inl it)), (a 4, .inl (gI g, 18, .inl (nF sz)))]) (pc := 2) hx hb hts inX4 tyX4 tyX4_ok nmX4 hown hK hP hD hS 0 rfl rfl 6 (by decide) (hts _ wd_1_79) (fun _ h9 => h9) rfl (by decide +kernel) rfl rfl (Nat.le_of_ble_eq_true rfl) rfl dX4_gather_2 (fun H locs hP hD hS => ?_)
  refine lv_iconst (v := (0 : Int32)) (pc := 5) hx hb dX4_gather_5 (by decide) ?_
  refine lv_istore_n (lv' := [(2, .int (0 : Int32)), (0, .ref (a 8)), (1, .ref (a 5))]) (pc := 6) hx hb dX4_gather_6 rfl hl (by decide) rfl (fun ls hl => ?_)
  have L7 : ∀ (nn : Nat) (i : Nat) (T : Nat) (k1 : Nat → Nat) (g1 : Nat → Int32) (hi0 : i ≤ n) (hT0 : T = tN (fun s => decide (skyF (rdC it sz) br hi sx sy (sd s) (sc s) = 3)) i) (hF0 : ∀ t, t < T → k1 t = sk (tI (fun s => decide (skyF (rdC it sz) br hi sx sy (sd s) (sc s) = 3)) i t) ∧ ∀ f, f < 4 → g1 (40 * f + t) = ftF (rdC it sz) (sd (tI (fun s => decide (skyF (rdC it sz) br hi sx sy (sd s) (sc s) = 3)) i t)) (sc (tI (fun s => decide (skyF (rdC it sz) br hi sx sy (sd s) (sc s) = 3)) i t)) f), n - i < nn → ∀ (H : Heap) (locs : List Loc) (ls : Array Slot), va_P g.1 classes [(a 8, .inr (4, [.ref (a 9), .ref (a 10), .ref (a 11), .int (nI n), .ref (a 12), .ref (a 13), .int (nI T)])), (a 9, .inl (gI g, 40, .inl (nF sd))), (a 10, .inl (gI g, 40, .inl (nF sc))), (a 11, .inl (gI g, 40, .inl (nF sk))), (a 12, .inl (gI g, 40, .inl (nF k1))), (a 13, .inl (gI g, 160, .inl g1)), (a 5, .inr (5, [.ref (a 1), .ref (a 6), .ref (a 7), .int br, .int (nI hi)])), (a 6, .inl (gI g, 6, .inl sx)), (a 7, .inl (gI g, 6, .inl sy)), (a 1, .inr (3, [.ref (a 2), .ref (a 3), .ref (a 4), .int la])), (a 2, .inl (gI g, 1152, .inl it)), (a 4, .inl (gI g, 18, .inl (nF sz)))] H → va_D A [(a 8, .inr (4, [.ref (a 9), .ref (a 10), .ref (a 11), .int (nI n), .ref (a 12), .ref (a 13), .int (nI T)])), (a 9, .inl (gI g, 40, .inl (nF sd))), (a 10, .inl (gI g, 40, .inl (nF sc))), (a 11, .inl (gI g, 40, .inl (nF sk))), (a 12, .inl (gI g, 40, .inl (nF k1))), (a 13, .inl (gI g, 160, .inl g1)), (a 5, .inr (5, [.ref (a 1), .ref (a 6), .ref (a 7), .int br, .int (nI hi)])), (a 6, .inl (gI g, 6, .inl sx)), (a 7, .inl (gI g, 6, .inl sy)), (a 1, .inr (3, [.ref (a 2), .ref (a 3), .ref (a 4), .int la])), (a 2, .inl (gI g, 1152, .inl it)), (a 4, .inl (gI g, 18, .inl (nF sz)))] → va_S A s.heap H locs → lv_has ls 4 [(0, .ref (a 8)), (1, .ref (a 5)), (2, .int (nI i))] → W p l e R s m args below meth c H locs 0 0 Q (F0 m 7 ls []) := by
    intro nn
    induction nn with
    | zero => exact fun i T k1 g1 hi0 hT0 hF0 hm => absurd hm (Nat.not_lt_zero _)
    | succ nn ih7 =>
      intro i T k1 g1 hi0 hT0 hF0 hm7 H locs ls hP hD hS hl
      have hn40 := oks.1
      have hTi : T ≤ i := hT0 ▸ tN_le _ _
      refine lv_iload_n (pc := 7) hx hb dX4_gather_7 rfl (lv_at hl 2 rfl) ?_
      refine lv_aload_n (pc := 8) hx hb dX4_gather_8 rfl (lv_at hl 0 rfl) ?_
      refine va_get (D := g.1) (ci := 4) (v := .int (nI n)) (C := RX4) (T := TX4) (N := 7) (index := 21) (pc := 9) hx hb hts inX4 hown hK hP 0 rfl rfl 3 (by decide) (hts _ wd_1_76) (fun _ h9 => h9) rfl dX4_gather_9 ?_
      refine n_icmp_ge (tgt := 110) (pc := 12) hx hb i n (by omega) (by omega) dX4_gather_12 (by decide) (fun h_12 => ?_) (fun h_12 => ?_)
      · skip
        have ein : i = n := by omega
        subst ein
        exact hRet _ _ _ _ _ hP hD hS dX4_gather_110 ⟨k1, g1, (by rw [hT0]), (hT0 ▸ hF0)⟩
      · skip
        have hoi := oks.2 i h_12
        refine lv_aload_n (pc := 15) hx hb dX4_gather_15 rfl (lv_at hl 1 rfl) ?_
        refine lv_aload_n (pc := 16) hx hb dX4_gather_16 rfl (lv_at hl 0 rfl) ?_
        refine va_get (D := g.1) (ci := 4) (v := .ref (a 9)) (C := RX4) (T := TX4) (N := 7) (index := 9) (pc := 17) hx hb hts inX4 hown hK hP 0 rfl rfl 0 (by decide) (hts _ wd_1_73) (fun _ h9 => h9) rfl dX4_gather_17 ?_
        refine lv_iload_n (pc := 20) hx hb dX4_gather_20 rfl (lv_at hl 2 rfl) ?_
        refine w_iald (f := nF sd) (k := i) (z := nI (sd i)) (pc := 21) hx hb hK hP 1 rfl (by omega) (by first | decide | assumption) (rfl) dX4_gather_21 ?_
        refine lv_aload_n (pc := 22) hx hb dX4_gather_22 rfl (lv_at hl 0 rfl) ?_
        refine va_get (D := g.1) (ci := 4) (v := .ref (a 10)) (C := RX4) (T := TX4) (N := 7) (index := 15) (pc := 23) hx hb hts inX4 hown hK hP 0 rfl rfl 1 (by decide) (hts _ wd_1_74) (fun _ h9 => h9) rfl dX4_gather_23 ?_
        refine lv_iload_n (pc := 26) hx hb dX4_gather_26 rfl (lv_at hl 2 rfl) ?_
        refine w_iald (f := nF sc) (k := i) (z := nI (sc i)) (pc := 27) hx hb hK hP 2 rfl (by omega) (by first | decide | assumption) (rfl) dX4_gather_27 ?_
        refine call_i (wr := [(a 8, .inr (4, [.ref (a 9), .ref (a 10), .ref (a 11), .int (nI n), .ref (a 12), .ref (a 13), .int (nI T)])), (a 9, .inl (gI g, 40, .inl (nF sd))), (a 10, .inl (gI g, 40, .inl (nF sc))), (a 11, .inl (gI g, 40, .inl (nF sk))), (a 12, .inl (gI g, 40, .inl (nF k1))), (a 13, .inl (gI g, 160, .inl g1))]) (pc := 28) (run_V (wc := [(a 5, .inr (5, [.ref (a 1), .ref (a 6), .ref (a 7), .int br, .int (nI hi)])), (a 6, .inl (gI g, 6, .inl sx)), (a 7, .inl (gI g, 6, .inl sy)), (a 1, .inr (3, [.ref (a 2), .ref (a 3), .ref (a 4), .int la])), (a 2, .inl (gI g, 1152, .inl it)), (a 4, .inl (gI g, 18, .inl (nF sz)))]) (As := [.int (nI (sd i)), .int (nI (sc i))]) (rest := []) (pc := 28) hx hb hml hown hts hA hK hX (Nat.le_trans (by decide) hRf) (Nat.le_trans (by decide) hRl) hP hD hS (c_X5_stateAt l g (a := a) (it := it) (sz := sz) (la := la) (br := br) (hi := hi) (sx := sx) (sy := sy) (d := sd i) (k := sc i) hoi.1 hoi.2.1 (by first | assumption | omega)) wd_2_170 wd_2_112 wd_2_113 wd_1_4 wd_2_114 hdX5_stateAt [6, 7, 8, 9, 10, 11] rfl rfl 0 rfl rfl rfl hl.1 rfl (Nat.le_of_ble_eq_true rfl) dX4_gather_28 ⟨Nat.zero_le _, Nat.zero_le _⟩) hA hP hD hS [6, 7, 8, 9, 10, 11] [0, 1, 2, 3, 4, 5] rfl rfl rfl (by decide) (fun r w1 H locs hq_28 hP hD hS => ?_)
        obtain ⟨rfl, rfl⟩ := hq_28
        have hP : va_P g.1 classes [(a 8, .inr (4, [.ref (a 9), .ref (a 10), .ref (a 11), .int (nI n), .ref (a 12), .ref (a 13), .int (nI T)])), (a 9, .inl (gI g, 40, .inl (nF sd))), (a 10, .inl (gI g, 40, .inl (nF sc))), (a 11, .inl (gI g, 40, .inl (nF sk))), (a 12, .inl (gI g, 40, .inl (nF k1))), (a 13, .inl (gI g, 160, .inl g1)), (a 5, .inr (5, [.ref (a 1), .ref (a 6), .ref (a 7), .int br, .int (nI hi)])), (a 6, .inl (gI g, 6, .inl sx)), (a 7, .inl (gI g, 6, .inl sy)), (a 1, .inr (3, [.ref (a 2), .ref (a 3), .ref (a 4), .int la])), (a 2, .inl (gI g, 1152, .inl it)), (a 4, .inl (gI g, 18, .inl (nF sz)))] H := hP
        have hD : va_D A [(a 8, .inr (4, [.ref (a 9), .ref (a 10), .ref (a 11), .int (nI n), .ref (a 12), .ref (a 13), .int (nI T)])), (a 9, .inl (gI g, 40, .inl (nF sd))), (a 10, .inl (gI g, 40, .inl (nF sc))), (a 11, .inl (gI g, 40, .inl (nF sk))), (a 12, .inl (gI g, 40, .inl (nF k1))), (a 13, .inl (gI g, 160, .inl g1)), (a 5, .inr (5, [.ref (a 1), .ref (a 6), .ref (a 7), .int br, .int (nI hi)])), (a 6, .inl (gI g, 6, .inl sx)), (a 7, .inl (gI g, 6, .inl sy)), (a 1, .inr (3, [.ref (a 2), .ref (a 3), .ref (a 4), .int la])), (a 2, .inl (gI g, 1152, .inl it)), (a 4, .inl (gI g, 18, .inl (nF sz)))] := hD
        refine lv_iconst (v := (3 : Int32)) (pc := 31) hx hb dX4_gather_31 (by decide) ?_
        refine n_icmp_ne (tgt := 104) (pc := 32) hx hb (skyF (rdC it sz) br hi sx sy (sd i) (sc i)) 3 (Nat.lt_trans (skyF_lt _ _ _ _ _ _ _) (by decide)) (by decide) dX4_gather_32 (by decide) (fun h_32 => ?_) (fun h_32 => ?_)
        · skip
          refine lv_iinc (v := nI (i + 1)) (lv' := [(2, .int (nI (i + 1))), (0, .ref (a 8)), (1, .ref (a 5))]) (pc := 104) hx hb dX4_gather_104 hl (k := 2) rfl (inc_n i 1) (by decide) rfl (fun ls hl => ?_)
          refine lv_goto (tgt := 7) (pc := 107) hx hb dX4_gather_107 (by decide) ?_
          exact ih7 (i + 1) T k1 g1 (by omega) (by rw [tN_s0 (by simpa using h_32)]; exact hT0) (fun t ht => by rw [tI_same (by simpa using h_32)]; exact hF0 t ht) (by have := hm7; omega) _ _ _ hP hD hS (lv_sub hl [1, 2, 0] rfl)
        · skip
          have hcl := skyF_clear h_32
          refine lv_aload_n (pc := 35) hx hb dX4_gather_35 rfl (lv_at hl 0 rfl) ?_
          refine va_get (D := g.1) (ci := 4) (v := .ref (a 12)) (C := RX4) (T := TX4) (N := 7) (index := 25) (pc := 36) hx hb hts inX4 hown hK hP 0 rfl rfl 4 (by decide) (hts _ wd_1_77) (fun _ h9 => h9) rfl dX4_gather_36 ?_
          refine lv_aload_n (pc := 39) hx hb dX4_gather_39 rfl (lv_at hl 0 rfl) ?_
          refine va_get (D := g.1) (ci := 4) (v := .int (nI T)) (C := RX4) (T := TX4) (N := 7) (index := 31) (pc := 40) hx hb hts inX4 hown hK hP 0 rfl rfl 6 (by decide) (hts _ wd_1_79) (fun _ h9 => h9) rfl dX4_gather_40 ?_
          refine lv_aload_n (pc := 43) hx hb dX4_gather_43 rfl (lv_at hl 0 rfl) ?_
          refine va_get (D := g.1) (ci := 4) (v := .ref (a 11)) (C := RX4) (T := TX4) (N := 7) (index := 18) (pc := 44) hx hb hts inX4 hown hK hP 0 rfl rfl 2 (by decide) (hts _ wd_1_75) (fun _ h9 => h9) rfl dX4_gather_44 ?_
          refine lv_iload_n (pc := 47) hx hb dX4_gather_47 rfl (lv_at hl 2 rfl) ?_
          refine w_iald (f := nF sk) (k := i) (z := nI (sk i)) (pc := 48) hx hb hK hP 3 rfl (by omega) (by first | decide | assumption) (rfl) dX4_gather_48 ?_
          refine w_iast (f := nF k1) (f' := nF (up k1 T (sk i))) (k := T) (ws' := [(a 8, .inr (4, [.ref (a 9), .ref (a 10), .ref (a 11), .int (nI n), .ref (a 12), .ref (a 13), .int (nI T)])), (a 9, .inl (gI g, 40, .inl (nF sd))), (a 10, .inl (gI g, 40, .inl (nF sc))), (a 11, .inl (gI g, 40, .inl (nF sk))), (a 12, .inl (gI g, 40, .inl (nF (up k1 T (sk i))))), (a 13, .inl (gI g, 160, .inl g1)), (a 5, .inr (5, [.ref (a 1), .ref (a 6), .ref (a 7), .int br, .int (nI hi)])), (a 6, .inl (gI g, 6, .inl sx)), (a 7, .inl (gI g, 6, .inl sy)), (a 1, .inr (3, [.ref (a 2), .ref (a 3), .ref (a 4), .int la])), (a 2, .inl (gI g, 1152, .inl it)), (a 4, .inl (gI g, 18, .inl (nF sz)))]) (pc := 49) hx hb hK hP hD hS 4 rfl (by omega) (by first | decide | assumption) (nF_up _ _ _) rfl dX4_gather_49 (fun H locs hP hD hS => ?_)
          refine lv_iconst (v := (0 : Int32)) (pc := 50) hx hb dX4_gather_50 (by decide) ?_
          refine lv_istore_n (lv' := [(3, .int (0 : Int32)), (0, .ref (a 8)), (1, .ref (a 5)), (2, .int (nI i))]) (pc := 51) hx hb dX4_gather_51 rfl hl (by decide) rfl (fun ls hl => ?_)
          have L52 : ∀ (nn : Nat) (f : Nat) (g2 : Nat → Int32) (hf4 : f ≤ 4) (hJ : ∀ j, j < f → g2 (40 * j + T) = ftF (rdC it sz) (sd i) (sc i) j) (hG : ∀ j t, t < T → g2 (40 * j + t) = g1 (40 * j + t)), 4 - f < nn → ∀ (H : Heap) (locs : List Loc) (ls : Array Slot), va_P g.1 classes [(a 8, .inr (4, [.ref (a 9), .ref (a 10), .ref (a 11), .int (nI n), .ref (a 12), .ref (a 13), .int (nI T)])), (a 9, .inl (gI g, 40, .inl (nF sd))), (a 10, .inl (gI g, 40, .inl (nF sc))), (a 11, .inl (gI g, 40, .inl (nF sk))), (a 12, .inl (gI g, 40, .inl (nF (up k1 T (sk i))))), (a 13, .inl (gI g, 160, .inl g2)), (a 5, .inr (5, [.ref (a 1), .ref (a 6), .ref (a 7), .int br, .int (nI hi)])), (a 6, .inl (gI g, 6, .inl sx)), (a 7, .inl (gI g, 6, .inl sy)), (a 1, .inr (3, [.ref (a 2), .ref (a 3), .ref (a 4), .int la])), (a 2, .inl (gI g, 1152, .inl it)), (a 4, .inl (gI g, 18, .inl (nF sz)))] H → va_D A [(a 8, .inr (4, [.ref (a 9), .ref (a 10), .ref (a 11), .int (nI n), .ref (a 12), .ref (a 13), .int (nI T)])), (a 9, .inl (gI g, 40, .inl (nF sd))), (a 10, .inl (gI g, 40, .inl (nF sc))), (a 11, .inl (gI g, 40, .inl (nF sk))), (a 12, .inl (gI g, 40, .inl (nF (up k1 T (sk i))))), (a 13, .inl (gI g, 160, .inl g2)), (a 5, .inr (5, [.ref (a 1), .ref (a 6), .ref (a 7), .int br, .int (nI hi)])), (a 6, .inl (gI g, 6, .inl sx)), (a 7, .inl (gI g, 6, .inl sy)), (a 1, .inr (3, [.ref (a 2), .ref (a 3), .ref (a 4), .int la])), (a 2, .inl (gI g, 1152, .inl it)), (a 4, .inl (gI g, 18, .inl (nF sz)))] → va_S A s.heap H locs → lv_has ls 4 [(0, .ref (a 8)), (1, .ref (a 5)), (2, .int (nI i)), (3, .int (nI f))] → W p l e R s m args below meth c H locs 0 0 Q (F0 m 52 ls []) := by
            intro nn
            induction nn with
            | zero => exact fun f g2 hf4 hJ hG hm => absurd hm (Nat.not_lt_zero _)
            | succ nn ih52 =>
              intro f g2 hf4 hJ hG hm52 H locs ls hP hD hS hl
              refine lv_iload_n (pc := 52) hx hb dX4_gather_52 rfl (lv_at hl 3 rfl) ?_
              refine lv_iconst (v := (4 : Int32)) (pc := 53) hx hb dX4_gather_53 (by decide) ?_
              refine n_icmp_ge (tgt := 94) (pc := 54) hx hb f 4 (by omega) (by omega) dX4_gather_54 (by decide) (fun h_54 => ?_) (fun h_54 => ?_)
              · skip
                refine lv_aload_n (pc := 94) hx hb dX4_gather_94 rfl (lv_at hl 0 rfl) ?_
                refine lv_dup (pc := 95) hx hb dX4_gather_95 rfl ?_
                refine va_get (D := g.1) (ci := 4) (v := .int (nI T)) (C := RX4) (T := TX4) (N := 7) (index := 31) (pc := 96) hx hb hts inX4 hown hK hP 0 rfl rfl 6 (by decide) (hts _ wd_1_79) (fun _ h9 => h9) rfl dX4_gather_96 ?_
                refine lv_iconst (v := (1 : Int32)) (pc := 99) hx hb dX4_gather_99 (by decide) ?_
                refine w_iadd (z := nI (T + 1)) (pc := 100) hx hb dX4_gather_100 (nI_add T 1) ?_
                refine w_put (ci := 4) (v := .int (nI (T + 1))) (ty := .int) (C := RX4) (T := TX4) (N := 7) (index := 31) (ws' := [(a 8, .inr (4, [.ref (a 9), .ref (a 10), .ref (a 11), .int (nI n), .ref (a 12), .ref (a 13), .int (nI (T + 1))])), (a 9, .inl (gI g, 40, .inl (nF sd))), (a 10, .inl (gI g, 40, .inl (nF sc))), (a 11, .inl (gI g, 40, .inl (nF sk))), (a 12, .inl (gI g, 40, .inl (nF (up k1 T (sk i))))), (a 13, .inl (gI g, 160, .inl g2)), (a 5, .inr (5, [.ref (a 1), .ref (a 6), .ref (a 7), .int br, .int (nI hi)])), (a 6, .inl (gI g, 6, .inl sx)), (a 7, .inl (gI g, 6, .inl sy)), (a 1, .inr (3, [.ref (a 2), .ref (a 3), .ref (a 4), .int la])), (a 2, .inl (gI g, 1152, .inl it)), (a 4, .inl (gI g, 18, .inl (nF sz)))]) (pc := 101) hx hb hts inX4 tyX4 tyX4_ok nmX4 hown hK hP hD hS 0 rfl rfl 6 (by decide) (hts _ wd_1_79) (fun _ h9 => h9) rfl (by decide +kernel) rfl rfl (Nat.le_of_ble_eq_true rfl) rfl dX4_gather_101 (fun H locs hP hD hS => ?_)
                refine lv_iinc (v := nI (i + 1)) (lv' := [(2, .int (nI (i + 1))), (0, .ref (a 8)), (1, .ref (a 5)), (3, .int (nI f))]) (pc := 104) hx hb dX4_gather_104 hl (k := 2) rfl (inc_n i 1) (by decide) rfl (fun ls hl => ?_)
                refine lv_goto (tgt := 7) (pc := 107) hx hb dX4_gather_107 (by decide) ?_
                exact ih7 (i + 1) (T + 1) (up k1 T (sk i)) g2 (by omega) (by rw [tN_s1 (by simpa using h_32), hT0]) (gather_step (by simpa using h_32) hT0 hF0 (by omega) hJ hG) (by have := hm7; omega) _ _ _ hP hD hS (lv_sub hl [1, 2, 0] rfl)
              · skip
                refine lv_aload_n (pc := 57) hx hb dX4_gather_57 rfl (lv_at hl 0 rfl) ?_
                refine va_get (D := g.1) (ci := 4) (v := .ref (a 13)) (C := RX4) (T := TX4) (N := 7) (index := 28) (pc := 58) hx hb hts inX4 hown hK hP 0 rfl rfl 5 (by decide) (hts _ wd_1_78) (fun _ h9 => h9) rfl dX4_gather_58 ?_
                refine lv_bipush (v := (40 : Int32)) (pc := 61) hx hb dX4_gather_61 (by decide) ?_
                refine lv_iload_n (pc := 63) hx hb dX4_gather_63 rfl (lv_at hl 3 rfl) ?_
                refine w_imul (z := nI (40 * f)) (pc := 64) hx hb dX4_gather_64 (pk_mul 40 f) ?_
                refine lv_aload_n (pc := 65) hx hb dX4_gather_65 rfl (lv_at hl 0 rfl) ?_
                refine va_get (D := g.1) (ci := 4) (v := .int (nI T)) (C := RX4) (T := TX4) (N := 7) (index := 31) (pc := 66) hx hb hts inX4 hown hK hP 0 rfl rfl 6 (by decide) (hts _ wd_1_79) (fun _ h9 => h9) rfl dX4_gather_66 ?_
                refine w_iadd (z := nI ((40 * f) + T)) (pc := 69) hx hb dX4_gather_69 (nI_add (40 * f) T) ?_
                refine lv_aload_n (pc := 70) hx hb dX4_gather_70 rfl (lv_at hl 1 rfl) ?_
                refine lv_aload_n (pc := 71) hx hb dX4_gather_71 rfl (lv_at hl 0 rfl) ?_
                refine va_get (D := g.1) (ci := 4) (v := .ref (a 9)) (C := RX4) (T := TX4) (N := 7) (index := 9) (pc := 72) hx hb hts inX4 hown hK hP 0 rfl rfl 0 (by decide) (hts _ wd_1_73) (fun _ h9 => h9) rfl dX4_gather_72 ?_
                refine lv_iload_n (pc := 75) hx hb dX4_gather_75 rfl (lv_at hl 2 rfl) ?_
                refine w_iald (f := nF sd) (k := i) (z := nI (sd i)) (pc := 76) hx hb hK hP 1 rfl (by omega) (by first | decide | assumption) (rfl) dX4_gather_76 ?_
                refine lv_aload_n (pc := 77) hx hb dX4_gather_77 rfl (lv_at hl 0 rfl) ?_
                refine va_get (D := g.1) (ci := 4) (v := .ref (a 10)) (C := RX4) (T := TX4) (N := 7) (index := 15) (pc := 78) hx hb hts inX4 hown hK hP 0 rfl rfl 1 (by decide) (hts _ wd_1_74) (fun _ h9 => h9) rfl dX4_gather_78 ?_
                refine lv_iload_n (pc := 81) hx hb dX4_gather_81 rfl (lv_at hl 2 rfl) ?_
                refine w_iald (f := nF sc) (k := i) (z := nI (sc i)) (pc := 82) hx hb hK hP 2 rfl (by omega) (by first | decide | assumption) (rfl) dX4_gather_82 ?_
                refine lv_iload_n (pc := 83) hx hb dX4_gather_83 rfl (lv_at hl 3 rfl) ?_
                refine call_i (wr := [(a 8, .inr (4, [.ref (a 9), .ref (a 10), .ref (a 11), .int (nI n), .ref (a 12), .ref (a 13), .int (nI T)])), (a 9, .inl (gI g, 40, .inl (nF sd))), (a 10, .inl (gI g, 40, .inl (nF sc))), (a 11, .inl (gI g, 40, .inl (nF sk))), (a 12, .inl (gI g, 40, .inl (nF (up k1 T (sk i))))), (a 13, .inl (gI g, 160, .inl g2)), (a 6, .inl (gI g, 6, .inl sx)), (a 7, .inl (gI g, 6, .inl sy))]) (pc := 84) (run_V (wc := [(a 5, .inr (5, [.ref (a 1), .ref (a 6), .ref (a 7), .int br, .int (nI hi)])), (a 1, .inr (3, [.ref (a 2), .ref (a 3), .ref (a 4), .int la])), (a 2, .inl (gI g, 1152, .inl it)), (a 4, .inl (gI g, 18, .inl (nF sz)))]) (As := [.int (nI (sd i)), .int (nI (sc i)), .int (nI f)]) (rest := [.int (nI ((40 * f) + T)), .ref (a 13)]) (pc := 84) hx hb hml hown hts hA hK hX (Nat.le_trans (by decide) hRf) (Nat.le_trans (by decide) hRl) hP hD hS (c_X5_featureAt l g (a := a) (it := it) (sz := sz) (la := la) (br := br) (hi := hi) (d := sd i) (k := sc i) (f := f) hoi.1 hoi.2.1 (by first | assumption | omega) ok.1 hcl) wd_2_171 wd_2_129 wd_2_130 wd_1_4 wd_2_131 hdX5_featureAt [6, 9, 10, 11] rfl rfl 0 rfl rfl rfl hl.1 rfl (Nat.le_of_ble_eq_true rfl) dX4_gather_84 ⟨Nat.zero_le _, Nat.zero_le _⟩) hA hP hD hS [6, 9, 10, 11] [0, 1, 2, 3, 4, 5, 7, 8] rfl rfl rfl (by decide) (fun r w1 H locs hq_84 hP hD hS => ?_)
                obtain ⟨rfl, rfl⟩ := hq_84
                have hP : va_P g.1 classes [(a 8, .inr (4, [.ref (a 9), .ref (a 10), .ref (a 11), .int (nI n), .ref (a 12), .ref (a 13), .int (nI T)])), (a 9, .inl (gI g, 40, .inl (nF sd))), (a 10, .inl (gI g, 40, .inl (nF sc))), (a 11, .inl (gI g, 40, .inl (nF sk))), (a 12, .inl (gI g, 40, .inl (nF (up k1 T (sk i))))), (a 13, .inl (gI g, 160, .inl g2)), (a 6, .inl (gI g, 6, .inl sx)), (a 7, .inl (gI g, 6, .inl sy)), (a 5, .inr (5, [.ref (a 1), .ref (a 6), .ref (a 7), .int br, .int (nI hi)])), (a 1, .inr (3, [.ref (a 2), .ref (a 3), .ref (a 4), .int la])), (a 2, .inl (gI g, 1152, .inl it)), (a 4, .inl (gI g, 18, .inl (nF sz)))] H := hP
                have hD : va_D A [(a 8, .inr (4, [.ref (a 9), .ref (a 10), .ref (a 11), .int (nI n), .ref (a 12), .ref (a 13), .int (nI T)])), (a 9, .inl (gI g, 40, .inl (nF sd))), (a 10, .inl (gI g, 40, .inl (nF sc))), (a 11, .inl (gI g, 40, .inl (nF sk))), (a 12, .inl (gI g, 40, .inl (nF (up k1 T (sk i))))), (a 13, .inl (gI g, 160, .inl g2)), (a 6, .inl (gI g, 6, .inl sx)), (a 7, .inl (gI g, 6, .inl sy)), (a 5, .inr (5, [.ref (a 1), .ref (a 6), .ref (a 7), .int br, .int (nI hi)])), (a 1, .inr (3, [.ref (a 2), .ref (a 3), .ref (a 4), .int la])), (a 2, .inl (gI g, 1152, .inl it)), (a 4, .inl (gI g, 18, .inl (nF sz)))] := hD
                refine w_iast (f := g2) (f' := up g2 ((40 * f) + T) (ftF (rdC it sz) (sd i) (sc i) f)) (k := (40 * f) + T) (ws' := [(a 8, .inr (4, [.ref (a 9), .ref (a 10), .ref (a 11), .int (nI n), .ref (a 12), .ref (a 13), .int (nI T)])), (a 9, .inl (gI g, 40, .inl (nF sd))), (a 10, .inl (gI g, 40, .inl (nF sc))), (a 11, .inl (gI g, 40, .inl (nF sk))), (a 12, .inl (gI g, 40, .inl (nF (up k1 T (sk i))))), (a 13, .inl (gI g, 160, .inl (up g2 ((40 * f) + T) (ftF (rdC it sz) (sd i) (sc i) f)))), (a 6, .inl (gI g, 6, .inl sx)), (a 7, .inl (gI g, 6, .inl sy)), (a 5, .inr (5, [.ref (a 1), .ref (a 6), .ref (a 7), .int br, .int (nI hi)])), (a 1, .inr (3, [.ref (a 2), .ref (a 3), .ref (a 4), .int la])), (a 2, .inl (gI g, 1152, .inl it)), (a 4, .inl (gI g, 18, .inl (nF sz)))]) (pc := 87) hx hb hK hP hD hS 5 rfl (by omega) (by first | decide | assumption) (rfl) rfl dX4_gather_87 (fun H locs hP hD hS => ?_)
                refine lv_iinc (v := nI (f + 1)) (lv' := [(3, .int (nI (f + 1))), (0, .ref (a 8)), (1, .ref (a 5)), (2, .int (nI i))]) (pc := 88) hx hb dX4_gather_88 hl (k := 3) rfl (inc_n f 1) (by decide) rfl (fun ls hl => ?_)
                refine lv_goto (tgt := 52) (pc := 91) hx hb dX4_gather_91 (by decide) ?_
                have hP : va_P g.1 classes [(a 8, .inr (4, [.ref (a 9), .ref (a 10), .ref (a 11), .int (nI n), .ref (a 12), .ref (a 13), .int (nI T)])), (a 9, .inl (gI g, 40, .inl (nF sd))), (a 10, .inl (gI g, 40, .inl (nF sc))), (a 11, .inl (gI g, 40, .inl (nF sk))), (a 12, .inl (gI g, 40, .inl (nF (up k1 T (sk i))))), (a 13, .inl (gI g, 160, .inl (up g2 ((40 * f) + T) (ftF (rdC it sz) (sd i) (sc i) f)))), (a 5, .inr (5, [.ref (a 1), .ref (a 6), .ref (a 7), .int br, .int (nI hi)])), (a 6, .inl (gI g, 6, .inl sx)), (a 7, .inl (gI g, 6, .inl sy)), (a 1, .inr (3, [.ref (a 2), .ref (a 3), .ref (a 4), .int la])), (a 2, .inl (gI g, 1152, .inl it)), (a 4, .inl (gI g, 18, .inl (nF sz)))] H := hP.sub [0, 1, 2, 3, 4, 5, 8, 6, 7, 9, 10, 11] rfl
                have hD : va_D A [(a 8, .inr (4, [.ref (a 9), .ref (a 10), .ref (a 11), .int (nI n), .ref (a 12), .ref (a 13), .int (nI T)])), (a 9, .inl (gI g, 40, .inl (nF sd))), (a 10, .inl (gI g, 40, .inl (nF sc))), (a 11, .inl (gI g, 40, .inl (nF sk))), (a 12, .inl (gI g, 40, .inl (nF (up k1 T (sk i))))), (a 13, .inl (gI g, 160, .inl (up g2 ((40 * f) + T) (ftF (rdC it sz) (sd i) (sc i) f)))), (a 5, .inr (5, [.ref (a 1), .ref (a 6), .ref (a 7), .int br, .int (nI hi)])), (a 6, .inl (gI g, 6, .inl sx)), (a 7, .inl (gI g, 6, .inl sy)), (a 1, .inr (3, [.ref (a 2), .ref (a 3), .ref (a 4), .int la])), (a 2, .inl (gI g, 1152, .inl it)), (a 4, .inl (gI g, 18, .inl (nF sz)))] := hD.sub [0, 1, 2, 3, 4, 5, 8, 6, 7, 9, 10, 11] rfl rfl
                exact ih52 (f + 1) (up g2 ((40 * f) + T) (ftF (rdC it sz) (sd i) (sc i) f)) (by omega) (fun j hj => by rcases Nat.lt_succ_iff_lt_or_eq.mp hj with q | q; exact (up_ne _ _ (by omega)).trans (hJ j q); rw [q]; exact up_same _ _ _) (fun j t ht => (up_ne _ _ (by omega)).trans (hG j t ht)) (by have := hm52; omega) _ _ _ hP hD hS (lv_sub hl [1, 2, 3, 0] rfl)
          exact L52 _ 0 g1 (by decide) (fun j hj => absurd hj (Nat.not_lt_zero _)) (fun _ _ _ => rfl) (Nat.lt_succ_self _) _ _ _ hP hD hS (lv_sub hl [1, 2, 3, 0] rfl)
  exact L7 _ 0 0 kc ge (Nat.zero_le _) rfl (fun t ht => absurd ht (Nat.not_lt_zero _)) (Nat.lt_succ_self _) _ _ _ hP hD hS (lv_sub hl [1, 2, 0] rfl)

set_option maxHeartbeats 4000000 in
set_option maxRecDepth 100000 in
theorem c_X4_nearestClass (l : Launch) (g : Gx) (a : Nat → Nat) (it : Nat → Int32) (sz : Nat → Nat) (la : Int32) (br : Int32) (hi : Nat) (n tn : Nat) (kc : Nat → Nat) (ge : Nat → Int32) (d k : Nat) (hd : d < 6) (hk : k < 64) (hz : ∀ r, r < 18 → sz r ≤ 64) (hc : ∀ i, i < 3 → ¬ rdC it sz d i k = -1) (htn : tn ≤ 40) : Mi l g yX4_nearestClass cX4_nearestClass 11 ((some .int)) { frames := 2, cells := 0, slots := 0, locals := 50 } [.ref (a 8), .ref (a 5), .int (nI d), .int (nI k)] [(a 8, .inr (4, [.ref (a 9), .ref (a 10), .ref (a 11), .int (nI n), .ref (a 12), .ref (a 13), .int (nI tn)])), (a 12, .inl (gI g, 40, .inl (nF kc))), (a 13, .inl (gI g, 160, .inl ge)), (a 5, .inr (5, [.ref (a 1), .ref (a 6), .ref (a 7), .int br, .int (nI hi)])), (a 1, .inr (3, [.ref (a 2), .ref (a 3), .ref (a 4), .int la])), (a 2, .inl (gI g, 1152, .inl it)), (a 4, .inl (gI g, 18, .inl (nF sz)))] (fun rv_ wv_ => rv_ = (nrS (fun s => absI (ge s - rdC it sz d 0 k) + absI (ge (40 + s) - rdC it sz d 1 k) + absI (ge (80 + s) - rdC it sz d 2 k)) kc tn).2 ∧ wv_ = [(a 8, .inr (4, [.ref (a 9), .ref (a 10), .ref (a 11), .int (nI n), .ref (a 12), .ref (a 13), .int (nI tn)])), (a 12, .inl (gI g, 40, .inl (nF kc))), (a 13, .inl (gI g, 160, .inl ge)), (a 5, .inr (5, [.ref (a 1), .ref (a 6), .ref (a 7), .int br, .int (nI hi)])), (a 1, .inr (3, [.ref (a 2), .ref (a 3), .ref (a 4), .int la])), (a 2, .inl (gI g, 1152, .inl it)), (a 4, .inl (gI g, 18, .inl (nF sz)))]) := by
  refine Mi.opn (own := RX4) (lv := [(0, .ref (a 8)), (1, .ref (a 5)), (2, .int (nI d)), (3, .int (nI k))]) (plainFor_of_name (by decide)) rfl rfl (Nat.le_of_ble_eq_true rfl) ?_
  intro p e R s m args below meth c A Q hx hb hml hown hts hA hK hX hRf hRl hRet H locs ls hP hD hS hl
  refine lv_aload_n (pc := 0) hx hb dX4_nearestClass_0 rfl (lv_at hl 1 rfl) ?_
  refine lv_iload_n (pc := 1) hx hb dX4_nearestClass_1 rfl (lv_at hl 2 rfl) ?_
  refine lv_iload_n (pc := 2) hx hb dX4_nearestClass_2 rfl (lv_at hl 3 rfl) ?_
  refine lv_iconst (v := (0 : Int32)) (pc := 3) hx hb dX4_nearestClass_3 (by decide) ?_
  refine call_i (wr := [(a 8, .inr (4, [.ref (a 9), .ref (a 10), .ref (a 11), .int (nI n), .ref (a 12), .ref (a 13), .int (nI tn)])), (a 12, .inl (gI g, 40, .inl (nF kc))), (a 13, .inl (gI g, 160, .inl ge))]) (pc := 4) (run_V (wc := [(a 5, .inr (5, [.ref (a 1), .ref (a 6), .ref (a 7), .int br, .int (nI hi)])), (a 1, .inr (3, [.ref (a 2), .ref (a 3), .ref (a 4), .int la])), (a 2, .inl (gI g, 1152, .inl it)), (a 4, .inl (gI g, 18, .inl (nF sz)))]) (As := [.int (nI d), .int (nI k), .int (0 : Int32)]) (rest := []) (pc := 4) hx hb hml hown hts hA hK hX (Nat.le_trans (by decide) hRf) (Nat.le_trans (by decide) hRl) hP hD hS (c_X5_featureAt l g (a := a) (it := it) (sz := sz) (la := la) (br := br) (hi := hi) (d := d) (k := k) (f := 0) (by first | assumption | omega) (by first | assumption | omega) (by first | assumption | omega) (by first | assumption | omega) (by first | assumption | omega)) wd_2_171 wd_2_129 wd_2_130 wd_1_4 wd_2_131 hdX5_featureAt [3, 4, 5, 6] rfl rfl 0 rfl rfl rfl hl.1 rfl (Nat.le_of_ble_eq_true rfl) dX4_nearestClass_4 ⟨Nat.zero_le _, Nat.zero_le _⟩) hA hP hD hS [3, 4, 5, 6] [0, 1, 2] rfl rfl rfl (by decide) (fun r w1 H locs hq_4 hP hD hS => ?_)
  obtain ⟨rfl, rfl⟩ := hq_4
  have hP : va_P g.1 classes [(a 8, .inr (4, [.ref (a 9), .ref (a 10), .ref (a 11), .int (nI n), .ref (a 12), .ref (a 13), .int (nI tn)])), (a 12, .inl (gI g, 40, .inl (nF kc))), (a 13, .inl (gI g, 160, .inl ge)), (a 5, .inr (5, [.ref (a 1), .ref (a 6), .ref (a 7), .int br, .int (nI hi)])), (a 1, .inr (3, [.ref (a 2), .ref (a 3), .ref (a 4), .int la])), (a 2, .inl (gI g, 1152, .inl it)), (a 4, .inl (gI g, 18, .inl (nF sz)))] H := hP
  have hD : va_D A [(a 8, .inr (4, [.ref (a 9), .ref (a 10), .ref (a 11), .int (nI n), .ref (a 12), .ref (a 13), .int (nI tn)])), (a 12, .inl (gI g, 40, .inl (nF kc))), (a 13, .inl (gI g, 160, .inl ge)), (a 5, .inr (5, [.ref (a 1), .ref (a 6), .ref (a 7), .int br, .int (nI hi)])), (a 1, .inr (3, [.ref (a 2), .ref (a 3), .ref (a 4), .int la])), (a 2, .inl (gI g, 1152, .inl it)), (a 4, .inl (gI g, 18, .inl (nF sz)))] := hD
  refine lv_istore (lv' := [(4, .int (ftF (rdC it sz) d k 0)), (0, .ref (a 8)), (1, .ref (a 5)), (2, .int (nI d)), (3, .int (nI k))]) (pc := 7) hx hb dX4_nearestClass_7 hl (by decide) rfl (fun ls hl => ?_)
  refine lv_aload_n (pc := 9) hx hb dX4_nearestClass_9 rfl (lv_at hl 2 rfl) ?_
  refine lv_iload_n (pc := 10) hx hb dX4_nearestClass_10 rfl (lv_at hl 3 rfl) ?_
  refine lv_iload_n (pc := 11) hx hb dX4_nearestClass_11 rfl (lv_at hl 4 rfl) ?_
  refine lv_iconst (v := (1 : Int32)) (pc := 12) hx hb dX4_nearestClass_12 (by decide) ?_
  refine call_i (wr := [(a 8, .inr (4, [.ref (a 9), .ref (a 10), .ref (a 11), .int (nI n), .ref (a 12), .ref (a 13), .int (nI tn)])), (a 12, .inl (gI g, 40, .inl (nF kc))), (a 13, .inl (gI g, 160, .inl ge))]) (pc := 13) (run_V (wc := [(a 5, .inr (5, [.ref (a 1), .ref (a 6), .ref (a 7), .int br, .int (nI hi)])), (a 1, .inr (3, [.ref (a 2), .ref (a 3), .ref (a 4), .int la])), (a 2, .inl (gI g, 1152, .inl it)), (a 4, .inl (gI g, 18, .inl (nF sz)))]) (As := [.int (nI d), .int (nI k), .int (1 : Int32)]) (rest := []) (pc := 13) hx hb hml hown hts hA hK hX (Nat.le_trans (by decide) hRf) (Nat.le_trans (by decide) hRl) hP hD hS (c_X5_featureAt l g (a := a) (it := it) (sz := sz) (la := la) (br := br) (hi := hi) (d := d) (k := k) (f := 1) (by first | assumption | omega) (by first | assumption | omega) (by first | assumption | omega) (by first | assumption | omega) (by first | assumption | omega)) wd_2_171 wd_2_129 wd_2_130 wd_1_4 wd_2_131 hdX5_featureAt [3, 4, 5, 6] rfl rfl 0 rfl rfl rfl hl.1 rfl (Nat.le_of_ble_eq_true rfl) dX4_nearestClass_13 ⟨Nat.zero_le _, Nat.zero_le _⟩) hA hP hD hS [3, 4, 5, 6] [0, 1, 2] rfl rfl rfl (by decide) (fun r w1 H locs hq_13 hP hD hS => ?_)
  obtain ⟨rfl, rfl⟩ := hq_13
  have hP : va_P g.1 classes [(a 8, .inr (4, [.ref (a 9), .ref (a 10), .ref (a 11), .int (nI n), .ref (a 12), .ref (a 13), .int (nI tn)])), (a 12, .inl (gI g, 40, .inl (nF kc))), (a 13, .inl (gI g, 160, .inl ge)), (a 5, .inr (5, [.ref (a 1), .ref (a 6), .ref (a 7), .int br, .int (nI hi)])), (a 1, .inr (3, [.ref (a 2), .ref (a 3), .ref (a 4), .int la])), (a 2, .inl (gI g, 1152, .inl it)), (a 4, .inl (gI g, 18, .inl (nF sz)))] H := hP
  have hD : va_D A [(a 8, .inr (4, [.ref (a 9), .ref (a 10), .ref (a 11), .int (nI n), .ref (a 12), .ref (a 13), .int (nI tn)])), (a 12, .inl (gI g, 40, .inl (nF kc))), (a 13, .inl (gI g, 160, .inl ge)), (a 5, .inr (5, [.ref (a 1), .ref (a 6), .ref (a 7), .int br, .int (nI hi)])), (a 1, .inr (3, [.ref (a 2), .ref (a 3), .ref (a 4), .int la])), (a 2, .inl (gI g, 1152, .inl it)), (a 4, .inl (gI g, 18, .inl (nF sz)))] := hD
  refine lv_istore (lv' := [(5, .int (ftF (rdC it sz) d k 1)), (4, .int (ftF (rdC it sz) d k 0)), (0, .ref (a 8)), (1, .ref (a 5)), (2, .int (nI d)), (3, .int (nI k))]) (pc := 16) hx hb dX4_nearestClass_16 hl (by decide) rfl (fun ls hl => ?_)
  refine lv_aload_n (pc := 18) hx hb dX4_nearestClass_18 rfl (lv_at hl 3 rfl) ?_
  refine lv_iload_n (pc := 19) hx hb dX4_nearestClass_19 rfl (lv_at hl 4 rfl) ?_
  refine lv_iload_n (pc := 20) hx hb dX4_nearestClass_20 rfl (lv_at hl 5 rfl) ?_
  refine lv_iconst (v := (2 : Int32)) (pc := 21) hx hb dX4_nearestClass_21 (by decide) ?_
  refine call_i (wr := [(a 8, .inr (4, [.ref (a 9), .ref (a 10), .ref (a 11), .int (nI n), .ref (a 12), .ref (a 13), .int (nI tn)])), (a 12, .inl (gI g, 40, .inl (nF kc))), (a 13, .inl (gI g, 160, .inl ge))]) (pc := 22) (run_V (wc := [(a 5, .inr (5, [.ref (a 1), .ref (a 6), .ref (a 7), .int br, .int (nI hi)])), (a 1, .inr (3, [.ref (a 2), .ref (a 3), .ref (a 4), .int la])), (a 2, .inl (gI g, 1152, .inl it)), (a 4, .inl (gI g, 18, .inl (nF sz)))]) (As := [.int (nI d), .int (nI k), .int (2 : Int32)]) (rest := []) (pc := 22) hx hb hml hown hts hA hK hX (Nat.le_trans (by decide) hRf) (Nat.le_trans (by decide) hRl) hP hD hS (c_X5_featureAt l g (a := a) (it := it) (sz := sz) (la := la) (br := br) (hi := hi) (d := d) (k := k) (f := 2) (by first | assumption | omega) (by first | assumption | omega) (by first | assumption | omega) (by first | assumption | omega) (by first | assumption | omega)) wd_2_171 wd_2_129 wd_2_130 wd_1_4 wd_2_131 hdX5_featureAt [3, 4, 5, 6] rfl rfl 0 rfl rfl rfl hl.1 rfl (Nat.le_of_ble_eq_true rfl) dX4_nearestClass_22 ⟨Nat.zero_le _, Nat.zero_le _⟩) hA hP hD hS [3, 4, 5, 6] [0, 1, 2] rfl rfl rfl (by decide) (fun r w1 H locs hq_22 hP hD hS => ?_)
  obtain ⟨rfl, rfl⟩ := hq_22
  have hP : va_P g.1 classes [(a 8, .inr (4, [.ref (a 9), .ref (a 10), .ref (a 11), .int (nI n), .ref (a 12), .ref (a 13), .int (nI tn)])), (a 12, .inl (gI g, 40, .inl (nF kc))), (a 13, .inl (gI g, 160, .inl ge)), (a 5, .inr (5, [.ref (a 1), .ref (a 6), .ref (a 7), .int br, .int (nI hi)])), (a 1, .inr (3, [.ref (a 2), .ref (a 3), .ref (a 4), .int la])), (a 2, .inl (gI g, 1152, .inl it)), (a 4, .inl (gI g, 18, .inl (nF sz)))] H := hP
  have hD : va_D A [(a 8, .inr (4, [.ref (a 9), .ref (a 10), .ref (a 11), .int (nI n), .ref (a 12), .ref (a 13), .int (nI tn)])), (a 12, .inl (gI g, 40, .inl (nF kc))), (a 13, .inl (gI g, 160, .inl ge)), (a 5, .inr (5, [.ref (a 1), .ref (a 6), .ref (a 7), .int br, .int (nI hi)])), (a 1, .inr (3, [.ref (a 2), .ref (a 3), .ref (a 4), .int la])), (a 2, .inl (gI g, 1152, .inl it)), (a 4, .inl (gI g, 18, .inl (nF sz)))] := hD
  refine lv_istore (lv' := [(6, .int (ftF (rdC it sz) d k 2)), (5, .int (ftF (rdC it sz) d k 1)), (4, .int (ftF (rdC it sz) d k 0)), (0, .ref (a 8)), (1, .ref (a 5)), (2, .int (nI d)), (3, .int (nI k))]) (pc := 25) hx hb dX4_nearestClass_25 hl (by decide) rfl (fun ls hl => ?_)
  refine lv_sipush (v := (3001 : Int32)) (pc := 27) hx hb dX4_nearestClass_27 (by decide) ?_
  refine lv_istore (lv' := [(7, .int (3001 : Int32)), (6, .int (ftF (rdC it sz) d k 2)), (5, .int (ftF (rdC it sz) d k 1)), (4, .int (ftF (rdC it sz) d k 0)), (0, .ref (a 8)), (1, .ref (a 5)), (2, .int (nI d)), (3, .int (nI k))]) (pc := 30) hx hb dX4_nearestClass_30 hl (by decide) rfl (fun ls hl => ?_)
  refine lv_iconst (v := (-1 : Int32)) (pc := 32) hx hb dX4_nearestClass_32 (by decide) ?_
  refine lv_istore (lv' := [(8, .int (-1 : Int32)), (7, .int (3001 : Int32)), (6, .int (ftF (rdC it sz) d k 2)), (5, .int (ftF (rdC it sz) d k 1)), (4, .int (ftF (rdC it sz) d k 0)), (0, .ref (a 8)), (1, .ref (a 5)), (2, .int (nI d)), (3, .int (nI k))]) (pc := 33) hx hb dX4_nearestClass_33 hl (by decide) rfl (fun ls hl => ?_)
  refine lv_iconst (v := (0 : Int32)) (pc := 35) hx hb dX4_nearestClass_35 (by decide) ?_
  refine lv_istore (lv' := [(9, .int (0 : Int32)), (8, .int (-1 : Int32)), (7, .int (3001 : Int32)), (6, .int (ftF (rdC it sz) d k 2)), (5, .int (ftF (rdC it sz) d k 1)), (4, .int (ftF (rdC it sz) d k 0)), (0, .ref (a 8)), (1, .ref (a 5)), (2, .int (nI d)), (3, .int (nI k))]) (pc := 36) hx hb dX4_nearestClass_36 hl (by decide) rfl (fun ls hl => ?_)
  have L38 : ∀ (nn : Nat) (i : Nat) (le : Int32) (an : Int32) (hi0 : i ≤ tn) (hnr : nrS (fun s => absI (ge s - rdC it sz d 0 k) + absI (ge (40 + s) - rdC it sz d 1 k) + absI (ge (80 + s) - rdC it sz d 2 k)) kc i = (le, an)), tn - i < nn → ∀ (H : Heap) (locs : List Loc) (ls : Array Slot), va_P g.1 classes [(a 8, .inr (4, [.ref (a 9), .ref (a 10), .ref (a 11), .int (nI n), .ref (a 12), .ref (a 13), .int (nI tn)])), (a 12, .inl (gI g, 40, .inl (nF kc))), (a 13, .inl (gI g, 160, .inl ge)), (a 5, .inr (5, [.ref (a 1), .ref (a 6), .ref (a 7), .int br, .int (nI hi)])), (a 1, .inr (3, [.ref (a 2), .ref (a 3), .ref (a 4), .int la])), (a 2, .inl (gI g, 1152, .inl it)), (a 4, .inl (gI g, 18, .inl (nF sz)))] H → va_D A [(a 8, .inr (4, [.ref (a 9), .ref (a 10), .ref (a 11), .int (nI n), .ref (a 12), .ref (a 13), .int (nI tn)])), (a 12, .inl (gI g, 40, .inl (nF kc))), (a 13, .inl (gI g, 160, .inl ge)), (a 5, .inr (5, [.ref (a 1), .ref (a 6), .ref (a 7), .int br, .int (nI hi)])), (a 1, .inr (3, [.ref (a 2), .ref (a 3), .ref (a 4), .int la])), (a 2, .inl (gI g, 1152, .inl it)), (a 4, .inl (gI g, 18, .inl (nF sz)))] → va_S A s.heap H locs → lv_has ls 11 [(0, .ref (a 8)), (1, .ref (a 5)), (2, .int (nI d)), (3, .int (nI k)), (4, .int (ftF (rdC it sz) d k 0)), (5, .int (ftF (rdC it sz) d k 1)), (6, .int (ftF (rdC it sz) d k 2)), (7, .int le), (8, .int an), (9, .int (nI i))] → W p l e R s m args below meth c H locs 0 0 Q (F0 m 38 ls []) := by
    intro nn
    induction nn with
    | zero => exact fun i le an hi0 hnr hm => absurd hm (Nat.not_lt_zero _)
    | succ nn ih38 =>
      intro i le an hi0 hnr hm38 H locs ls hP hD hS hl
      refine lv_iload (pc := 38) hx hb dX4_nearestClass_38 (lv_at hl 9 rfl) ?_
      refine lv_aload_n (pc := 40) hx hb dX4_nearestClass_40 rfl (lv_at hl 0 rfl) ?_
      refine va_get (D := g.1) (ci := 4) (v := .int (nI tn)) (C := RX4) (T := TX4) (N := 7) (index := 31) (pc := 41) hx hb hts inX4 hown hK hP 0 rfl rfl 6 (by decide) (hts _ wd_1_79) (fun _ h9 => h9) rfl dX4_nearestClass_41 ?_
      refine n_icmp_ge (tgt := 122) (pc := 44) hx hb i tn (by omega) (by omega) dX4_nearestClass_44 (by decide) (fun h_44 => ?_) (fun h_44 => ?_)
      · skip
        refine lv_iload (pc := 122) hx hb dX4_nearestClass_122 (lv_at hl 8 rfl) ?_
        exact hRet _ _ _ _ _ _ hP hD hS dX4_nearestClass_124 ⟨(by rw [show tn = i by omega, hnr]), rfl⟩
      · skip
        refine lv_aload_n (pc := 47) hx hb dX4_nearestClass_47 rfl (lv_at hl 0 rfl) ?_
        refine va_get (D := g.1) (ci := 4) (v := .ref (a 13)) (C := RX4) (T := TX4) (N := 7) (index := 28) (pc := 48) hx hb hts inX4 hown hK hP 0 rfl rfl 5 (by decide) (hts _ wd_1_78) (fun _ h9 => h9) rfl dX4_nearestClass_48 ?_
        refine lv_iload (pc := 51) hx hb dX4_nearestClass_51 (lv_at hl 9 rfl) ?_
        refine w_iald (f := ge) (k := i) (z := ge i) (pc := 53) hx hb hK hP 2 rfl (by omega) (by first | decide | assumption) (rfl) dX4_nearestClass_53 ?_
        refine lv_iload (pc := 54) hx hb dX4_nearestClass_54 (lv_at hl 4 rfl) ?_
        refine w_isub (z := (ge i) - (ftF (rdC it sz) d k 0)) (pc := 56) hx hb dX4_nearestClass_56 (rfl) ?_
        refine call_i (wr := [(a 8, .inr (4, [.ref (a 9), .ref (a 10), .ref (a 11), .int (nI n), .ref (a 12), .ref (a 13), .int (nI tn)])), (a 12, .inl (gI g, 40, .inl (nF kc))), (a 13, .inl (gI g, 160, .inl ge)), (a 5, .inr (5, [.ref (a 1), .ref (a 6), .ref (a 7), .int br, .int (nI hi)])), (a 1, .inr (3, [.ref (a 2), .ref (a 3), .ref (a 4), .int la])), (a 2, .inl (gI g, 1152, .inl it)), (a 4, .inl (gI g, 18, .inl (nF sz)))]) (pc := 57) (run_S (wc := []) (As := [.int ((ge i) - (ftF (rdC it sz) d k 0))]) (rest := []) (pc := 57) hx hb hml hown hts hA hK hX (Nat.le_trans (by decide) hRf) (Nat.le_trans (by decide) hRl) hP hD hS (c_J9_abs_0f7a4 l g (x := (ge i) - (ftF (rdC it sz) d k 0)) ) wd_3_23 wd_3_24 wd_1_13 wd_3_25 hdJ9_abs_0f7a4 [] rfl rfl rfl hl.1 rfl (Nat.le_of_ble_eq_true rfl) dX4_nearestClass_57 ⟨Nat.zero_le _, Nat.zero_le _⟩) hA hP hD hS [] [0, 1, 2, 3, 4, 5, 6] rfl rfl rfl (by decide) (fun r w1 H locs hq_57 hP hD hS => ?_)
        obtain ⟨rfl, rfl⟩ := hq_57
        have hP : va_P g.1 classes [(a 8, .inr (4, [.ref (a 9), .ref (a 10), .ref (a 11), .int (nI n), .ref (a 12), .ref (a 13), .int (nI tn)])), (a 12, .inl (gI g, 40, .inl (nF kc))), (a 13, .inl (gI g, 160, .inl ge)), (a 5, .inr (5, [.ref (a 1), .ref (a 6), .ref (a 7), .int br, .int (nI hi)])), (a 1, .inr (3, [.ref (a 2), .ref (a 3), .ref (a 4), .int la])), (a 2, .inl (gI g, 1152, .inl it)), (a 4, .inl (gI g, 18, .inl (nF sz)))] H := hP
        have hD : va_D A [(a 8, .inr (4, [.ref (a 9), .ref (a 10), .ref (a 11), .int (nI n), .ref (a 12), .ref (a 13), .int (nI tn)])), (a 12, .inl (gI g, 40, .inl (nF kc))), (a 13, .inl (gI g, 160, .inl ge)), (a 5, .inr (5, [.ref (a 1), .ref (a 6), .ref (a 7), .int br, .int (nI hi)])), (a 1, .inr (3, [.ref (a 2), .ref (a 3), .ref (a 4), .int la])), (a 2, .inl (gI g, 1152, .inl it)), (a 4, .inl (gI g, 18, .inl (nF sz)))] := hD
        refine lv_aload_n (pc := 60) hx hb dX4_nearestClass_60 rfl (lv_at hl 0 rfl) ?_
        refine va_get (D := g.1) (ci := 4) (v := .ref (a 13)) (C := RX4) (T := TX4) (N := 7) (index := 28) (pc := 61) hx hb hts inX4 hown hK hP 0 rfl rfl 5 (by decide) (hts _ wd_1_78) (fun _ h9 => h9) rfl dX4_nearestClass_61 ?_
        refine lv_bipush (v := (40 : Int32)) (pc := 64) hx hb dX4_nearestClass_64 (by decide) ?_
        refine lv_iload (pc := 66) hx hb dX4_nearestClass_66 (lv_at hl 9 rfl) ?_
        refine w_iadd (z := nI (40 + i)) (pc := 68) hx hb dX4_nearestClass_68 (nI_add 40 i) ?_
        refine w_iald (f := ge) (k := 40 + i) (z := ge (40 + i)) (pc := 69) hx hb hK hP 2 rfl (by omega) (by first | decide | assumption) (rfl) dX4_nearestClass_69 ?_
        refine lv_iload (pc := 70) hx hb dX4_nearestClass_70 (lv_at hl 5 rfl) ?_
        refine w_isub (z := (ge (40 + i)) - (ftF (rdC it sz) d k 1)) (pc := 72) hx hb dX4_nearestClass_72 (rfl) ?_
        refine call_i (wr := [(a 8, .inr (4, [.ref (a 9), .ref (a 10), .ref (a 11), .int (nI n), .ref (a 12), .ref (a 13), .int (nI tn)])), (a 12, .inl (gI g, 40, .inl (nF kc))), (a 13, .inl (gI g, 160, .inl ge)), (a 5, .inr (5, [.ref (a 1), .ref (a 6), .ref (a 7), .int br, .int (nI hi)])), (a 1, .inr (3, [.ref (a 2), .ref (a 3), .ref (a 4), .int la])), (a 2, .inl (gI g, 1152, .inl it)), (a 4, .inl (gI g, 18, .inl (nF sz)))]) (pc := 73) (run_S (wc := []) (As := [.int ((ge (40 + i)) - (ftF (rdC it sz) d k 1))]) (rest := [.int (absI ((ge i) - (ftF (rdC it sz) d k 0)))]) (pc := 73) hx hb hml hown hts hA hK hX (Nat.le_trans (by decide) hRf) (Nat.le_trans (by decide) hRl) hP hD hS (c_J9_abs_0f7a4 l g (x := (ge (40 + i)) - (ftF (rdC it sz) d k 1)) ) wd_3_23 wd_3_24 wd_1_13 wd_3_25 hdJ9_abs_0f7a4 [] rfl rfl rfl hl.1 rfl (Nat.le_of_ble_eq_true rfl) dX4_nearestClass_73 ⟨Nat.zero_le _, Nat.zero_le _⟩) hA hP hD hS [] [0, 1, 2, 3, 4, 5, 6] rfl rfl rfl (by decide) (fun r w1 H locs hq_73 hP hD hS => ?_)
        obtain ⟨rfl, rfl⟩ := hq_73
        have hP : va_P g.1 classes [(a 8, .inr (4, [.ref (a 9), .ref (a 10), .ref (a 11), .int (nI n), .ref (a 12), .ref (a 13), .int (nI tn)])), (a 12, .inl (gI g, 40, .inl (nF kc))), (a 13, .inl (gI g, 160, .inl ge)), (a 5, .inr (5, [.ref (a 1), .ref (a 6), .ref (a 7), .int br, .int (nI hi)])), (a 1, .inr (3, [.ref (a 2), .ref (a 3), .ref (a 4), .int la])), (a 2, .inl (gI g, 1152, .inl it)), (a 4, .inl (gI g, 18, .inl (nF sz)))] H := hP
        have hD : va_D A [(a 8, .inr (4, [.ref (a 9), .ref (a 10), .ref (a 11), .int (nI n), .ref (a 12), .ref (a 13), .int (nI tn)])), (a 12, .inl (gI g, 40, .inl (nF kc))), (a 13, .inl (gI g, 160, .inl ge)), (a 5, .inr (5, [.ref (a 1), .ref (a 6), .ref (a 7), .int br, .int (nI hi)])), (a 1, .inr (3, [.ref (a 2), .ref (a 3), .ref (a 4), .int la])), (a 2, .inl (gI g, 1152, .inl it)), (a 4, .inl (gI g, 18, .inl (nF sz)))] := hD
        refine w_iadd (z := (absI ((ge i) - (ftF (rdC it sz) d k 0))) + (absI ((ge (40 + i)) - (ftF (rdC it sz) d k 1)))) (pc := 76) hx hb dX4_nearestClass_76 (rfl) ?_
        refine lv_aload_n (pc := 77) hx hb dX4_nearestClass_77 rfl (lv_at hl 0 rfl) ?_
        refine va_get (D := g.1) (ci := 4) (v := .ref (a 13)) (C := RX4) (T := TX4) (N := 7) (index := 28) (pc := 78) hx hb hts inX4 hown hK hP 0 rfl rfl 5 (by decide) (hts _ wd_1_78) (fun _ h9 => h9) rfl dX4_nearestClass_78 ?_
        refine lv_bipush (v := (80 : Int32)) (pc := 81) hx hb dX4_nearestClass_81 (by decide) ?_
        refine lv_iload (pc := 83) hx hb dX4_nearestClass_83 (lv_at hl 9 rfl) ?_
        refine w_iadd (z := nI (80 + i)) (pc := 85) hx hb dX4_nearestClass_85 (nI_add 80 i) ?_
        refine w_iald (f := ge) (k := 80 + i) (z := ge (80 + i)) (pc := 86) hx hb hK hP 2 rfl (by omega) (by first | decide | assumption) (rfl) dX4_nearestClass_86 ?_
        refine lv_iload (pc := 87) hx hb dX4_nearestClass_87 (lv_at hl 6 rfl) ?_
        refine w_isub (z := (ge (80 + i)) - (ftF (rdC it sz) d k 2)) (pc := 89) hx hb dX4_nearestClass_89 (rfl) ?_
        refine call_i (wr := [(a 8, .inr (4, [.ref (a 9), .ref (a 10), .ref (a 11), .int (nI n), .ref (a 12), .ref (a 13), .int (nI tn)])), (a 12, .inl (gI g, 40, .inl (nF kc))), (a 13, .inl (gI g, 160, .inl ge)), (a 5, .inr (5, [.ref (a 1), .ref (a 6), .ref (a 7), .int br, .int (nI hi)])), (a 1, .inr (3, [.ref (a 2), .ref (a 3), .ref (a 4), .int la])), (a 2, .inl (gI g, 1152, .inl it)), (a 4, .inl (gI g, 18, .inl (nF sz)))]) (pc := 90) (run_S (wc := []) (As := [.int ((ge (80 + i)) - (ftF (rdC it sz) d k 2))]) (rest := [.int ((absI ((ge i) - (ftF (rdC it sz) d k 0))) + (absI ((ge (40 + i)) - (ftF (rdC it sz) d k 1))))]) (pc := 90) hx hb hml hown hts hA hK hX (Nat.le_trans (by decide) hRf) (Nat.le_trans (by decide) hRl) hP hD hS (c_J9_abs_0f7a4 l g (x := (ge (80 + i)) - (ftF (rdC it sz) d k 2)) ) wd_3_23 wd_3_24 wd_1_13 wd_3_25 hdJ9_abs_0f7a4 [] rfl rfl rfl hl.1 rfl (Nat.le_of_ble_eq_true rfl) dX4_nearestClass_90 ⟨Nat.zero_le _, Nat.zero_le _⟩) hA hP hD hS [] [0, 1, 2, 3, 4, 5, 6] rfl rfl rfl (by decide) (fun r w1 H locs hq_90 hP hD hS => ?_)
        obtain ⟨rfl, rfl⟩ := hq_90
        have hP : va_P g.1 classes [(a 8, .inr (4, [.ref (a 9), .ref (a 10), .ref (a 11), .int (nI n), .ref (a 12), .ref (a 13), .int (nI tn)])), (a 12, .inl (gI g, 40, .inl (nF kc))), (a 13, .inl (gI g, 160, .inl ge)), (a 5, .inr (5, [.ref (a 1), .ref (a 6), .ref (a 7), .int br, .int (nI hi)])), (a 1, .inr (3, [.ref (a 2), .ref (a 3), .ref (a 4), .int la])), (a 2, .inl (gI g, 1152, .inl it)), (a 4, .inl (gI g, 18, .inl (nF sz)))] H := hP
        have hD : va_D A [(a 8, .inr (4, [.ref (a 9), .ref (a 10), .ref (a 11), .int (nI n), .ref (a 12), .ref (a 13), .int (nI tn)])), (a 12, .inl (gI g, 40, .inl (nF kc))), (a 13, .inl (gI g, 160, .inl ge)), (a 5, .inr (5, [.ref (a 1), .ref (a 6), .ref (a 7), .int br, .int (nI hi)])), (a 1, .inr (3, [.ref (a 2), .ref (a 3), .ref (a 4), .int la])), (a 2, .inl (gI g, 1152, .inl it)), (a 4, .inl (gI g, 18, .inl (nF sz)))] := hD
        refine w_iadd (z := ((absI ((ge i) - (ftF (rdC it sz) d k 0))) + (absI ((ge (40 + i)) - (ftF (rdC it sz) d k 1)))) + (absI ((ge (80 + i)) - (ftF (rdC it sz) d k 2)))) (pc := 93) hx hb dX4_nearestClass_93 (rfl) ?_
        refine lv_istore (lv' := [(10, .int (((absI ((ge i) - (ftF (rdC it sz) d k 0))) + (absI ((ge (40 + i)) - (ftF (rdC it sz) d k 1)))) + (absI ((ge (80 + i)) - (ftF (rdC it sz) d k 2))))), (0, .ref (a 8)), (1, .ref (a 5)), (2, .int (nI d)), (3, .int (nI k)), (4, .int (ftF (rdC it sz) d k 0)), (5, .int (ftF (rdC it sz) d k 1)), (6, .int (ftF (rdC it sz) d k 2)), (7, .int le), (8, .int an), (9, .int (nI i))]) (pc := 94) hx hb dX4_nearestClass_94 hl (by decide) rfl (fun ls hl => ?_)
        refine lv_iload (pc := 96) hx hb dX4_nearestClass_96 (lv_at hl 0 rfl) ?_
        refine lv_iload (pc := 98) hx hb dX4_nearestClass_98 (lv_at hl 8 rfl) ?_
        refine lv_icmp_ge (tgt := 116) (pc := 100) hx hb dX4_nearestClass_100 (by decide) (fun h_100 => ?_) (fun h_100 => ?_)
        · skip
          refine lv_iinc (v := nI (i + 1)) (lv' := [(9, .int (nI (i + 1))), (10, .int (((absI ((ge i) - (ftF (rdC it sz) d k 0))) + (absI ((ge (40 + i)) - (ftF (rdC it sz) d k 1)))) + (absI ((ge (80 + i)) - (ftF (rdC it sz) d k 2))))), (0, .ref (a 8)), (1, .ref (a 5)), (2, .int (nI d)), (3, .int (nI k)), (4, .int (ftF (rdC it sz) d k 0)), (5, .int (ftF (rdC it sz) d k 1)), (6, .int (ftF (rdC it sz) d k 2)), (7, .int le), (8, .int an)]) (pc := 116) hx hb dX4_nearestClass_116 hl (k := 10) rfl (inc_n i 1) (by decide) rfl (fun ls hl => ?_)
          refine lv_goto (tgt := 38) (pc := 119) hx hb dX4_nearestClass_119 (by decide) ?_
          exact ih38 (i + 1) le an (by omega) (by unfold nrS; rw [hnr]; exact if_pos h_100) (by have := hm38; omega) _ _ _ hP hD hS (lv_sub hl [2, 3, 4, 5, 6, 7, 8, 9, 10, 0] rfl)
        · skip
          refine lv_iload (pc := 103) hx hb dX4_nearestClass_103 (lv_at hl 0 rfl) ?_
          refine lv_istore (lv' := [(7, .int (((absI ((ge i) - (ftF (rdC it sz) d k 0))) + (absI ((ge (40 + i)) - (ftF (rdC it sz) d k 1)))) + (absI ((ge (80 + i)) - (ftF (rdC it sz) d k 2))))), (10, .int (((absI ((ge i) - (ftF (rdC it sz) d k 0))) + (absI ((ge (40 + i)) - (ftF (rdC it sz) d k 1)))) + (absI ((ge (80 + i)) - (ftF (rdC it sz) d k 2))))), (0, .ref (a 8)), (1, .ref (a 5)), (2, .int (nI d)), (3, .int (nI k)), (4, .int (ftF (rdC it sz) d k 0)), (5, .int (ftF (rdC it sz) d k 1)), (6, .int (ftF (rdC it sz) d k 2)), (8, .int an), (9, .int (nI i))]) (pc := 105) hx hb dX4_nearestClass_105 hl (by decide) rfl (fun ls hl => ?_)
          refine lv_aload_n (pc := 107) hx hb dX4_nearestClass_107 rfl (lv_at hl 2 rfl) ?_
          refine va_get (D := g.1) (ci := 4) (v := .ref (a 12)) (C := RX4) (T := TX4) (N := 7) (index := 25) (pc := 108) hx hb hts inX4 hown hK hP 0 rfl rfl 4 (by decide) (hts _ wd_1_77) (fun _ h9 => h9) rfl dX4_nearestClass_108 ?_
          refine lv_iload (pc := 111) hx hb dX4_nearestClass_111 (lv_at hl 10 rfl) ?_
          refine w_iald (f := nF kc) (k := i) (z := nI (kc i)) (pc := 113) hx hb hK hP 1 rfl (by omega) (by first | decide | assumption) (rfl) dX4_nearestClass_113 ?_
          refine lv_istore (lv' := [(8, .int (nI (kc i))), (7, .int (((absI ((ge i) - (ftF (rdC it sz) d k 0))) + (absI ((ge (40 + i)) - (ftF (rdC it sz) d k 1)))) + (absI ((ge (80 + i)) - (ftF (rdC it sz) d k 2))))), (10, .int (((absI ((ge i) - (ftF (rdC it sz) d k 0))) + (absI ((ge (40 + i)) - (ftF (rdC it sz) d k 1)))) + (absI ((ge (80 + i)) - (ftF (rdC it sz) d k 2))))), (0, .ref (a 8)), (1, .ref (a 5)), (2, .int (nI d)), (3, .int (nI k)), (4, .int (ftF (rdC it sz) d k 0)), (5, .int (ftF (rdC it sz) d k 1)), (6, .int (ftF (rdC it sz) d k 2)), (9, .int (nI i))]) (pc := 114) hx hb dX4_nearestClass_114 hl (by decide) rfl (fun ls hl => ?_)
          refine lv_iinc (v := nI (i + 1)) (lv' := [(9, .int (nI (i + 1))), (8, .int (nI (kc i))), (7, .int (((absI ((ge i) - (ftF (rdC it sz) d k 0))) + (absI ((ge (40 + i)) - (ftF (rdC it sz) d k 1)))) + (absI ((ge (80 + i)) - (ftF (rdC it sz) d k 2))))), (10, .int (((absI ((ge i) - (ftF (rdC it sz) d k 0))) + (absI ((ge (40 + i)) - (ftF (rdC it sz) d k 1)))) + (absI ((ge (80 + i)) - (ftF (rdC it sz) d k 2))))), (0, .ref (a 8)), (1, .ref (a 5)), (2, .int (nI d)), (3, .int (nI k)), (4, .int (ftF (rdC it sz) d k 0)), (5, .int (ftF (rdC it sz) d k 1)), (6, .int (ftF (rdC it sz) d k 2))]) (pc := 116) hx hb dX4_nearestClass_116 hl (k := 10) rfl (inc_n i 1) (by decide) rfl (fun ls hl => ?_)
          refine lv_goto (tgt := 38) (pc := 119) hx hb dX4_nearestClass_119 (by decide) ?_
          exact ih38 (i + 1) (((absI ((ge i) - (ftF (rdC it sz) d k 0))) + (absI ((ge (40 + i)) - (ftF (rdC it sz) d k 1)))) + (absI ((ge (80 + i)) - (ftF (rdC it sz) d k 2)))) (nI (kc i)) (by omega) (by unfold nrS; rw [hnr]; exact if_neg h_100) (by have := hm38; omega) _ _ _ hP hD hS (lv_sub hl [4, 5, 6, 7, 8, 9, 10, 2, 1, 0] rfl)
  exact L38 _ 0 (3001 : Int32) (-1 : Int32) (Nat.zero_le _) rfl (Nat.lt_succ_self _) _ _ _ hP hD hS (lv_sub hl [6, 7, 8, 9, 5, 4, 3, 2, 1, 0] rfl)
