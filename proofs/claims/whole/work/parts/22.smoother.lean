theorem or_ne {i j : Nat} (h : i.testBit j = false) : i ≠ i ||| 2 ^ j := fun z => by
  have e : i.testBit j = (i ||| 2 ^ j).testBit j := congrArg (fun q => Nat.testBit q j) z
  rw [or_bit, h] at e
  simp at e
theorem half0 {j : Nat} (h : 2 ^ j / 2 = 0) : j = 0 := by
  rcases Nat.eq_zero_or_pos j with q | q
  · exact q
  · rw [show j = (j - 1) + 1 by omega, Nat.pow_succ, Nat.mul_div_cancel _ (by decide)] at h
    have := Nat.pow_pos (n := j - 1) (show 0 < 2 by decide)
    omega
theorem SI_b {z o : Nat → Nat} {ed n : Nat} {cs w : Nat → Nat} (h : SI z o ed n cs w) (hn : n ≤ 64) : ∀ f, f < 256 → cs f ≤ 2 ^ 30 := by
  intro f hf
  obtain ⟨-, h2, h3⟩ := h f hf
  by_cases c : ∃ x, x < 8 ∧ n ≤ x ∧ f.testBit x = true
  · have := (h3 c).2; omega
  · have := (h2 (fun x hx hnx => by cases hq : f.testBit x with
      | false => rfl
      | true => exact absurd ⟨x, hx, hnx, hq⟩ c)).1
    omega
section CEL
variable {z o : Nat → Nat} {ed n : Nat} {cs w c1 w1 : Nat → Nat} {i ab z1 o1 : Nat}
theorem cell_dn (hdn : ∀ f, f < 256 → f.testBit (n % 8) = false → f < i → NSt z o ed n cs w c1 w1 f) (hre : c1 i = cs i ∧ w1 i = w i ∧ c1 (i ||| 2 ^ (n % 8)) = cs (i ||| 2 ^ (n % 8)) ∧ w1 (i ||| 2 ^ (n % 8)) = w (i ||| 2 ^ (n % 8))) (_hi : i < 256) (hib : i.testBit (n % 8) = false) (hab : ab = abF ed n) (hz : z1 = (if lfF n i = true then z n + bsF ed n else z n)) (ho : o1 = (if lfF n i = true then o n else o n + bsF ed n)) :
    ∀ f, f < 256 → f.testBit (n % 8) = false → f < i + 1 → NSt z o ed n cs w
      (up (up c1 i (z1 + (if c1 i ≤ c1 (i ||| 2 ^ (n % 8)) + ab then c1 i else c1 (i ||| 2 ^ (n % 8)) + ab))) (i ||| 2 ^ (n % 8)) (o1 + (if c1 i + ab ≤ c1 (i ||| 2 ^ (n % 8)) then c1 i + ab else c1 (i ||| 2 ^ (n % 8)))))
      (up (up w1 i (if c1 i ≤ c1 (i ||| 2 ^ (n % 8)) + ab then w1 i else w1 (i ||| 2 ^ (n % 8)))) (i ||| 2 ^ (n % 8)) ((if c1 i + ab ≤ c1 (i ||| 2 ^ (n % 8)) then w1 i else w1 (i ||| 2 ^ (n % 8))) ||| 2 ^ n)) f := by
  intro f h1 h2 h3
  rcases Nat.lt_succ_iff_lt_or_eq.mp h3 with q | q
  · obtain ⟨a1, a2, a3⟩ := pair_ne h2 hib (show f ≠ i by omega)
    obtain ⟨d1, d2, d3, d4⟩ := hdn f h1 h2 q
    unfold NSt
    rw [up_ne _ _ a1, up_ne _ _ (show f ≠ i by omega), up_ne _ _ a1, up_ne _ _ (show f ≠ i by omega), up_ne _ _ a3, up_ne _ _ a2, up_ne _ _ a3, up_ne _ _ a2]
    exact ⟨d1, d2, d3, d4⟩
  · subst q
    have hne : f ≠ f ||| 2 ^ (n % 8) := fun z => by
      have := congrArg (fun q => q.testBit (n % 8)) z
      try dsimp only at this
      rw [or_bit, h2] at this; simp at this
    unfold NSt
    rw [up_same, up_same, up_ne _ _ hne, up_ne _ _ hne, up_same, up_same, hre.1, hre.2.1, hre.2.2.1, hre.2.2.2, hab, hz, ho]
    exact ⟨rfl, rfl, rfl, rfl⟩
theorem cell_re {A B C D : Nat} (hre : ∀ f, f < 256 → f.testBit (n % 8) = false → i ≤ f → c1 f = cs f ∧ w1 f = w f ∧ c1 (f ||| 2 ^ (n % 8)) = cs (f ||| 2 ^ (n % 8)) ∧ w1 (f ||| 2 ^ (n % 8)) = w (f ||| 2 ^ (n % 8))) (_hi : i < 256) (hib : i.testBit (n % 8) = false) :
    ∀ f, f < 256 → f.testBit (n % 8) = false → i + 1 ≤ f → (up (up c1 i A) (i ||| 2 ^ (n % 8)) B) f = cs f ∧ (up (up w1 i C) (i ||| 2 ^ (n % 8)) D) f = w f ∧ (up (up c1 i A) (i ||| 2 ^ (n % 8)) B) (f ||| 2 ^ (n % 8)) = cs (f ||| 2 ^ (n % 8)) ∧ (up (up w1 i C) (i ||| 2 ^ (n % 8)) D) (f ||| 2 ^ (n % 8)) = w (f ||| 2 ^ (n % 8)) := by
  intro f h1 h2 h3
  obtain ⟨a1, a2, a3⟩ := pair_ne h2 hib (show f ≠ i by omega)
  rw [up_ne _ _ a1, up_ne _ _ (show f ≠ i by omega), up_ne _ _ a1, up_ne _ _ (show f ≠ i by omega), up_ne _ _ a3, up_ne _ _ a2, up_ne _ _ a3, up_ne _ _ a2]
  exact hre f h1 h2 (by omega)
end CEL
set_option maxHeartbeats 4000000 in
set_option maxRecDepth 100000 in
theorem c_X6_own (l : Launch) (g : Gx) (a : Nat → Nat) (ow eg mk : Nat)  : Mi l g yX6_own cX6_own 1 ((some .int)) { frames := 0, cells := 0, slots := 0, locals := 0 } [.ref (a 24)] [(a 24, .inr (6, [.ref (a 25), .ref (a 26), .int (nI ow), .int (nI eg), .long (lN mk)]))] (fun rv_ wv_ => rv_ = nI ow ∧ wv_ = [(a 24, .inr (6, [.ref (a 25), .ref (a 26), .int (nI ow), .int (nI eg), .long (lN mk)]))]) := by
  refine Mi.opn (own := RX6) (lv := [(0, .ref (a 24))]) (plainFor_of_name (by decide)) rfl rfl (Nat.le_of_ble_eq_true rfl) ?_
  intro p e R s m args below meth c A Q hx hb hml hown hts hA hK hX hRf hRl hRet H locs ls hP hD hS hl
  refine lv_aload_n (pc := 0) hx hb dX6_own_0 rfl (lv_at hl 0 rfl) ?_
  refine va_get (D := g.1) (ci := 6) (v := .int (nI ow)) (C := RX6) (T := TX6) (N := 5) (index := 19) (pc := 1) hx hb hts inX6 hown hK hP 0 rfl rfl 2 (by decide) (hts _ wd_1_171) (fun _ h9 => h9) rfl dX6_own_1 ?_
  exact hRet _ _ _ _ _ _ hP hD hS dX6_own_4 ⟨rfl, rfl⟩

set_option maxHeartbeats 4000000 in
set_option maxRecDepth 100000 in
theorem c_X6_edge (l : Launch) (g : Gx) (a : Nat → Nat) (ow eg mk : Nat)  : Mi l g yX6_edge cX6_edge 1 ((some .int)) { frames := 0, cells := 0, slots := 0, locals := 0 } [.ref (a 24)] [(a 24, .inr (6, [.ref (a 25), .ref (a 26), .int (nI ow), .int (nI eg), .long (lN mk)]))] (fun rv_ wv_ => rv_ = nI eg ∧ wv_ = [(a 24, .inr (6, [.ref (a 25), .ref (a 26), .int (nI ow), .int (nI eg), .long (lN mk)]))]) := by
  refine Mi.opn (own := RX6) (lv := [(0, .ref (a 24))]) (plainFor_of_name (by decide)) rfl rfl (Nat.le_of_ble_eq_true rfl) ?_
  intro p e R s m args below meth c A Q hx hb hml hown hts hA hK hX hRf hRl hRet H locs ls hP hD hS hl
  refine lv_aload_n (pc := 0) hx hb dX6_edge_0 rfl (lv_at hl 0 rfl) ?_
  refine va_get (D := g.1) (ci := 6) (v := .int (nI eg)) (C := RX6) (T := TX6) (N := 5) (index := 23) (pc := 1) hx hb hts inX6 hown hK hP 0 rfl rfl 3 (by decide) (hts _ wd_1_172) (fun _ h9 => h9) rfl dX6_edge_1 ?_
  exact hRet _ _ _ _ _ _ hP hD hS dX6_edge_4 ⟨rfl, rfl⟩

set_option maxHeartbeats 4000000 in
set_option maxRecDepth 100000 in
theorem c_X6_setWeights (l : Launch) (g : Gx) (a : Nat → Nat) (ow eg mk : Nat) (x y : Nat)  : Mv l g yX6_setWeights cX6_setWeights 3 (none) { frames := 0, cells := 0, slots := 0, locals := 0 } [.ref (a 24), .int (nI x), .int (nI y)] [(a 24, .inr (6, [.ref (a 25), .ref (a 26), .int (nI ow), .int (nI eg), .long (lN mk)]))] (fun wv_ => wv_ = [(a 24, .inr (6, [.ref (a 25), .ref (a 26), .int (nI x), .int (nI y), .long (lN mk)]))]) 0 0 := by
  refine Mv.opn (own := RX6) (lv := [(0, .ref (a 24)), (1, .int (nI x)), (2, .int (nI y))]) (plainFor_of_name (by decide)) rfl rfl (Nat.le_of_ble_eq_true rfl) ?_
  intro p e R s m args below meth c A Q hx hb hml hown hts hA hK hX hRf hRl hRet H locs ls hP hD hS hl
  refine lv_aload_n (pc := 0) hx hb dX6_setWeights_0 rfl (lv_at hl 0 rfl) ?_
  refine lv_iload_n (pc := 1) hx hb dX6_setWeights_1 rfl (lv_at hl 1 rfl) ?_
  refine w_put (ci := 6) (v := .int (nI x)) (ty := .int) (C := RX6) (T := TX6) (N := 5) (index := 19) (ws' := [(a 24, .inr (6, [.ref (a 25), .ref (a 26), .int (nI x), .int (nI eg), .long (lN mk)]))]) (pc := 2) hx hb hts inX6 tyX6 tyX6_ok nmX6 hown hK hP hD hS 0 rfl rfl 2 (by decide) (hts _ wd_1_171) (fun _ h9 => h9) rfl (by decide +kernel) rfl rfl (Nat.le_of_ble_eq_true rfl) rfl dX6_setWeights_2 (fun H locs hP hD hS => ?_)
  refine lv_aload_n (pc := 5) hx hb dX6_setWeights_5 rfl (lv_at hl 0 rfl) ?_
  refine lv_iload_n (pc := 6) hx hb dX6_setWeights_6 rfl (lv_at hl 2 rfl) ?_
  refine w_put (ci := 6) (v := .int (nI y)) (ty := .int) (C := RX6) (T := TX6) (N := 5) (index := 23) (ws' := [(a 24, .inr (6, [.ref (a 25), .ref (a 26), .int (nI x), .int (nI y), .long (lN mk)]))]) (pc := 7) hx hb hts inX6 tyX6 tyX6_ok nmX6 hown hK hP hD hS 0 rfl rfl 3 (by decide) (hts _ wd_1_172) (fun _ h9 => h9) rfl (by decide +kernel) rfl rfl (Nat.le_of_ble_eq_true rfl) rfl dX6_setWeights_7 (fun H locs hP hD hS => ?_)
  exact hRet _ _ _ _ _ hP hD hS dX6_setWeights_10 rfl

set_option maxHeartbeats 4000000 in
set_option maxRecDepth 100000 in
theorem c_X6_markOf (l : Launch) (g : Gx) (a : Nat → Nat) (ow eg mk : Nat) (k : Nat) (hk : k < 64) (hmk : mk < 2 ^ 64) : Mi l g yX6_markOf cX6_markOf 2 ((some .int)) { frames := 0, cells := 0, slots := 0, locals := 0 } [.ref (a 24), .int (nI k)] [(a 24, .inr (6, [.ref (a 25), .ref (a 26), .int (nI ow), .int (nI eg), .long (lN mk)]))] (fun rv_ wv_ => rv_ = nI (mk / 2 ^ k % 2) ∧ wv_ = [(a 24, .inr (6, [.ref (a 25), .ref (a 26), .int (nI ow), .int (nI eg), .long (lN mk)]))]) := by
  refine Mi.opn (own := RX6) (lv := [(0, .ref (a 24)), (1, .int (nI k))]) (plainFor_of_name (by decide)) rfl rfl (Nat.le_of_ble_eq_true rfl) ?_
  intro p e R s m args below meth c A Q hx hb hml hown hts hA hK hX hRf hRl hRet H locs ls hP hD hS hl
  refine lv_aload_n (pc := 0) hx hb dX6_markOf_0 rfl (lv_at hl 0 rfl) ?_
  refine va_get (D := g.1) (ci := 6) (v := .long (lN mk)) (C := RX6) (T := TX6) (N := 5) (index := 26) (pc := 1) hx hb hts inX6 hown hK hP 0 rfl rfl 4 (by decide) (hts _ wd_1_173) (fun _ h9 => h9) rfl dX6_markOf_1 ?_
  refine lv_iload_n (pc := 4) hx hb dX6_markOf_4 rfl (lv_at hl 1 rfl) ?_
  refine lv_lushr (v := lN (mk / 2 ^ k)) (pc := 5) hx hb dX6_markOf_5 (wb_shr hmk hk) ?_
  refine lv_lconst (v := (1 : Int64)) (pc := 6) hx hb dX6_markOf_6 (by decide) ?_
  refine w_land (z := lN (mk / 2 ^ k % 2)) (pc := 7) hx hb dX6_markOf_7 (wb_a1 (Nat.lt_of_le_of_lt (Nat.div_le_self _ _) hmk)) ?_
  refine lv_l2i (v := nI (mk / 2 ^ k % 2)) (pc := 8) hx hb dX6_markOf_8 (lN_i _) ?_
  exact hRet _ _ _ _ _ _ hP hD hS dX6_markOf_9 ⟨rfl, rfl⟩

set_option maxHeartbeats 4000000 in
set_option maxRecDepth 100000 in
theorem c_X6_addMarks (l : Launch) (g : Gx) (a : Nat → Nat) (cs w : Nat → Nat) (ow eg mk : Nat) (lo h2 c1 ab z1 o1 : Nat) (hlo : lo < 256) (hh2 : h2 < 256) (hne : lo ≠ h2) (hc1 : c1 < 64) (hb1 : cs lo ≤ 2 ^ 30) (hb2 : cs h2 ≤ 2 ^ 30) (hab : ab ≤ 2 ^ 20) : Mv l g yX6_addMarks cX6_addMarks 14 (none) { frames := 0, cells := 0, slots := 0, locals := 0 } [.ref (a 24), .int (nI lo), .int (nI h2), .int (nI c1), .int (nI ab), .int (nI z1), .int (nI o1)] [(a 24, .inr (6, [.ref (a 25), .ref (a 26), .int (nI ow), .int (nI eg), .long (lN mk)])), (a 25, .inl (gI g, 256, .inl (nF cs))), (a 26, .inl (gJ g, 256, .inr (.inl (lF w))))] (fun wv_ => (wv_ = [(a 24, .inr (6, [.ref (a 25), .ref (a 26), .int (nI ow), .int (nI eg), .long (lN mk)])), (a 25, .inl (gI g, 256, .inl (nF (up (up cs lo (z1 + (if cs lo ≤ cs h2 + ab then cs lo else cs h2 + ab))) h2 (o1 + (if cs lo + ab ≤ cs h2 then cs lo + ab else cs h2)))))), (a 26, .inl (gJ g, 256, .inr (.inl (lF (up (up w lo (if cs lo ≤ cs h2 + ab then w lo else w h2)) h2 ((if cs lo + ab ≤ cs h2 then w lo else w h2) ||| 2 ^ c1))))))])) 0 0 := by
  refine Mv.opn (own := RX6) (lv := [(0, .ref (a 24)), (1, .int (nI lo)), (2, .int (nI h2)), (3, .int (nI c1)), (4, .int (nI ab)), (5, .int (nI z1)), (6, .int (nI o1))]) (plainFor_of_name (by decide)) rfl rfl (Nat.le_of_ble_eq_true rfl) ?_
  intro p e R s m args below meth c A Q hx hb hml hown hts hA hK hX hRf hRl hRet H locs ls hP hD hS hl
  refine lv_aload_n (pc := 0) hx hb dX6_addMarks_0 rfl (lv_at hl 0 rfl) ?_
  refine va_get (D := g.1) (ci := 6) (v := .ref (a 25)) (C := RX6) (T := TX6) (N := 5) (index := 11) (pc := 1) hx hb hts inX6 hown hK hP 0 rfl rfl 0 (by decide) (hts _ wd_1_169) (fun _ h9 => h9) rfl dX6_addMarks_1 ?_
  refine lv_iload_n (pc := 4) hx hb dX6_addMarks_4 rfl (lv_at hl 1 rfl) ?_
  refine w_iald (f := nF cs) (k := lo) (z := nI (cs lo)) (pc := 5) hx hb hK hP 1 rfl (by omega) (by first | decide | assumption) (rfl) dX6_addMarks_5 ?_
  refine lv_istore (lv' := [(7, .int (nI (cs lo))), (0, .ref (a 24)), (1, .int (nI lo)), (2, .int (nI h2)), (3, .int (nI c1)), (4, .int (nI ab)), (5, .int (nI z1)), (6, .int (nI o1))]) (pc := 6) hx hb dX6_addMarks_6 hl (by decide) rfl (fun ls hl => ?_)
  refine lv_aload_n (pc := 8) hx hb dX6_addMarks_8 rfl (lv_at hl 1 rfl) ?_
  refine va_get (D := g.1) (ci := 6) (v := .ref (a 25)) (C := RX6) (T := TX6) (N := 5) (index := 11) (pc := 9) hx hb hts inX6 hown hK hP 0 rfl rfl 0 (by decide) (hts _ wd_1_169) (fun _ h9 => h9) rfl dX6_addMarks_9 ?_
  refine lv_iload_n (pc := 12) hx hb dX6_addMarks_12 rfl (lv_at hl 3 rfl) ?_
  refine w_iald (f := nF cs) (k := h2) (z := nI (cs h2)) (pc := 13) hx hb hK hP 1 rfl (by omega) (by first | decide | assumption) (rfl) dX6_addMarks_13 ?_
  refine lv_istore (lv' := [(8, .int (nI (cs h2))), (7, .int (nI (cs lo))), (0, .ref (a 24)), (1, .int (nI lo)), (2, .int (nI h2)), (3, .int (nI c1)), (4, .int (nI ab)), (5, .int (nI z1)), (6, .int (nI o1))]) (pc := 14) hx hb dX6_addMarks_14 hl (by decide) rfl (fun ls hl => ?_)
  refine lv_aload_n (pc := 16) hx hb dX6_addMarks_16 rfl (lv_at hl 2 rfl) ?_
  refine va_get (D := g.1) (ci := 6) (v := .ref (a 26)) (C := RX6) (T := TX6) (N := 5) (index := 15) (pc := 17) hx hb hts inX6 hown hK hP 0 rfl rfl 1 (by decide) (hts _ wd_1_170) (fun _ h9 => h9) rfl dX6_addMarks_17 ?_
  refine lv_iload_n (pc := 20) hx hb dX6_addMarks_20 rfl (lv_at hl 3 rfl) ?_
  refine w_lald (f := lF w) (k := lo) (z := lN (w lo)) (pc := 21) hx hb hK hP 2 rfl (by omega) (by first | decide | assumption) (rfl) dX6_addMarks_21 ?_
  refine lv_lstore (lv' := [(9, .long (lN (w lo))), (8, .int (nI (cs h2))), (7, .int (nI (cs lo))), (0, .ref (a 24)), (1, .int (nI lo)), (2, .int (nI h2)), (3, .int (nI c1)), (4, .int (nI ab)), (5, .int (nI z1)), (6, .int (nI o1))]) (pc := 22) hx hb dX6_addMarks_22 hl (by decide) rfl (fun ls hl => ?_)
  refine lv_aload_n (pc := 24) hx hb dX6_addMarks_24 rfl (lv_at hl 3 rfl) ?_
  refine va_get (D := g.1) (ci := 6) (v := .ref (a 26)) (C := RX6) (T := TX6) (N := 5) (index := 15) (pc := 25) hx hb hts inX6 hown hK hP 0 rfl rfl 1 (by decide) (hts _ wd_1_170) (fun _ h9 => h9) rfl dX6_addMarks_25 ?_
  refine lv_iload_n (pc := 28) hx hb dX6_addMarks_28 rfl (lv_at hl 5 rfl) ?_
  refine w_lald (f := lF w) (k := h2) (z := lN (w h2)) (pc := 29) hx hb hK hP 2 rfl (by omega) (by first | decide | assumption) (rfl) dX6_addMarks_29 ?_
  refine lv_lstore (lv' := [(11, .long (lN (w h2))), (9, .long (lN (w lo))), (8, .int (nI (cs h2))), (7, .int (nI (cs lo))), (0, .ref (a 24)), (1, .int (nI lo)), (2, .int (nI h2)), (3, .int (nI c1)), (4, .int (nI ab)), (5, .int (nI z1)), (6, .int (nI o1))]) (pc := 30) hx hb dX6_addMarks_30 hl (by decide) rfl (fun ls hl => ?_)
  refine lv_iload (pc := 32) hx hb dX6_addMarks_32 (lv_at hl 3 rfl) ?_
  refine lv_iload (pc := 34) hx hb dX6_addMarks_34 (lv_at hl 2 rfl) ?_
  refine lv_iload (pc := 36) hx hb dX6_addMarks_36 (lv_at hl 8 rfl) ?_
  refine w_iadd (z := nI ((cs h2) + ab)) (pc := 38) hx hb dX6_addMarks_38 (nI_add (cs h2) ab) ?_
  refine n_icmp_gt (tgt := 46) (pc := 39) hx hb (cs lo) ((cs h2) + ab) (by omega) (by omega) dX6_addMarks_39 (by decide) (fun h_39 => ?_) (fun h_39 => ?_)
  · skip
    refine lv_iconst (v := (0 : Int32)) (pc := 46) hx hb dX6_addMarks_46 (by decide) ?_
    refine lv_istore (lv' := [(13, .int (0 : Int32)), (11, .long (lN (w h2))), (9, .long (lN (w lo))), (8, .int (nI (cs h2))), (7, .int (nI (cs lo))), (0, .ref (a 24)), (1, .int (nI lo)), (2, .int (nI h2)), (3, .int (nI c1)), (4, .int (nI ab)), (5, .int (nI z1)), (6, .int (nI o1))]) (pc := 47) hx hb dX6_addMarks_47 hl (by decide) rfl (fun ls hl => ?_)
    refine lv_aload_n (pc := 49) hx hb dX6_addMarks_49 rfl (lv_at hl 5 rfl) ?_
    refine va_get (D := g.1) (ci := 6) (v := .ref (a 25)) (C := RX6) (T := TX6) (N := 5) (index := 11) (pc := 50) hx hb hts inX6 hown hK hP 0 rfl rfl 0 (by decide) (hts _ wd_1_169) (fun _ h9 => h9) rfl dX6_addMarks_50 ?_
    refine lv_iload_n (pc := 53) hx hb dX6_addMarks_53 rfl (lv_at hl 6 rfl) ?_
    refine lv_iload (pc := 54) hx hb dX6_addMarks_54 (lv_at hl 10 rfl) ?_
    refine lv_iload (pc := 56) hx hb dX6_addMarks_56 (lv_at hl 0 rfl) ?_
    refine n_if_eq (tgt := 66) (pc := 58) hx hb 0 (by omega) dX6_addMarks_58 (by decide) (fun h_58 => ?_) (fun h_58 => ?_)
    · skip
      refine lv_iload (pc := 66) hx hb dX6_addMarks_66 (lv_at hl 3 rfl) ?_
      refine lv_iload (pc := 68) hx hb dX6_addMarks_68 (lv_at hl 9 rfl) ?_
      refine w_iadd (z := nI ((cs h2) + ab)) (pc := 70) hx hb dX6_addMarks_70 (nI_add (cs h2) ab) ?_
      refine w_iadd (z := nI (z1 + ((cs h2) + ab))) (pc := 71) hx hb dX6_addMarks_71 (nI_add z1 ((cs h2) + ab)) ?_
      refine w_iast (f := nF cs) (f' := nF (up cs lo (z1 + ((cs h2) + ab)))) (k := lo) (ws' := [(a 24, .inr (6, [.ref (a 25), .ref (a 26), .int (nI ow), .int (nI eg), .long (lN mk)])), (a 25, .inl (gI g, 256, .inl (nF (up cs lo (z1 + ((cs h2) + ab)))))), (a 26, .inl (gJ g, 256, .inr (.inl (lF w))))]) (pc := 72) hx hb hK hP hD hS 1 rfl (by omega) (by first | decide | assumption) (nF_up _ _ _) rfl dX6_addMarks_72 (fun H locs hP hD hS => ?_)
      refine lv_aload_n (pc := 73) hx hb dX6_addMarks_73 rfl (lv_at hl 5 rfl) ?_
      refine va_get (D := g.1) (ci := 6) (v := .ref (a 26)) (C := RX6) (T := TX6) (N := 5) (index := 15) (pc := 74) hx hb hts inX6 hown hK hP 0 rfl rfl 1 (by decide) (hts _ wd_1_170) (fun _ h9 => h9) rfl dX6_addMarks_74 ?_
      refine lv_iload_n (pc := 77) hx hb dX6_addMarks_77 rfl (lv_at hl 6 rfl) ?_
      refine lv_iload (pc := 78) hx hb dX6_addMarks_78 (lv_at hl 0 rfl) ?_
      refine n_if_eq (tgt := 88) (pc := 80) hx hb 0 (by omega) dX6_addMarks_80 (by decide) (fun h_80 => ?_) (fun h_80 => ?_)
      · skip
        refine lv_lload (pc := 88) hx hb dX6_addMarks_88 (lv_at hl 1 rfl) ?_
        refine w_last (f := lF w) (f' := lF (up w lo (w h2))) (k := lo) (ws' := [(a 24, .inr (6, [.ref (a 25), .ref (a 26), .int (nI ow), .int (nI eg), .long (lN mk)])), (a 25, .inl (gI g, 256, .inl (nF (up cs lo (z1 + ((cs h2) + ab)))))), (a 26, .inl (gJ g, 256, .inr (.inl (lF (up w lo (w h2))))))]) (pc := 90) hx hb hK hP hD hS 2 rfl (by omega) (by first | decide | assumption) (lF_up _ _ _) rfl dX6_addMarks_90 (fun H locs hP hD hS => ?_)
        refine lv_iload (pc := 91) hx hb dX6_addMarks_91 (lv_at hl 4 rfl) ?_
        refine lv_iload (pc := 93) hx hb dX6_addMarks_93 (lv_at hl 9 rfl) ?_
        refine w_iadd (z := nI ((cs lo) + ab)) (pc := 95) hx hb dX6_addMarks_95 (nI_add (cs lo) ab) ?_
        refine lv_iload (pc := 96) hx hb dX6_addMarks_96 (lv_at hl 3 rfl) ?_
        refine n_icmp_gt (tgt := 105) (pc := 98) hx hb ((cs lo) + ab) (cs h2) (by omega) (by omega) dX6_addMarks_98 (by decide) (fun h_98 => ?_) (fun h_98 => ?_)
        · skip
          refine lv_iconst (v := (0 : Int32)) (pc := 105) hx hb dX6_addMarks_105 (by decide) ?_
          refine lv_istore (lv' := [(13, .int (0 : Int32)), (11, .long (lN (w h2))), (9, .long (lN (w lo))), (8, .int (nI (cs h2))), (7, .int (nI (cs lo))), (0, .ref (a 24)), (1, .int (nI lo)), (2, .int (nI h2)), (3, .int (nI c1)), (4, .int (nI ab)), (5, .int (nI z1)), (6, .int (nI o1))]) (pc := 106) hx hb dX6_addMarks_106 hl (by decide) rfl (fun ls hl => ?_)
          refine lv_aload_n (pc := 108) hx hb dX6_addMarks_108 rfl (lv_at hl 5 rfl) ?_
          refine va_get (D := g.1) (ci := 6) (v := .ref (a 25)) (C := RX6) (T := TX6) (N := 5) (index := 11) (pc := 109) hx hb hts inX6 hown hK hP 0 rfl rfl 0 (by decide) (hts _ wd_1_169) (fun _ h9 => h9) rfl dX6_addMarks_109 ?_
          refine lv_iload_n (pc := 112) hx hb dX6_addMarks_112 rfl (lv_at hl 7 rfl) ?_
          refine lv_iload (pc := 113) hx hb dX6_addMarks_113 (lv_at hl 11 rfl) ?_
          refine lv_iload (pc := 115) hx hb dX6_addMarks_115 (lv_at hl 0 rfl) ?_
          refine n_if_eq (tgt := 128) (pc := 117) hx hb 0 (by omega) dX6_addMarks_117 (by decide) (fun h_117 => ?_) (fun h_117 => ?_)
          · skip
            refine lv_iload (pc := 128) hx hb dX6_addMarks_128 (lv_at hl 3 rfl) ?_
            refine w_iadd (z := nI (o1 + (cs h2))) (pc := 130) hx hb dX6_addMarks_130 (nI_add o1 (cs h2)) ?_
            refine w_iast (f := nF (up cs lo (z1 + ((cs h2) + ab)))) (f' := nF (up (up cs lo (z1 + ((cs h2) + ab))) h2 (o1 + (cs h2)))) (k := h2) (ws' := [(a 24, .inr (6, [.ref (a 25), .ref (a 26), .int (nI ow), .int (nI eg), .long (lN mk)])), (a 25, .inl (gI g, 256, .inl (nF (up (up cs lo (z1 + ((cs h2) + ab))) h2 (o1 + (cs h2)))))), (a 26, .inl (gJ g, 256, .inr (.inl (lF (up w lo (w h2))))))]) (pc := 131) hx hb hK hP hD hS 1 rfl (by omega) (by first | decide | assumption) (nF_up _ _ _) rfl dX6_addMarks_131 (fun H locs hP hD hS => ?_)
            refine lv_aload_n (pc := 132) hx hb dX6_addMarks_132 rfl (lv_at hl 5 rfl) ?_
            refine va_get (D := g.1) (ci := 6) (v := .ref (a 26)) (C := RX6) (T := TX6) (N := 5) (index := 15) (pc := 133) hx hb hts inX6 hown hK hP 0 rfl rfl 1 (by decide) (hts _ wd_1_170) (fun _ h9 => h9) rfl dX6_addMarks_133 ?_
            refine lv_iload_n (pc := 136) hx hb dX6_addMarks_136 rfl (lv_at hl 7 rfl) ?_
            refine lv_iload (pc := 137) hx hb dX6_addMarks_137 (lv_at hl 0 rfl) ?_
            refine n_if_eq (tgt := 147) (pc := 139) hx hb 0 (by omega) dX6_addMarks_139 (by decide) (fun h_139 => ?_) (fun h_139 => ?_)
            · skip
              refine lv_lload (pc := 147) hx hb dX6_addMarks_147 (lv_at hl 1 rfl) ?_
              refine lv_lconst (v := (1 : Int64)) (pc := 149) hx hb dX6_addMarks_149 (by decide) ?_
              refine lv_iload_n (pc := 150) hx hb dX6_addMarks_150 rfl (lv_at hl 8 rfl) ?_
              refine lv_lshl (v := lN (2 ^ c1)) (pc := 151) hx hb dX6_addMarks_151 (sh1L hc1) ?_
              refine w_lor (z := lN ((w h2) ||| (2 ^ c1))) (pc := 152) hx hb dX6_addMarks_152 (fb_orL _ _) ?_
              refine w_last (f := lF (up w lo (w h2))) (f' := lF (up (up w lo (w h2)) h2 ((w h2) ||| (2 ^ c1)))) (k := h2) (ws' := [(a 24, .inr (6, [.ref (a 25), .ref (a 26), .int (nI ow), .int (nI eg), .long (lN mk)])), (a 25, .inl (gI g, 256, .inl (nF (up (up cs lo (z1 + ((cs h2) + ab))) h2 (o1 + (cs h2)))))), (a 26, .inl (gJ g, 256, .inr (.inl (lF (up (up w lo (w h2)) h2 ((w h2) ||| (2 ^ c1)))))))]) (pc := 153) hx hb hK hP hD hS 2 rfl (by omega) (by first | decide | assumption) (lF_up _ _ _) rfl dX6_addMarks_153 (fun H locs hP hD hS => ?_)
              exact hRet _ _ _ _ _ hP hD hS dX6_addMarks_154 (by simp only [if_pos h_39, if_neg (Nat.not_le.mpr h_39), if_pos h_58, if_pos h_80, if_pos h_98, if_neg (Nat.not_le.mpr h_98), if_pos h_117, if_pos h_139])
            · skip
              exfalso; omega
          · skip
            exfalso; omega
        · skip
          refine lv_iconst (v := (1 : Int32)) (pc := 101) hx hb dX6_addMarks_101 (by decide) ?_
          refine lv_goto (tgt := 106) (pc := 102) hx hb dX6_addMarks_102 (by decide) ?_
          refine lv_istore (lv' := [(13, .int (1 : Int32)), (11, .long (lN (w h2))), (9, .long (lN (w lo))), (8, .int (nI (cs h2))), (7, .int (nI (cs lo))), (0, .ref (a 24)), (1, .int (nI lo)), (2, .int (nI h2)), (3, .int (nI c1)), (4, .int (nI ab)), (5, .int (nI z1)), (6, .int (nI o1))]) (pc := 106) hx hb dX6_addMarks_106 hl (by decide) rfl (fun ls hl => ?_)
          refine lv_aload_n (pc := 108) hx hb dX6_addMarks_108 rfl (lv_at hl 5 rfl) ?_
          refine va_get (D := g.1) (ci := 6) (v := .ref (a 25)) (C := RX6) (T := TX6) (N := 5) (index := 11) (pc := 109) hx hb hts inX6 hown hK hP 0 rfl rfl 0 (by decide) (hts _ wd_1_169) (fun _ h9 => h9) rfl dX6_addMarks_109 ?_
          refine lv_iload_n (pc := 112) hx hb dX6_addMarks_112 rfl (lv_at hl 7 rfl) ?_
          refine lv_iload (pc := 113) hx hb dX6_addMarks_113 (lv_at hl 11 rfl) ?_
          refine lv_iload (pc := 115) hx hb dX6_addMarks_115 (lv_at hl 0 rfl) ?_
          refine n_if_eq (tgt := 128) (pc := 117) hx hb 1 (by omega) dX6_addMarks_117 (by decide) (fun h_117 => ?_) (fun h_117 => ?_)
          · skip
            exfalso; omega
          · skip
            refine lv_iload (pc := 120) hx hb dX6_addMarks_120 (lv_at hl 4 rfl) ?_
            refine lv_iload (pc := 122) hx hb dX6_addMarks_122 (lv_at hl 9 rfl) ?_
            refine w_iadd (z := nI ((cs lo) + ab)) (pc := 124) hx hb dX6_addMarks_124 (nI_add (cs lo) ab) ?_
            refine lv_goto (tgt := 130) (pc := 125) hx hb dX6_addMarks_125 (by decide) ?_
            refine w_iadd (z := nI (o1 + ((cs lo) + ab))) (pc := 130) hx hb dX6_addMarks_130 (nI_add o1 ((cs lo) + ab)) ?_
            refine w_iast (f := nF (up cs lo (z1 + ((cs h2) + ab)))) (f' := nF (up (up cs lo (z1 + ((cs h2) + ab))) h2 (o1 + ((cs lo) + ab)))) (k := h2) (ws' := [(a 24, .inr (6, [.ref (a 25), .ref (a 26), .int (nI ow), .int (nI eg), .long (lN mk)])), (a 25, .inl (gI g, 256, .inl (nF (up (up cs lo (z1 + ((cs h2) + ab))) h2 (o1 + ((cs lo) + ab)))))), (a 26, .inl (gJ g, 256, .inr (.inl (lF (up w lo (w h2))))))]) (pc := 131) hx hb hK hP hD hS 1 rfl (by omega) (by first | decide | assumption) (nF_up _ _ _) rfl dX6_addMarks_131 (fun H locs hP hD hS => ?_)
            refine lv_aload_n (pc := 132) hx hb dX6_addMarks_132 rfl (lv_at hl 5 rfl) ?_
            refine va_get (D := g.1) (ci := 6) (v := .ref (a 26)) (C := RX6) (T := TX6) (N := 5) (index := 15) (pc := 133) hx hb hts inX6 hown hK hP 0 rfl rfl 1 (by decide) (hts _ wd_1_170) (fun _ h9 => h9) rfl dX6_addMarks_133 ?_
            refine lv_iload_n (pc := 136) hx hb dX6_addMarks_136 rfl (lv_at hl 7 rfl) ?_
            refine lv_iload (pc := 137) hx hb dX6_addMarks_137 (lv_at hl 0 rfl) ?_
            refine n_if_eq (tgt := 147) (pc := 139) hx hb 1 (by omega) dX6_addMarks_139 (by decide) (fun h_139 => ?_) (fun h_139 => ?_)
            · skip
              exfalso; omega
            · skip
              refine lv_lload (pc := 142) hx hb dX6_addMarks_142 (lv_at hl 2 rfl) ?_
              refine lv_goto (tgt := 149) (pc := 144) hx hb dX6_addMarks_144 (by decide) ?_
              refine lv_lconst (v := (1 : Int64)) (pc := 149) hx hb dX6_addMarks_149 (by decide) ?_
              refine lv_iload_n (pc := 150) hx hb dX6_addMarks_150 rfl (lv_at hl 8 rfl) ?_
              refine lv_lshl (v := lN (2 ^ c1)) (pc := 151) hx hb dX6_addMarks_151 (sh1L hc1) ?_
              refine w_lor (z := lN ((w lo) ||| (2 ^ c1))) (pc := 152) hx hb dX6_addMarks_152 (fb_orL _ _) ?_
              refine w_last (f := lF (up w lo (w h2))) (f' := lF (up (up w lo (w h2)) h2 ((w lo) ||| (2 ^ c1)))) (k := h2) (ws' := [(a 24, .inr (6, [.ref (a 25), .ref (a 26), .int (nI ow), .int (nI eg), .long (lN mk)])), (a 25, .inl (gI g, 256, .inl (nF (up (up cs lo (z1 + ((cs h2) + ab))) h2 (o1 + ((cs lo) + ab)))))), (a 26, .inl (gJ g, 256, .inr (.inl (lF (up (up w lo (w h2)) h2 ((w lo) ||| (2 ^ c1)))))))]) (pc := 153) hx hb hK hP hD hS 2 rfl (by omega) (by first | decide | assumption) (lF_up _ _ _) rfl dX6_addMarks_153 (fun H locs hP hD hS => ?_)
              exact hRet _ _ _ _ _ hP hD hS dX6_addMarks_154 (by simp only [if_pos h_39, if_neg (Nat.not_le.mpr h_39), if_pos h_58, if_pos h_80, if_pos h_98, if_neg (Nat.not_lt.mpr h_98), if_neg (Nat.ne_of_gt h_117), if_pos h_117, if_neg (Nat.ne_of_gt h_139), if_pos h_139])
      · skip
        exfalso; omega
    · skip
      exfalso; omega
  · skip
    refine lv_iconst (v := (1 : Int32)) (pc := 42) hx hb dX6_addMarks_42 (by decide) ?_
    refine lv_goto (tgt := 47) (pc := 43) hx hb dX6_addMarks_43 (by decide) ?_
    refine lv_istore (lv' := [(13, .int (1 : Int32)), (11, .long (lN (w h2))), (9, .long (lN (w lo))), (8, .int (nI (cs h2))), (7, .int (nI (cs lo))), (0, .ref (a 24)), (1, .int (nI lo)), (2, .int (nI h2)), (3, .int (nI c1)), (4, .int (nI ab)), (5, .int (nI z1)), (6, .int (nI o1))]) (pc := 47) hx hb dX6_addMarks_47 hl (by decide) rfl (fun ls hl => ?_)
    refine lv_aload_n (pc := 49) hx hb dX6_addMarks_49 rfl (lv_at hl 5 rfl) ?_
    refine va_get (D := g.1) (ci := 6) (v := .ref (a 25)) (C := RX6) (T := TX6) (N := 5) (index := 11) (pc := 50) hx hb hts inX6 hown hK hP 0 rfl rfl 0 (by decide) (hts _ wd_1_169) (fun _ h9 => h9) rfl dX6_addMarks_50 ?_
    refine lv_iload_n (pc := 53) hx hb dX6_addMarks_53 rfl (lv_at hl 6 rfl) ?_
    refine lv_iload (pc := 54) hx hb dX6_addMarks_54 (lv_at hl 10 rfl) ?_
    refine lv_iload (pc := 56) hx hb dX6_addMarks_56 (lv_at hl 0 rfl) ?_
    refine n_if_eq (tgt := 66) (pc := 58) hx hb 1 (by omega) dX6_addMarks_58 (by decide) (fun h_58 => ?_) (fun h_58 => ?_)
    · skip
      exfalso; omega
    · skip
      refine lv_iload (pc := 61) hx hb dX6_addMarks_61 (lv_at hl 4 rfl) ?_
      refine lv_goto (tgt := 71) (pc := 63) hx hb dX6_addMarks_63 (by decide) ?_
      refine w_iadd (z := nI (z1 + (cs lo))) (pc := 71) hx hb dX6_addMarks_71 (nI_add z1 (cs lo)) ?_
      refine w_iast (f := nF cs) (f' := nF (up cs lo (z1 + (cs lo)))) (k := lo) (ws' := [(a 24, .inr (6, [.ref (a 25), .ref (a 26), .int (nI ow), .int (nI eg), .long (lN mk)])), (a 25, .inl (gI g, 256, .inl (nF (up cs lo (z1 + (cs lo)))))), (a 26, .inl (gJ g, 256, .inr (.inl (lF w))))]) (pc := 72) hx hb hK hP hD hS 1 rfl (by omega) (by first | decide | assumption) (nF_up _ _ _) rfl dX6_addMarks_72 (fun H locs hP hD hS => ?_)
      refine lv_aload_n (pc := 73) hx hb dX6_addMarks_73 rfl (lv_at hl 5 rfl) ?_
      refine va_get (D := g.1) (ci := 6) (v := .ref (a 26)) (C := RX6) (T := TX6) (N := 5) (index := 15) (pc := 74) hx hb hts inX6 hown hK hP 0 rfl rfl 1 (by decide) (hts _ wd_1_170) (fun _ h9 => h9) rfl dX6_addMarks_74 ?_
      refine lv_iload_n (pc := 77) hx hb dX6_addMarks_77 rfl (lv_at hl 6 rfl) ?_
      refine lv_iload (pc := 78) hx hb dX6_addMarks_78 (lv_at hl 0 rfl) ?_
      refine n_if_eq (tgt := 88) (pc := 80) hx hb 1 (by omega) dX6_addMarks_80 (by decide) (fun h_80 => ?_) (fun h_80 => ?_)
      · skip
        exfalso; omega
      · skip
        refine lv_lload (pc := 83) hx hb dX6_addMarks_83 (lv_at hl 2 rfl) ?_
        refine lv_goto (tgt := 90) (pc := 85) hx hb dX6_addMarks_85 (by decide) ?_
        refine w_last (f := lF w) (f' := lF (up w lo (w lo))) (k := lo) (ws' := [(a 24, .inr (6, [.ref (a 25), .ref (a 26), .int (nI ow), .int (nI eg), .long (lN mk)])), (a 25, .inl (gI g, 256, .inl (nF (up cs lo (z1 + (cs lo)))))), (a 26, .inl (gJ g, 256, .inr (.inl (lF (up w lo (w lo))))))]) (pc := 90) hx hb hK hP hD hS 2 rfl (by omega) (by first | decide | assumption) (lF_up _ _ _) rfl dX6_addMarks_90 (fun H locs hP hD hS => ?_)
        refine lv_iload (pc := 91) hx hb dX6_addMarks_91 (lv_at hl 4 rfl) ?_
        refine lv_iload (pc := 93) hx hb dX6_addMarks_93 (lv_at hl 9 rfl) ?_
        refine w_iadd (z := nI ((cs lo) + ab)) (pc := 95) hx hb dX6_addMarks_95 (nI_add (cs lo) ab) ?_
        refine lv_iload (pc := 96) hx hb dX6_addMarks_96 (lv_at hl 3 rfl) ?_
        refine n_icmp_gt (tgt := 105) (pc := 98) hx hb ((cs lo) + ab) (cs h2) (by omega) (by omega) dX6_addMarks_98 (by decide) (fun h_98 => ?_) (fun h_98 => ?_)
        · skip
          refine lv_iconst (v := (0 : Int32)) (pc := 105) hx hb dX6_addMarks_105 (by decide) ?_
          refine lv_istore (lv' := [(13, .int (0 : Int32)), (11, .long (lN (w h2))), (9, .long (lN (w lo))), (8, .int (nI (cs h2))), (7, .int (nI (cs lo))), (0, .ref (a 24)), (1, .int (nI lo)), (2, .int (nI h2)), (3, .int (nI c1)), (4, .int (nI ab)), (5, .int (nI z1)), (6, .int (nI o1))]) (pc := 106) hx hb dX6_addMarks_106 hl (by decide) rfl (fun ls hl => ?_)
          refine lv_aload_n (pc := 108) hx hb dX6_addMarks_108 rfl (lv_at hl 5 rfl) ?_
          refine va_get (D := g.1) (ci := 6) (v := .ref (a 25)) (C := RX6) (T := TX6) (N := 5) (index := 11) (pc := 109) hx hb hts inX6 hown hK hP 0 rfl rfl 0 (by decide) (hts _ wd_1_169) (fun _ h9 => h9) rfl dX6_addMarks_109 ?_
          refine lv_iload_n (pc := 112) hx hb dX6_addMarks_112 rfl (lv_at hl 7 rfl) ?_
          refine lv_iload (pc := 113) hx hb dX6_addMarks_113 (lv_at hl 11 rfl) ?_
          refine lv_iload (pc := 115) hx hb dX6_addMarks_115 (lv_at hl 0 rfl) ?_
          refine n_if_eq (tgt := 128) (pc := 117) hx hb 0 (by omega) dX6_addMarks_117 (by decide) (fun h_117 => ?_) (fun h_117 => ?_)
          · skip
            refine lv_iload (pc := 128) hx hb dX6_addMarks_128 (lv_at hl 3 rfl) ?_
            refine w_iadd (z := nI (o1 + (cs h2))) (pc := 130) hx hb dX6_addMarks_130 (nI_add o1 (cs h2)) ?_
            refine w_iast (f := nF (up cs lo (z1 + (cs lo)))) (f' := nF (up (up cs lo (z1 + (cs lo))) h2 (o1 + (cs h2)))) (k := h2) (ws' := [(a 24, .inr (6, [.ref (a 25), .ref (a 26), .int (nI ow), .int (nI eg), .long (lN mk)])), (a 25, .inl (gI g, 256, .inl (nF (up (up cs lo (z1 + (cs lo))) h2 (o1 + (cs h2)))))), (a 26, .inl (gJ g, 256, .inr (.inl (lF (up w lo (w lo))))))]) (pc := 131) hx hb hK hP hD hS 1 rfl (by omega) (by first | decide | assumption) (nF_up _ _ _) rfl dX6_addMarks_131 (fun H locs hP hD hS => ?_)
            refine lv_aload_n (pc := 132) hx hb dX6_addMarks_132 rfl (lv_at hl 5 rfl) ?_
            refine va_get (D := g.1) (ci := 6) (v := .ref (a 26)) (C := RX6) (T := TX6) (N := 5) (index := 15) (pc := 133) hx hb hts inX6 hown hK hP 0 rfl rfl 1 (by decide) (hts _ wd_1_170) (fun _ h9 => h9) rfl dX6_addMarks_133 ?_
            refine lv_iload_n (pc := 136) hx hb dX6_addMarks_136 rfl (lv_at hl 7 rfl) ?_
            refine lv_iload (pc := 137) hx hb dX6_addMarks_137 (lv_at hl 0 rfl) ?_
            refine n_if_eq (tgt := 147) (pc := 139) hx hb 0 (by omega) dX6_addMarks_139 (by decide) (fun h_139 => ?_) (fun h_139 => ?_)
            · skip
              refine lv_lload (pc := 147) hx hb dX6_addMarks_147 (lv_at hl 1 rfl) ?_
              refine lv_lconst (v := (1 : Int64)) (pc := 149) hx hb dX6_addMarks_149 (by decide) ?_
              refine lv_iload_n (pc := 150) hx hb dX6_addMarks_150 rfl (lv_at hl 8 rfl) ?_
              refine lv_lshl (v := lN (2 ^ c1)) (pc := 151) hx hb dX6_addMarks_151 (sh1L hc1) ?_
              refine w_lor (z := lN ((w h2) ||| (2 ^ c1))) (pc := 152) hx hb dX6_addMarks_152 (fb_orL _ _) ?_
              refine w_last (f := lF (up w lo (w lo))) (f' := lF (up (up w lo (w lo)) h2 ((w h2) ||| (2 ^ c1)))) (k := h2) (ws' := [(a 24, .inr (6, [.ref (a 25), .ref (a 26), .int (nI ow), .int (nI eg), .long (lN mk)])), (a 25, .inl (gI g, 256, .inl (nF (up (up cs lo (z1 + (cs lo))) h2 (o1 + (cs h2)))))), (a 26, .inl (gJ g, 256, .inr (.inl (lF (up (up w lo (w lo)) h2 ((w h2) ||| (2 ^ c1)))))))]) (pc := 153) hx hb hK hP hD hS 2 rfl (by omega) (by first | decide | assumption) (lF_up _ _ _) rfl dX6_addMarks_153 (fun H locs hP hD hS => ?_)
              exact hRet _ _ _ _ _ hP hD hS dX6_addMarks_154 (by simp only [if_pos h_39, if_neg (Nat.not_lt.mpr h_39), if_neg (Nat.ne_of_gt h_58), if_pos h_58, if_neg (Nat.ne_of_gt h_80), if_pos h_80, if_pos h_98, if_neg (Nat.not_le.mpr h_98), if_pos h_117, if_pos h_139])
            · skip
              exfalso; omega
          · skip
            exfalso; omega
        · skip
          refine lv_iconst (v := (1 : Int32)) (pc := 101) hx hb dX6_addMarks_101 (by decide) ?_
          refine lv_goto (tgt := 106) (pc := 102) hx hb dX6_addMarks_102 (by decide) ?_
          refine lv_istore (lv' := [(13, .int (1 : Int32)), (11, .long (lN (w h2))), (9, .long (lN (w lo))), (8, .int (nI (cs h2))), (7, .int (nI (cs lo))), (0, .ref (a 24)), (1, .int (nI lo)), (2, .int (nI h2)), (3, .int (nI c1)), (4, .int (nI ab)), (5, .int (nI z1)), (6, .int (nI o1))]) (pc := 106) hx hb dX6_addMarks_106 hl (by decide) rfl (fun ls hl => ?_)
          refine lv_aload_n (pc := 108) hx hb dX6_addMarks_108 rfl (lv_at hl 5 rfl) ?_
          refine va_get (D := g.1) (ci := 6) (v := .ref (a 25)) (C := RX6) (T := TX6) (N := 5) (index := 11) (pc := 109) hx hb hts inX6 hown hK hP 0 rfl rfl 0 (by decide) (hts _ wd_1_169) (fun _ h9 => h9) rfl dX6_addMarks_109 ?_
          refine lv_iload_n (pc := 112) hx hb dX6_addMarks_112 rfl (lv_at hl 7 rfl) ?_
          refine lv_iload (pc := 113) hx hb dX6_addMarks_113 (lv_at hl 11 rfl) ?_
          refine lv_iload (pc := 115) hx hb dX6_addMarks_115 (lv_at hl 0 rfl) ?_
          refine n_if_eq (tgt := 128) (pc := 117) hx hb 1 (by omega) dX6_addMarks_117 (by decide) (fun h_117 => ?_) (fun h_117 => ?_)
          · skip
            exfalso; omega
          · skip
            refine lv_iload (pc := 120) hx hb dX6_addMarks_120 (lv_at hl 4 rfl) ?_
            refine lv_iload (pc := 122) hx hb dX6_addMarks_122 (lv_at hl 9 rfl) ?_
            refine w_iadd (z := nI ((cs lo) + ab)) (pc := 124) hx hb dX6_addMarks_124 (nI_add (cs lo) ab) ?_
            refine lv_goto (tgt := 130) (pc := 125) hx hb dX6_addMarks_125 (by decide) ?_
            refine w_iadd (z := nI (o1 + ((cs lo) + ab))) (pc := 130) hx hb dX6_addMarks_130 (nI_add o1 ((cs lo) + ab)) ?_
            refine w_iast (f := nF (up cs lo (z1 + (cs lo)))) (f' := nF (up (up cs lo (z1 + (cs lo))) h2 (o1 + ((cs lo) + ab)))) (k := h2) (ws' := [(a 24, .inr (6, [.ref (a 25), .ref (a 26), .int (nI ow), .int (nI eg), .long (lN mk)])), (a 25, .inl (gI g, 256, .inl (nF (up (up cs lo (z1 + (cs lo))) h2 (o1 + ((cs lo) + ab)))))), (a 26, .inl (gJ g, 256, .inr (.inl (lF (up w lo (w lo))))))]) (pc := 131) hx hb hK hP hD hS 1 rfl (by omega) (by first | decide | assumption) (nF_up _ _ _) rfl dX6_addMarks_131 (fun H locs hP hD hS => ?_)
            refine lv_aload_n (pc := 132) hx hb dX6_addMarks_132 rfl (lv_at hl 5 rfl) ?_
            refine va_get (D := g.1) (ci := 6) (v := .ref (a 26)) (C := RX6) (T := TX6) (N := 5) (index := 15) (pc := 133) hx hb hts inX6 hown hK hP 0 rfl rfl 1 (by decide) (hts _ wd_1_170) (fun _ h9 => h9) rfl dX6_addMarks_133 ?_
            refine lv_iload_n (pc := 136) hx hb dX6_addMarks_136 rfl (lv_at hl 7 rfl) ?_
            refine lv_iload (pc := 137) hx hb dX6_addMarks_137 (lv_at hl 0 rfl) ?_
            refine n_if_eq (tgt := 147) (pc := 139) hx hb 1 (by omega) dX6_addMarks_139 (by decide) (fun h_139 => ?_) (fun h_139 => ?_)
            · skip
              exfalso; omega
            · skip
              refine lv_lload (pc := 142) hx hb dX6_addMarks_142 (lv_at hl 2 rfl) ?_
              refine lv_goto (tgt := 149) (pc := 144) hx hb dX6_addMarks_144 (by decide) ?_
              refine lv_lconst (v := (1 : Int64)) (pc := 149) hx hb dX6_addMarks_149 (by decide) ?_
              refine lv_iload_n (pc := 150) hx hb dX6_addMarks_150 rfl (lv_at hl 8 rfl) ?_
              refine lv_lshl (v := lN (2 ^ c1)) (pc := 151) hx hb dX6_addMarks_151 (sh1L hc1) ?_
              refine w_lor (z := lN ((w lo) ||| (2 ^ c1))) (pc := 152) hx hb dX6_addMarks_152 (fb_orL _ _) ?_
              refine w_last (f := lF (up w lo (w lo))) (f' := lF (up (up w lo (w lo)) h2 ((w lo) ||| (2 ^ c1)))) (k := h2) (ws' := [(a 24, .inr (6, [.ref (a 25), .ref (a 26), .int (nI ow), .int (nI eg), .long (lN mk)])), (a 25, .inl (gI g, 256, .inl (nF (up (up cs lo (z1 + (cs lo))) h2 (o1 + ((cs lo) + ab)))))), (a 26, .inl (gJ g, 256, .inr (.inl (lF (up (up w lo (w lo)) h2 ((w lo) ||| (2 ^ c1)))))))]) (pc := 153) hx hb hK hP hD hS 2 rfl (by omega) (by first | decide | assumption) (lF_up _ _ _) rfl dX6_addMarks_153 (fun H locs hP hD hS => ?_)
              exact hRet _ _ _ _ _ hP hD hS dX6_addMarks_154 (by simp only [if_pos h_39, if_neg (Nat.not_lt.mpr h_39), if_neg (Nat.ne_of_gt h_58), if_pos h_58, if_neg (Nat.ne_of_gt h_80), if_pos h_80, if_pos h_98, if_neg (Nat.not_lt.mpr h_98), if_neg (Nat.ne_of_gt h_117), if_pos h_117, if_neg (Nat.ne_of_gt h_139), if_pos h_139])

set_option maxHeartbeats 4000000 in
set_option maxRecDepth 100000 in
theorem c_X6_addCell (l : Launch) (g : Gx) (a : Nat → Nat) (cs w : Nat → Nat) (ow eg mk : Nat) (n1 zz oo : Nat) (z o : Nat → Nat) (hn : n1 < 64) (heg : eg ≤ 100) (hzz : zz = z n1) (hoo : oo = o n1) (hz1 : zz ≤ 12801) (ho1 : oo ≤ 12801) (hcb : ∀ f, f < 256 → cs f ≤ 2 ^ 30) : Mv l g yX6_addCell cX6_addCell 10 (none) { frames := 1, cells := 0, slots := 0, locals := 33 } [.ref (a 24), .int (nI n1), .int (nI zz), .int (nI oo)] [(a 24, .inr (6, [.ref (a 25), .ref (a 26), .int (nI ow), .int (nI eg), .long (lN mk)])), (a 25, .inl (gI g, 256, .inl (nF cs))), (a 26, .inl (gJ g, 256, .inr (.inl (lF w))))] (fun wv_ => ∃ cs2 : Nat → Nat, ∃ w2 : Nat → Nat, wv_ = [(a 24, .inr (6, [.ref (a 25), .ref (a 26), .int (nI ow), .int (nI eg), .long (lN mk)])), (a 25, .inl (gI g, 256, .inl (nF cs2))), (a 26, .inl (gJ g, 256, .inr (.inl (lF w2))))] ∧ (∀ f, f < 256 → f.testBit (n1 % 8) = false → NSt z o (128 * eg) n1 cs w cs2 w2 f)) 0 0 := by
  refine Mv.opn (own := RX6) (lv := [(0, .ref (a 24)), (1, .int (nI n1)), (2, .int (nI zz)), (3, .int (nI oo))]) (plainFor_of_name (by decide)) rfl rfl (Nat.le_of_ble_eq_true rfl) ?_
  intro p e R s m args below meth c A Q hx hb hml hown hts hA hK hX hRf hRl hRet H locs ls hP hD hS hl
  have hj : n1 % 8 < 8 := Nat.mod_lt _ (by decide)
  have hpw : 2 ^ (n1 % 8) < 256 := Nat.pow_lt_pow_right (n := 8) (by decide) hj
  refine lv_iconst (v := (1 : Int32)) (pc := 0) hx hb dX6_addCell_0 (by decide) ?_
  refine lv_iload_n (pc := 1) hx hb dX6_addCell_1 rfl (lv_at hl 1 rfl) ?_
  refine lv_bipush (v := (8 : Int32)) (pc := 2) hx hb dX6_addCell_2 (by decide) ?_
  refine w_irem (z := nI (n1 % 8)) (pc := 4) hx hb dX6_addCell_4 (by decide) (pk_rem (a := n1) (d := 8) (by omega) (by decide) (by decide)) ?_
  refine w_ishl (z := nI (2 ^ (n1 % 8))) (pc := 5) hx hb dX6_addCell_5 (sh1I _ hj) ?_
  refine lv_istore (lv' := [(4, .int (nI (2 ^ (n1 % 8)))), (0, .ref (a 24)), (1, .int (nI n1)), (2, .int (nI zz)), (3, .int (nI oo))]) (pc := 6) hx hb dX6_addCell_6 hl (by decide) rfl (fun ls hl => ?_)
  refine lv_iload (pc := 8) hx hb dX6_addCell_8 (lv_at hl 0 rfl) ?_
  refine lv_iconst (v := (1 : Int32)) (pc := 10) hx hb dX6_addCell_10 (by decide) ?_
  refine w_ishr (z := nI (2 ^ (n1 % 8) / 2)) (pc := 11) hx hb dX6_addCell_11 (sh2I _ hj) ?_
  refine lv_istore (lv' := [(5, .int (nI (2 ^ (n1 % 8) / 2))), (4, .int (nI (2 ^ (n1 % 8)))), (0, .ref (a 24)), (1, .int (nI n1)), (2, .int (nI zz)), (3, .int (nI oo))]) (pc := 12) hx hb dX6_addCell_12 hl (by decide) rfl (fun ls hl => ?_)
  have L33 : ∀ (bs : Nat) (hbs : bs = bsF (128 * eg) n1), ∀ (H : Heap) (locs : List Loc) (ls : Array Slot), va_P g.1 classes [(a 24, .inr (6, [.ref (a 25), .ref (a 26), .int (nI ow), .int (nI eg), .long (lN mk)])), (a 25, .inl (gI g, 256, .inl (nF cs))), (a 26, .inl (gJ g, 256, .inr (.inl (lF w))))] H → va_D A [(a 24, .inr (6, [.ref (a 25), .ref (a 26), .int (nI ow), .int (nI eg), .long (lN mk)])), (a 25, .inl (gI g, 256, .inl (nF cs))), (a 26, .inl (gJ g, 256, .inr (.inl (lF w))))] → va_S A s.heap H locs → lv_has ls 10 [(0, .ref (a 24)), (1, .int (nI n1)), (2, .int (nI zz)), (3, .int (nI oo)), (4, .int (nI (2 ^ (n1 % 8)))), (5, .int (nI (2 ^ (n1 % 8) / 2))), (6, .int (nI bs))] → W p l e R s m args below meth c H locs 0 0 Q (F0 m 33 ls []) := by
    intro bs hbs H locs ls hP hD hS hl
    have L53 : ∀ (ab : Nat) (hab : ab = abF (128 * eg) n1), ∀ (H : Heap) (locs : List Loc) (ls : Array Slot), va_P g.1 classes [(a 24, .inr (6, [.ref (a 25), .ref (a 26), .int (nI ow), .int (nI eg), .long (lN mk)])), (a 25, .inl (gI g, 256, .inl (nF cs))), (a 26, .inl (gJ g, 256, .inr (.inl (lF w))))] H → va_D A [(a 24, .inr (6, [.ref (a 25), .ref (a 26), .int (nI ow), .int (nI eg), .long (lN mk)])), (a 25, .inl (gI g, 256, .inl (nF cs))), (a 26, .inl (gJ g, 256, .inr (.inl (lF w))))] → va_S A s.heap H locs → lv_has ls 10 [(0, .ref (a 24)), (1, .int (nI n1)), (2, .int (nI zz)), (3, .int (nI oo)), (4, .int (nI (2 ^ (n1 % 8)))), (5, .int (nI (2 ^ (n1 % 8) / 2))), (6, .int (nI bs)), (7, .int (nI ab))] → W p l e R s m args below meth c H locs 0 0 Q (F0 m 53 ls []) := by
      intro ab hab H locs ls hP hD hS hl
      have hb20 : bs ≤ 12800 := by rw [hbs]; unfold bsF; split <;> omega
      have ha20 : ab ≤ 12800 := by rw [hab]; unfold abF; split <;> omega
      refine lv_iconst (v := (0 : Int32)) (pc := 53) hx hb dX6_addCell_53 (by decide) ?_
      refine lv_istore (lv' := [(8, .int (0 : Int32)), (0, .ref (a 24)), (1, .int (nI n1)), (2, .int (nI zz)), (3, .int (nI oo)), (4, .int (nI (2 ^ (n1 % 8)))), (5, .int (nI (2 ^ (n1 % 8) / 2))), (6, .int (nI bs)), (7, .int (nI ab))]) (pc := 54) hx hb dX6_addCell_54 hl (by decide) rfl (fun ls hl => ?_)
      have L56 : ∀ (nn : Nat) (i : Nat) (c1 : Nat → Nat) (w1 : Nat → Nat) (hi : i ≤ 256) (hdn : ∀ f, f < 256 → f.testBit (n1 % 8) = false → f < i → NSt z o (128 * eg) n1 cs w c1 w1 f) (hre : ∀ f, f < 256 → f.testBit (n1 % 8) = false → i ≤ f → c1 f = cs f ∧ w1 f = w f ∧ c1 (f ||| 2 ^ (n1 % 8)) = cs (f ||| 2 ^ (n1 % 8)) ∧ w1 (f ||| 2 ^ (n1 % 8)) = w (f ||| 2 ^ (n1 % 8))), 256 - i < nn → ∀ (H : Heap) (locs : List Loc) (ls : Array Slot), va_P g.1 classes [(a 24, .inr (6, [.ref (a 25), .ref (a 26), .int (nI ow), .int (nI eg), .long (lN mk)])), (a 25, .inl (gI g, 256, .inl (nF c1))), (a 26, .inl (gJ g, 256, .inr (.inl (lF w1))))] H → va_D A [(a 24, .inr (6, [.ref (a 25), .ref (a 26), .int (nI ow), .int (nI eg), .long (lN mk)])), (a 25, .inl (gI g, 256, .inl (nF c1))), (a 26, .inl (gJ g, 256, .inr (.inl (lF w1))))] → va_S A s.heap H locs → lv_has ls 10 [(0, .ref (a 24)), (1, .int (nI n1)), (2, .int (nI zz)), (3, .int (nI oo)), (4, .int (nI (2 ^ (n1 % 8)))), (5, .int (nI (2 ^ (n1 % 8) / 2))), (6, .int (nI bs)), (7, .int (nI ab)), (8, .int (nI i))] → W p l e R s m args below meth c H locs 0 0 Q (F0 m 56 ls []) := by
        intro nn
        induction nn with
        | zero => exact fun i c1 w1 hi hdn hre hm => absurd hm (Nat.not_lt_zero _)
        | succ nn ih56 =>
          intro i c1 w1 hi hdn hre hm56 H locs ls hP hD hS hl
          refine lv_iload (pc := 56) hx hb dX6_addCell_56 (lv_at hl 8 rfl) ?_
          refine lv_sipush (v := (256 : Int32)) (pc := 58) hx hb dX6_addCell_58 (by decide) ?_
          refine n_icmp_ge (tgt := 133) (pc := 61) hx hb i 256 (by omega) (by omega) dX6_addCell_61 (by decide) (fun h_61 => ?_) (fun h_61 => ?_)
          · skip
            exact hRet _ _ _ _ _ hP hD hS dX6_addCell_133 ⟨c1, w1, rfl, (fun f h1 h2 => hdn f h1 h2 (by omega))⟩
          · skip
            refine lv_iload (pc := 64) hx hb dX6_addCell_64 (lv_at hl 8 rfl) ?_
            refine lv_iload (pc := 66) hx hb dX6_addCell_66 (lv_at hl 4 rfl) ?_
            refine w_iand (z := nI (i &&& (2 ^ (n1 % 8)))) (pc := 68) hx hb dX6_addCell_68 (fa_and _ _) ?_
            refine n_if_ne (tgt := 127) (pc := 69) hx hb (i &&& (2 ^ (n1 % 8))) (Nat.lt_of_le_of_lt Nat.and_le_left (by omega)) dX6_addCell_69 (by decide) (fun h_69 => ?_) (fun h_69 => ?_)
            · skip
              have hib : i.testBit (n1 % 8) = true := by cases hc : i.testBit (n1 % 8) with
                  | false => rw [(fb_bit_nat _ _).mpr hc] at h_69; exact absurd h_69 (Nat.lt_irrefl _)
                  | true => rfl
              refine lv_iinc (v := nI (i + 1)) (lv' := [(8, .int (nI (i + 1))), (0, .ref (a 24)), (1, .int (nI n1)), (2, .int (nI zz)), (3, .int (nI oo)), (4, .int (nI (2 ^ (n1 % 8)))), (5, .int (nI (2 ^ (n1 % 8) / 2))), (6, .int (nI bs)), (7, .int (nI ab))]) (pc := 127) hx hb dX6_addCell_127 hl (k := 8) rfl (inc_n i 1) (by decide) rfl (fun ls hl => ?_)
              refine lv_goto (tgt := 56) (pc := 130) hx hb dX6_addCell_130 (by decide) ?_
              exact ih56 (i + 1) c1 w1 (by omega) (fun f h1 h2 h3 => hdn f h1 h2 (by rcases Nat.lt_succ_iff_lt_or_eq.mp h3 with z | z; exact z; rw [z, hib] at h2; cases h2)) (fun f h1 h2 h3 => hre f h1 h2 (by omega)) (by have := hm56; omega) _ _ _ hP hD hS (lv_sub hl [1, 2, 3, 4, 5, 6, 7, 8, 0] rfl)
            · skip
              have hib : i.testBit (n1 % 8) = false := (fb_bit_nat _ _).mp h_69
              have hor := or_lt h_61 hj
              have hre1 := hre i h_61 hib (Nat.le_refl _)
              have hcb1 : c1 i ≤ 2 ^ 30 := by rw [hre1.1]; exact hcb _ h_61
              have hcb2 : c1 (i ||| 2 ^ (n1 % 8)) ≤ 2 ^ 30 := by rw [hre1.2.2.1]; exact hcb _ hor
              have hne1 : i ≠ i ||| 2 ^ (n1 % 8) := or_ne hib
              refine lv_iload (pc := 72) hx hb dX6_addCell_72 (lv_at hl 8 rfl) ?_
              refine lv_iload (pc := 74) hx hb dX6_addCell_74 (lv_at hl 5 rfl) ?_
              refine w_iand (z := nI (i &&& (2 ^ (n1 % 8) / 2))) (pc := 76) hx hb dX6_addCell_76 (fa_and _ _) ?_
              refine n_if_eq (tgt := 84) (pc := 77) hx hb (i &&& (2 ^ (n1 % 8) / 2)) (Nat.lt_of_le_of_lt Nat.and_le_left (by omega)) dX6_addCell_77 (by decide) (fun h_77 => ?_) (fun h_77 => ?_)
              · skip
                have hlf : lfF n1 i = false := lf_and.mp h_77
                refine lv_iconst (v := (0 : Int32)) (pc := 84) hx hb dX6_addCell_84 (by decide) ?_
                refine lv_istore (lv' := [(9, .int (0 : Int32)), (0, .ref (a 24)), (1, .int (nI n1)), (2, .int (nI zz)), (3, .int (nI oo)), (4, .int (nI (2 ^ (n1 % 8)))), (5, .int (nI (2 ^ (n1 % 8) / 2))), (6, .int (nI bs)), (7, .int (nI ab)), (8, .int (nI i))]) (pc := 85) hx hb dX6_addCell_85 hl (by decide) rfl (fun ls hl => ?_)
                refine lv_aload_n (pc := 87) hx hb dX6_addCell_87 rfl (lv_at hl 1 rfl) ?_
                refine lv_iload (pc := 88) hx hb dX6_addCell_88 (lv_at hl 9 rfl) ?_
                refine lv_iload (pc := 90) hx hb dX6_addCell_90 (lv_at hl 9 rfl) ?_
                refine lv_iload (pc := 92) hx hb dX6_addCell_92 (lv_at hl 5 rfl) ?_
                refine w_ior (z := nI (i ||| (2 ^ (n1 % 8)))) (pc := 94) hx hb dX6_addCell_94 (fa_or _ _) ?_
                refine lv_iload_n (pc := 95) hx hb dX6_addCell_95 rfl (lv_at hl 2 rfl) ?_
                refine lv_iload (pc := 96) hx hb dX6_addCell_96 (lv_at hl 8 rfl) ?_
                refine lv_iload (pc := 98) hx hb dX6_addCell_98 (lv_at hl 0 rfl) ?_
                refine n_if_eq (tgt := 110) (pc := 100) hx hb 0 (by omega) dX6_addCell_100 (by decide) (fun h_100 => ?_) (fun h_100 => ?_)
                · skip
                  refine lv_iload_n (pc := 110) hx hb dX6_addCell_110 rfl (lv_at hl 3 rfl) ?_
                  refine lv_iload (pc := 111) hx hb dX6_addCell_111 (lv_at hl 0 rfl) ?_
                  refine n_if_eq (tgt := 120) (pc := 113) hx hb 0 (by omega) dX6_addCell_113 (by decide) (fun h_113 => ?_) (fun h_113 => ?_)
                  · skip
                    refine lv_iload_n (pc := 120) hx hb dX6_addCell_120 rfl (lv_at hl 4 rfl) ?_
                    refine lv_iload (pc := 121) hx hb dX6_addCell_121 (lv_at hl 7 rfl) ?_
                    refine w_iadd (z := nI (oo + bs)) (pc := 123) hx hb dX6_addCell_123 (nI_add oo bs) ?_
                    refine call_v (wr := []) (pc := 124) (run_V (wc := [(a 24, .inr (6, [.ref (a 25), .ref (a 26), .int (nI ow), .int (nI eg), .long (lN mk)])), (a 25, .inl (gI g, 256, .inl (nF c1))), (a 26, .inl (gJ g, 256, .inr (.inl (lF w1))))]) (As := [.int (nI i), .int (nI (i ||| (2 ^ (n1 % 8)))), .int (nI n1), .int (nI ab), .int (nI zz), .int (nI (oo + bs))]) (rest := []) (pc := 124) hx hb hml hown hts hA hK hX (Nat.le_trans (by decide) hRf) (Nat.le_trans (by decide) hRl) hP hD hS (c_X6_addMarks l g (a := a) (cs := c1) (w := w1) (ow := ow) (eg := eg) (mk := mk) (lo := i) (h2 := i ||| (2 ^ (n1 % 8))) (c1 := n1) (ab := ab) (z1 := zz) (o1 := oo + bs) (by first | assumption | omega) (by first | assumption | omega) (by first | assumption | omega) (by first | assumption | omega) (by first | assumption | omega) (by first | assumption | omega) (by first | assumption | omega)) wd_3_59 wd_3_61 wd_0_11 wd_1_8 wd_3_62 hdX6_addMarks [0, 1, 2] rfl rfl 0 rfl rfl rfl hl.1 rfl (Nat.le_of_ble_eq_true rfl) dX6_addCell_124 ⟨Nat.zero_le _, Nat.zero_le _⟩) hA hP hD hS [0, 1, 2] [] rfl rfl rfl (by decide) (fun w1 H locs hq_124 hP hD hS => ?_)
                    obtain rfl := hq_124
                    have hP : va_P g.1 classes [(a 24, .inr (6, [.ref (a 25), .ref (a 26), .int (nI ow), .int (nI eg), .long (lN mk)])), (a 25, .inl (gI g, 256, .inl (nF (up (up c1 i (zz + (if c1 i ≤ c1 (i ||| (2 ^ (n1 % 8))) + ab then c1 i else c1 (i ||| (2 ^ (n1 % 8))) + ab))) (i ||| (2 ^ (n1 % 8))) ((oo + bs) + (if c1 i + ab ≤ c1 (i ||| (2 ^ (n1 % 8))) then c1 i + ab else c1 (i ||| (2 ^ (n1 % 8))))))))), (a 26, .inl (gJ g, 256, .inr (.inl (lF (up (up w1 i (if c1 i ≤ c1 (i ||| (2 ^ (n1 % 8))) + ab then w1 i else w1 (i ||| (2 ^ (n1 % 8))))) (i ||| (2 ^ (n1 % 8))) ((if c1 i + ab ≤ c1 (i ||| (2 ^ (n1 % 8))) then w1 i else w1 (i ||| (2 ^ (n1 % 8)))) ||| 2 ^ n1))))))] H := hP
                    have hD : va_D A [(a 24, .inr (6, [.ref (a 25), .ref (a 26), .int (nI ow), .int (nI eg), .long (lN mk)])), (a 25, .inl (gI g, 256, .inl (nF (up (up c1 i (zz + (if c1 i ≤ c1 (i ||| (2 ^ (n1 % 8))) + ab then c1 i else c1 (i ||| (2 ^ (n1 % 8))) + ab))) (i ||| (2 ^ (n1 % 8))) ((oo + bs) + (if c1 i + ab ≤ c1 (i ||| (2 ^ (n1 % 8))) then c1 i + ab else c1 (i ||| (2 ^ (n1 % 8))))))))), (a 26, .inl (gJ g, 256, .inr (.inl (lF (up (up w1 i (if c1 i ≤ c1 (i ||| (2 ^ (n1 % 8))) + ab then w1 i else w1 (i ||| (2 ^ (n1 % 8))))) (i ||| (2 ^ (n1 % 8))) ((if c1 i + ab ≤ c1 (i ||| (2 ^ (n1 % 8))) then w1 i else w1 (i ||| (2 ^ (n1 % 8)))) ||| 2 ^ n1))))))] := hD
                    refine lv_iinc (v := nI (i + 1)) (lv' := [(8, .int (nI (i + 1))), (9, .int (0 : Int32)), (0, .ref (a 24)), (1, .int (nI n1)), (2, .int (nI zz)), (3, .int (nI oo)), (4, .int (nI (2 ^ (n1 % 8)))), (5, .int (nI (2 ^ (n1 % 8) / 2))), (6, .int (nI bs)), (7, .int (nI ab))]) (pc := 127) hx hb dX6_addCell_127 hl (k := 9) rfl (inc_n i 1) (by decide) rfl (fun ls hl => ?_)
                    refine lv_goto (tgt := 56) (pc := 130) hx hb dX6_addCell_130 (by decide) ?_
                    exact ih56 (i + 1) (up (up c1 i (zz + (if c1 i ≤ c1 (i ||| (2 ^ (n1 % 8))) + ab then c1 i else c1 (i ||| (2 ^ (n1 % 8))) + ab))) (i ||| (2 ^ (n1 % 8))) ((oo + bs) + (if c1 i + ab ≤ c1 (i ||| (2 ^ (n1 % 8))) then c1 i + ab else c1 (i ||| (2 ^ (n1 % 8)))))) (up (up w1 i (if c1 i ≤ c1 (i ||| (2 ^ (n1 % 8))) + ab then w1 i else w1 (i ||| (2 ^ (n1 % 8))))) (i ||| (2 ^ (n1 % 8))) ((if c1 i + ab ≤ c1 (i ||| (2 ^ (n1 % 8))) then w1 i else w1 (i ||| (2 ^ (n1 % 8)))) ||| 2 ^ n1)) (by omega) (cell_dn hdn (hre i h_61 hib (Nat.le_refl _)) h_61 hib hab (by rw [hlf, if_neg (by decide), hzz]) (by rw [hlf, if_neg (by decide), hoo, hbs])) (cell_re hre h_61 hib) (by have := hm56; omega) _ _ _ hP hD hS (lv_sub hl [2, 3, 4, 5, 6, 7, 8, 9, 0] rfl)
                  · skip
                    exfalso; omega
                · skip
                  exfalso; omega
              · skip
                have hlf : lfF n1 i = true := by cases hc : lfF n1 i with
                    | false => rw [lf_and.mpr hc] at h_77; exact absurd h_77 (Nat.lt_irrefl _)
                    | true => rfl
                refine lv_iconst (v := (1 : Int32)) (pc := 80) hx hb dX6_addCell_80 (by decide) ?_
                refine lv_goto (tgt := 85) (pc := 81) hx hb dX6_addCell_81 (by decide) ?_
                refine lv_istore (lv' := [(9, .int (1 : Int32)), (0, .ref (a 24)), (1, .int (nI n1)), (2, .int (nI zz)), (3, .int (nI oo)), (4, .int (nI (2 ^ (n1 % 8)))), (5, .int (nI (2 ^ (n1 % 8) / 2))), (6, .int (nI bs)), (7, .int (nI ab)), (8, .int (nI i))]) (pc := 85) hx hb dX6_addCell_85 hl (by decide) rfl (fun ls hl => ?_)
                refine lv_aload_n (pc := 87) hx hb dX6_addCell_87 rfl (lv_at hl 1 rfl) ?_
                refine lv_iload (pc := 88) hx hb dX6_addCell_88 (lv_at hl 9 rfl) ?_
                refine lv_iload (pc := 90) hx hb dX6_addCell_90 (lv_at hl 9 rfl) ?_
                refine lv_iload (pc := 92) hx hb dX6_addCell_92 (lv_at hl 5 rfl) ?_
                refine w_ior (z := nI (i ||| (2 ^ (n1 % 8)))) (pc := 94) hx hb dX6_addCell_94 (fa_or _ _) ?_
                refine lv_iload_n (pc := 95) hx hb dX6_addCell_95 rfl (lv_at hl 2 rfl) ?_
                refine lv_iload (pc := 96) hx hb dX6_addCell_96 (lv_at hl 8 rfl) ?_
                refine lv_iload (pc := 98) hx hb dX6_addCell_98 (lv_at hl 0 rfl) ?_
                refine n_if_eq (tgt := 110) (pc := 100) hx hb 1 (by omega) dX6_addCell_100 (by decide) (fun h_100 => ?_) (fun h_100 => ?_)
                · skip
                  exfalso; omega
                · skip
                  refine lv_iload_n (pc := 103) hx hb dX6_addCell_103 rfl (lv_at hl 3 rfl) ?_
                  refine lv_iload (pc := 104) hx hb dX6_addCell_104 (lv_at hl 7 rfl) ?_
                  refine w_iadd (z := nI (zz + bs)) (pc := 106) hx hb dX6_addCell_106 (nI_add zz bs) ?_
                  refine lv_goto (tgt := 111) (pc := 107) hx hb dX6_addCell_107 (by decide) ?_
                  refine lv_iload (pc := 111) hx hb dX6_addCell_111 (lv_at hl 0 rfl) ?_
                  refine n_if_eq (tgt := 120) (pc := 113) hx hb 1 (by omega) dX6_addCell_113 (by decide) (fun h_113 => ?_) (fun h_113 => ?_)
                  · skip
                    exfalso; omega
                  · skip
                    refine lv_iload_n (pc := 116) hx hb dX6_addCell_116 rfl (lv_at hl 4 rfl) ?_
                    refine lv_goto (tgt := 124) (pc := 117) hx hb dX6_addCell_117 (by decide) ?_
                    refine call_v (wr := []) (pc := 124) (run_V (wc := [(a 24, .inr (6, [.ref (a 25), .ref (a 26), .int (nI ow), .int (nI eg), .long (lN mk)])), (a 25, .inl (gI g, 256, .inl (nF c1))), (a 26, .inl (gJ g, 256, .inr (.inl (lF w1))))]) (As := [.int (nI i), .int (nI (i ||| (2 ^ (n1 % 8)))), .int (nI n1), .int (nI ab), .int (nI (zz + bs)), .int (nI oo)]) (rest := []) (pc := 124) hx hb hml hown hts hA hK hX (Nat.le_trans (by decide) hRf) (Nat.le_trans (by decide) hRl) hP hD hS (c_X6_addMarks l g (a := a) (cs := c1) (w := w1) (ow := ow) (eg := eg) (mk := mk) (lo := i) (h2 := i ||| (2 ^ (n1 % 8))) (c1 := n1) (ab := ab) (z1 := zz + bs) (o1 := oo) (by first | assumption | omega) (by first | assumption | omega) (by first | assumption | omega) (by first | assumption | omega) (by first | assumption | omega) (by first | assumption | omega) (by first | assumption | omega)) wd_3_59 wd_3_61 wd_0_11 wd_1_8 wd_3_62 hdX6_addMarks [0, 1, 2] rfl rfl 0 rfl rfl rfl hl.1 rfl (Nat.le_of_ble_eq_true rfl) dX6_addCell_124 ⟨Nat.zero_le _, Nat.zero_le _⟩) hA hP hD hS [0, 1, 2] [] rfl rfl rfl (by decide) (fun w1 H locs hq_124 hP hD hS => ?_)
                    obtain rfl := hq_124
                    have hP : va_P g.1 classes [(a 24, .inr (6, [.ref (a 25), .ref (a 26), .int (nI ow), .int (nI eg), .long (lN mk)])), (a 25, .inl (gI g, 256, .inl (nF (up (up c1 i ((zz + bs) + (if c1 i ≤ c1 (i ||| (2 ^ (n1 % 8))) + ab then c1 i else c1 (i ||| (2 ^ (n1 % 8))) + ab))) (i ||| (2 ^ (n1 % 8))) (oo + (if c1 i + ab ≤ c1 (i ||| (2 ^ (n1 % 8))) then c1 i + ab else c1 (i ||| (2 ^ (n1 % 8))))))))), (a 26, .inl (gJ g, 256, .inr (.inl (lF (up (up w1 i (if c1 i ≤ c1 (i ||| (2 ^ (n1 % 8))) + ab then w1 i else w1 (i ||| (2 ^ (n1 % 8))))) (i ||| (2 ^ (n1 % 8))) ((if c1 i + ab ≤ c1 (i ||| (2 ^ (n1 % 8))) then w1 i else w1 (i ||| (2 ^ (n1 % 8)))) ||| 2 ^ n1))))))] H := hP
                    have hD : va_D A [(a 24, .inr (6, [.ref (a 25), .ref (a 26), .int (nI ow), .int (nI eg), .long (lN mk)])), (a 25, .inl (gI g, 256, .inl (nF (up (up c1 i ((zz + bs) + (if c1 i ≤ c1 (i ||| (2 ^ (n1 % 8))) + ab then c1 i else c1 (i ||| (2 ^ (n1 % 8))) + ab))) (i ||| (2 ^ (n1 % 8))) (oo + (if c1 i + ab ≤ c1 (i ||| (2 ^ (n1 % 8))) then c1 i + ab else c1 (i ||| (2 ^ (n1 % 8))))))))), (a 26, .inl (gJ g, 256, .inr (.inl (lF (up (up w1 i (if c1 i ≤ c1 (i ||| (2 ^ (n1 % 8))) + ab then w1 i else w1 (i ||| (2 ^ (n1 % 8))))) (i ||| (2 ^ (n1 % 8))) ((if c1 i + ab ≤ c1 (i ||| (2 ^ (n1 % 8))) then w1 i else w1 (i ||| (2 ^ (n1 % 8)))) ||| 2 ^ n1))))))] := hD
                    refine lv_iinc (v := nI (i + 1)) (lv' := [(8, .int (nI (i + 1))), (9, .int (1 : Int32)), (0, .ref (a 24)), (1, .int (nI n1)), (2, .int (nI zz)), (3, .int (nI oo)), (4, .int (nI (2 ^ (n1 % 8)))), (5, .int (nI (2 ^ (n1 % 8) / 2))), (6, .int (nI bs)), (7, .int (nI ab))]) (pc := 127) hx hb dX6_addCell_127 hl (k := 9) rfl (inc_n i 1) (by decide) rfl (fun ls hl => ?_)
                    refine lv_goto (tgt := 56) (pc := 130) hx hb dX6_addCell_130 (by decide) ?_
                    exact ih56 (i + 1) (up (up c1 i ((zz + bs) + (if c1 i ≤ c1 (i ||| (2 ^ (n1 % 8))) + ab then c1 i else c1 (i ||| (2 ^ (n1 % 8))) + ab))) (i ||| (2 ^ (n1 % 8))) (oo + (if c1 i + ab ≤ c1 (i ||| (2 ^ (n1 % 8))) then c1 i + ab else c1 (i ||| (2 ^ (n1 % 8)))))) (up (up w1 i (if c1 i ≤ c1 (i ||| (2 ^ (n1 % 8))) + ab then w1 i else w1 (i ||| (2 ^ (n1 % 8))))) (i ||| (2 ^ (n1 % 8))) ((if c1 i + ab ≤ c1 (i ||| (2 ^ (n1 % 8))) then w1 i else w1 (i ||| (2 ^ (n1 % 8)))) ||| 2 ^ n1)) (by omega) (cell_dn hdn (hre i h_61 hib (Nat.le_refl _)) h_61 hib hab (by rw [hlf, if_pos rfl, hzz, hbs]) (by rw [hlf, if_pos rfl, hoo])) (cell_re hre h_61 hib) (by have := hm56; omega) _ _ _ hP hD hS (lv_sub hl [2, 3, 4, 5, 6, 7, 8, 9, 0] rfl)
      exact L56 _ 0 cs w (by decide) (fun f _ _ h => absurd h (Nat.not_lt_zero _)) (fun _ _ _ _ => ⟨rfl, rfl, rfl, rfl⟩) (Nat.lt_succ_self _) _ _ _ hP hD hS (lv_sub hl [1, 2, 3, 4, 5, 6, 7, 8, 0] rfl)
    refine lv_iload_n (pc := 33) hx hb dX6_addCell_33 rfl (lv_at hl 1 rfl) ?_
    refine lv_bipush (v := (8 : Int32)) (pc := 34) hx hb dX6_addCell_34 (by decide) ?_
    refine n_icmp_ge (tgt := 43) (pc := 36) hx hb n1 8 (by omega) (by omega) dX6_addCell_36 (by decide) (fun h_36 => ?_) (fun h_36 => ?_)
    · skip
      refine lv_sipush (v := (128 : Int32)) (pc := 43) hx hb dX6_addCell_43 (by decide) ?_
      refine lv_aload_n (pc := 46) hx hb dX6_addCell_46 rfl (lv_at hl 0 rfl) ?_
      refine va_get (D := g.1) (ci := 6) (v := .int (nI eg)) (C := RX6) (T := TX6) (N := 5) (index := 23) (pc := 47) hx hb hts inX6 hown hK hP 0 rfl rfl 3 (by decide) (hts _ wd_1_172) (fun _ h9 => h9) rfl dX6_addCell_47 ?_
      refine w_imul (z := nI (128 * eg)) (pc := 50) hx hb dX6_addCell_50 (pk_mul 128 eg) ?_
      refine lv_istore (lv' := [(7, .int (nI (128 * eg))), (0, .ref (a 24)), (1, .int (nI n1)), (2, .int (nI zz)), (3, .int (nI oo)), (4, .int (nI (2 ^ (n1 % 8)))), (5, .int (nI (2 ^ (n1 % 8) / 2))), (6, .int (nI bs))]) (pc := 51) hx hb dX6_addCell_51 hl (by decide) rfl (fun ls hl => ?_)
      exact L53 (128 * eg) (by unfold abF; rw [if_neg (by omega)]) _ _ _ hP hD hS (lv_sub hl [1, 2, 3, 4, 5, 6, 7, 0] rfl)
    · skip
      refine lv_iconst (v := (0 : Int32)) (pc := 39) hx hb dX6_addCell_39 (by decide) ?_
      refine lv_goto (tgt := 51) (pc := 40) hx hb dX6_addCell_40 (by decide) ?_
      refine lv_istore (lv' := [(7, .int (0 : Int32)), (0, .ref (a 24)), (1, .int (nI n1)), (2, .int (nI zz)), (3, .int (nI oo)), (4, .int (nI (2 ^ (n1 % 8)))), (5, .int (nI (2 ^ (n1 % 8) / 2))), (6, .int (nI bs))]) (pc := 51) hx hb dX6_addCell_51 hl (by decide) rfl (fun ls hl => ?_)
      exact L53 0 (by unfold abF; rw [if_pos h_36]) _ _ _ hP hD hS (lv_sub hl [1, 2, 3, 4, 5, 6, 7, 0] rfl)
  refine lv_iload (pc := 14) hx hb dX6_addCell_14 (lv_at hl 0 rfl) ?_
  refine n_if_ne (tgt := 23) (pc := 16) hx hb (2 ^ (n1 % 8) / 2) (Nat.lt_of_le_of_lt (Nat.div_le_self _ _) (by omega)) dX6_addCell_16 (by decide) (fun h_16 => ?_) (fun h_16 => ?_)
  · skip
    refine lv_sipush (v := (128 : Int32)) (pc := 23) hx hb dX6_addCell_23 (by decide) ?_
    refine lv_aload_n (pc := 26) hx hb dX6_addCell_26 rfl (lv_at hl 2 rfl) ?_
    refine va_get (D := g.1) (ci := 6) (v := .int (nI eg)) (C := RX6) (T := TX6) (N := 5) (index := 23) (pc := 27) hx hb hts inX6 hown hK hP 0 rfl rfl 3 (by decide) (hts _ wd_1_172) (fun _ h9 => h9) rfl dX6_addCell_27 ?_
    refine w_imul (z := nI (128 * eg)) (pc := 30) hx hb dX6_addCell_30 (pk_mul 128 eg) ?_
    refine lv_istore (lv' := [(6, .int (nI (128 * eg))), (5, .int (nI (2 ^ (n1 % 8) / 2))), (4, .int (nI (2 ^ (n1 % 8)))), (0, .ref (a 24)), (1, .int (nI n1)), (2, .int (nI zz)), (3, .int (nI oo))]) (pc := 31) hx hb dX6_addCell_31 hl (by decide) rfl (fun ls hl => ?_)
    exact L33 (128 * eg) (by unfold bsF; rw [if_neg (fun z => by rw [z] at h_16; exact absurd h_16 (by decide))]) _ _ _ hP hD hS (lv_sub hl [3, 4, 5, 6, 2, 1, 0] rfl)
  · skip
    refine lv_iconst (v := (0 : Int32)) (pc := 19) hx hb dX6_addCell_19 (by decide) ?_
    refine lv_goto (tgt := 31) (pc := 20) hx hb dX6_addCell_20 (by decide) ?_
    refine lv_istore (lv' := [(6, .int (0 : Int32)), (5, .int (nI (2 ^ (n1 % 8) / 2))), (4, .int (nI (2 ^ (n1 % 8)))), (0, .ref (a 24)), (1, .int (nI n1)), (2, .int (nI zz)), (3, .int (nI oo))]) (pc := 31) hx hb dX6_addCell_31 hl (by decide) rfl (fun ls hl => ?_)
    exact L33 0 (by unfold bsF; rw [if_pos (half0 h_16)]) _ _ _ hP hD hS (lv_sub hl [3, 4, 5, 6, 2, 1, 0] rfl)

set_option maxHeartbeats 4000000 in
set_option maxRecDepth 100000 in
theorem c_X6_takeBest (l : Launch) (g : Gx) (a : Nat → Nat) (cs w : Nat → Nat) (ow eg mk : Nat) (hcb : ∀ f, f < 256 → cs f ≤ 2 ^ 30) : Mi l g yX6_takeBest cX6_takeBest 3 ((some .int)) { frames := 0, cells := 0, slots := 0, locals := 0 } [.ref (a 24)] [(a 24, .inr (6, [.ref (a 25), .ref (a 26), .int (nI ow), .int (nI eg), .long (lN mk)])), (a 25, .inl (gI g, 256, .inl (nF cs))), (a 26, .inl (gJ g, 256, .inr (.inl (lF w))))] (fun rv_ wv_ => ∃ be : Nat, rv_ = nI (cs be / 128) ∧ wv_ = [(a 24, .inr (6, [.ref (a 25), .ref (a 26), .int (nI ow), .int (nI eg), .long (lN (w be))])), (a 25, .inl (gI g, 256, .inl (nF cs))), (a 26, .inl (gJ g, 256, .inr (.inl (lF w))))] ∧ be < 256 ∧ (∀ f, f < 256 → cs be ≤ cs f)) := by
  refine Mi.opn (own := RX6) (lv := [(0, .ref (a 24))]) (plainFor_of_name (by decide)) rfl rfl (Nat.le_of_ble_eq_true rfl) ?_
  intro p e R s m args below meth c A Q hx hb hml hown hts hA hK hX hRf hRl hRet H locs ls hP hD hS hl
  refine lv_iconst (v := (0 : Int32)) (pc := 0) hx hb dX6_takeBest_0 (by decide) ?_
  refine lv_istore_n (lv' := [(1, .int (0 : Int32)), (0, .ref (a 24))]) (pc := 1) hx hb dX6_takeBest_1 rfl hl (by decide) rfl (fun ls hl => ?_)
  refine lv_iconst (v := (1 : Int32)) (pc := 2) hx hb dX6_takeBest_2 (by decide) ?_
  refine lv_istore_n (lv' := [(2, .int (1 : Int32)), (1, .int (0 : Int32)), (0, .ref (a 24))]) (pc := 3) hx hb dX6_takeBest_3 rfl hl (by decide) rfl (fun ls hl => ?_)
  have L4 : ∀ (nn : Nat) (i : Nat) (q : Nat) (hi : 1 ≤ i ∧ i ≤ 256) (hq : q < 256) (hm : ∀ f, f < i → cs q ≤ cs f), 256 - i < nn → ∀ (H : Heap) (locs : List Loc) (ls : Array Slot), va_P g.1 classes [(a 24, .inr (6, [.ref (a 25), .ref (a 26), .int (nI ow), .int (nI eg), .long (lN mk)])), (a 25, .inl (gI g, 256, .inl (nF cs))), (a 26, .inl (gJ g, 256, .inr (.inl (lF w))))] H → va_D A [(a 24, .inr (6, [.ref (a 25), .ref (a 26), .int (nI ow), .int (nI eg), .long (lN mk)])), (a 25, .inl (gI g, 256, .inl (nF cs))), (a 26, .inl (gJ g, 256, .inr (.inl (lF w))))] → va_S A s.heap H locs → lv_has ls 3 [(0, .ref (a 24)), (1, .int (nI q)), (2, .int (nI i))] → W p l e R s m args below meth c H locs 0 0 Q (F0 m 4 ls []) := by
    intro nn
    induction nn with
    | zero => exact fun i q hi hq hm hm => absurd hm (Nat.not_lt_zero _)
    | succ nn ih4 =>
      intro i q hi hq hm hm4 H locs ls hP hD hS hl
      have hcq := hcb q hq
      refine lv_iload_n (pc := 4) hx hb dX6_takeBest_4 rfl (lv_at hl 2 rfl) ?_
      refine lv_sipush (v := (256 : Int32)) (pc := 5) hx hb dX6_takeBest_5 (by decide) ?_
      refine n_icmp_ge (tgt := 34) (pc := 8) hx hb i 256 (by omega) (by omega) dX6_takeBest_8 (by decide) (fun h_8 => ?_) (fun h_8 => ?_)
      · skip
        refine lv_aload_n (pc := 34) hx hb dX6_takeBest_34 rfl (lv_at hl 0 rfl) ?_
        refine lv_aload_n (pc := 35) hx hb dX6_takeBest_35 rfl (lv_at hl 0 rfl) ?_
        refine va_get (D := g.1) (ci := 6) (v := .ref (a 26)) (C := RX6) (T := TX6) (N := 5) (index := 15) (pc := 36) hx hb hts inX6 hown hK hP 0 rfl rfl 1 (by decide) (hts _ wd_1_170) (fun _ h9 => h9) rfl dX6_takeBest_36 ?_
        refine lv_iload_n (pc := 39) hx hb dX6_takeBest_39 rfl (lv_at hl 1 rfl) ?_
        refine w_lald (f := lF w) (k := q) (z := lN (w q)) (pc := 40) hx hb hK hP 2 rfl (by omega) (by first | decide | assumption) (rfl) dX6_takeBest_40 ?_
        refine w_put (ci := 6) (v := .long (lN (w q))) (ty := .long) (C := RX6) (T := TX6) (N := 5) (index := 26) (ws' := [(a 24, .inr (6, [.ref (a 25), .ref (a 26), .int (nI ow), .int (nI eg), .long (lN (w q))])), (a 25, .inl (gI g, 256, .inl (nF cs))), (a 26, .inl (gJ g, 256, .inr (.inl (lF w))))]) (pc := 41) hx hb hts inX6 tyX6 tyX6_ok nmX6 hown hK hP hD hS 0 rfl rfl 4 (by decide) (hts _ wd_1_173) (fun _ h9 => h9) rfl (by decide +kernel) rfl rfl (Nat.le_of_ble_eq_true rfl) rfl dX6_takeBest_41 (fun H locs hP hD hS => ?_)
        refine lv_aload_n (pc := 44) hx hb dX6_takeBest_44 rfl (lv_at hl 0 rfl) ?_
        refine va_get (D := g.1) (ci := 6) (v := .ref (a 25)) (C := RX6) (T := TX6) (N := 5) (index := 11) (pc := 45) hx hb hts inX6 hown hK hP 0 rfl rfl 0 (by decide) (hts _ wd_1_169) (fun _ h9 => h9) rfl dX6_takeBest_45 ?_
        refine lv_iload_n (pc := 48) hx hb dX6_takeBest_48 rfl (lv_at hl 1 rfl) ?_
        refine w_iald (f := nF cs) (k := q) (z := nI (cs q)) (pc := 49) hx hb hK hP 1 rfl (by omega) (by first | decide | assumption) (rfl) dX6_takeBest_49 ?_
        refine lv_sipush (v := (128 : Int32)) (pc := 50) hx hb dX6_takeBest_50 (by decide) ?_
        refine w_idiv (z := nI ((cs q) / 128)) (pc := 53) hx hb dX6_takeBest_53 (by decide) (pk_div (a := cs q) (d := 128) (by omega) (by decide) (by decide)) ?_
        exact hRet _ _ _ _ _ _ hP hD hS dX6_takeBest_54 ⟨q, rfl, rfl, hq, (fun f hf => hm f (by omega))⟩
      · skip
        have hci := hcb i h_8
        refine lv_aload_n (pc := 11) hx hb dX6_takeBest_11 rfl (lv_at hl 0 rfl) ?_
        refine va_get (D := g.1) (ci := 6) (v := .ref (a 25)) (C := RX6) (T := TX6) (N := 5) (index := 11) (pc := 12) hx hb hts inX6 hown hK hP 0 rfl rfl 0 (by decide) (hts _ wd_1_169) (fun _ h9 => h9) rfl dX6_takeBest_12 ?_
        refine lv_iload_n (pc := 15) hx hb dX6_takeBest_15 rfl (lv_at hl 2 rfl) ?_
        refine w_iald (f := nF cs) (k := i) (z := nI (cs i)) (pc := 16) hx hb hK hP 1 rfl (by omega) (by first | decide | assumption) (rfl) dX6_takeBest_16 ?_
        refine lv_aload_n (pc := 17) hx hb dX6_takeBest_17 rfl (lv_at hl 0 rfl) ?_
        refine va_get (D := g.1) (ci := 6) (v := .ref (a 25)) (C := RX6) (T := TX6) (N := 5) (index := 11) (pc := 18) hx hb hts inX6 hown hK hP 0 rfl rfl 0 (by decide) (hts _ wd_1_169) (fun _ h9 => h9) rfl dX6_takeBest_18 ?_
        refine lv_iload_n (pc := 21) hx hb dX6_takeBest_21 rfl (lv_at hl 1 rfl) ?_
        refine w_iald (f := nF cs) (k := q) (z := nI (cs q)) (pc := 22) hx hb hK hP 1 rfl (by omega) (by first | decide | assumption) (rfl) dX6_takeBest_22 ?_
        refine n_icmp_ge (tgt := 28) (pc := 23) hx hb (cs i) (cs q) (by omega) (by omega) dX6_takeBest_23 (by decide) (fun h_23 => ?_) (fun h_23 => ?_)
        · skip
          refine lv_iinc (v := nI (i + 1)) (lv' := [(2, .int (nI (i + 1))), (0, .ref (a 24)), (1, .int (nI q))]) (pc := 28) hx hb dX6_takeBest_28 hl (k := 2) rfl (inc_n i 1) (by decide) rfl (fun ls hl => ?_)
          refine lv_goto (tgt := 4) (pc := 31) hx hb dX6_takeBest_31 (by decide) ?_
          exact ih4 (i + 1) q (by omega) hq (fun f hf => by rcases Nat.lt_succ_iff_lt_or_eq.mp hf with z | z; exact hm f z; rw [z]; exact h_23) (by have := hm4; omega) _ _ _ hP hD hS (lv_sub hl [1, 2, 0] rfl)
        · skip
          refine lv_iload_n (pc := 26) hx hb dX6_takeBest_26 rfl (lv_at hl 2 rfl) ?_
          refine lv_istore_n (lv' := [(1, .int (nI i)), (0, .ref (a 24)), (2, .int (nI i))]) (pc := 27) hx hb dX6_takeBest_27 rfl hl (by decide) rfl (fun ls hl => ?_)
          refine lv_iinc (v := nI (i + 1)) (lv' := [(2, .int (nI (i + 1))), (1, .int (nI i)), (0, .ref (a 24))]) (pc := 28) hx hb dX6_takeBest_28 hl (k := 2) rfl (inc_n i 1) (by decide) rfl (fun ls hl => ?_)
          refine lv_goto (tgt := 4) (pc := 31) hx hb dX6_takeBest_31 (by decide) ?_
          exact ih4 (i + 1) i (by omega) h_8 (fun f hf => by rcases Nat.lt_succ_iff_lt_or_eq.mp hf with z | z; exact Nat.le_trans (Nat.le_of_lt h_23) (hm f z); rw [z]; exact Nat.le_refl _) (by have := hm4; omega) _ _ _ hP hD hS (lv_sub hl [2, 1, 0] rfl)
  exact L4 _ 1 0 (by decide) (by decide) (fun f hf => by rw [show f = 0 by omega]; exact Nat.le_refl _) (Nat.lt_succ_self _) _ _ _ hP hD hS (lv_sub hl [2, 1, 0] rfl)

set_option maxHeartbeats 4000000 in
set_option maxRecDepth 100000 in
theorem c_X6_settle (l : Launch) (g : Gx) (a : Nat → Nat) (it : Nat → Int32) (sz : Nat → Nat) (la : Int32) (br : Int32) (hi : Nat) (sx sy : Nat → Int32) (sd sc sk : Nat → Nat) (n tn : Nat) (kc : Nat → Nat) (ge : Nat → Int32) (sp nu : Nat → Int32) (st en : Nat → Nat) (bf bt bb : Nat) (bn : Int32) (ou dp mo : Nat) (kn : Nat → Int32) (cs w : Nat → Nat) (ow eg mk : Nat) (d k1 : Nat) (ok : okSky sz sx sy hi) (oks : okSmp sd sc sk n) (hdp : dp ≤ 3) (hmo : mo ≤ 1) (hkt : KT (rdC it sz, (br, hi, sx, sy), (sd, sc, sk, n), dp, mo) tn kc ge sp nu st en) (hkn : KN (rdC it sz, (br, hi, sx, sy), (sd, sc, sk, n), dp, mo) kn) (hd : d < 6) (hk1 : k1 < 4) (how : ow ≤ 100) (heg : eg ≤ 100) : Mi l g yX6_settle cX6_settle 8 ((some .int)) { frames := 5, cells := 0, slots := 0, locals := 127 } [.ref (a 24), .ref (a 14), .int (nI d), .int (nI k1)] [(a 24, .inr (6, [.ref (a 25), .ref (a 26), .int (nI ow), .int (nI eg), .long (lN mk)])), (a 25, .inl (gI g, 256, .inl (nF cs))), (a 26, .inl (gJ g, 256, .inr (.inl (lF w)))), (a 14, .inr (0, [.ref (a 5), .ref (a 8), .ref (a 16), .ref (a 15), .int (nI ou), .int (nI dp), .int (nI mo)])), (a 15, .inl (gI g, 384, .inl kn)), (a 5, .inr (5, [.ref (a 1), .ref (a 6), .ref (a 7), .int br, .int (nI hi)])), (a 6, .inl (gI g, 6, .inl sx)), (a 7, .inl (gI g, 6, .inl sy)), (a 1, .inr (3, [.ref (a 2), .ref (a 3), .ref (a 4), .int la])), (a 2, .inl (gI g, 1152, .inl it)), (a 4, .inl (gI g, 18, .inl (nF sz))), (a 8, .inr (4, [.ref (a 9), .ref (a 10), .ref (a 11), .int (nI n), .ref (a 12), .ref (a 13), .int (nI tn)])), (a 12, .inl (gI g, 40, .inl (nF kc))), (a 13, .inl (gI g, 160, .inl ge)), (a 16, .inr (7, [.ref (a 17), .ref (a 18), .ref (a 19), .ref (a 20), .ref (a 21), .ref (a 22), .ref (a 23), .int (nI bf), .int bn, .long (lN bt), .long (lN bb)])), (a 17, .inl (gI g, 15, .inl sp)), (a 18, .inl (gI g, 15, .inl nu))] (fun rv_ wv_ => ∃ mk2 : Nat, ∃ cs2 : Nat → Nat, ∃ w2 : Nat → Nat, ∃ kn2 : Nat → Int32, (rv_ = nI (bcost (fun i => 128 * (if kindF (rdC it sz, (br, hi, sx, sy), (sd, sc, sk, n), dp, mo) d i = nI k1 then ow else 0)) (fun i => 128 * (if kindF (rdC it sz, (br, hi, sx, sy), (sd, sc, sk, n), dp, mo) d i = nI k1 then 0 else if kindF (rdC it sz, (br, hi, sx, sy), (sd, sc, sk, n), dp, mo) d i = -1 then 0 else ow) + 1) (128 * eg) (tb mk2) 64 / 128)) ∧ wv_ = [(a 24, .inr (6, [.ref (a 25), .ref (a 26), .int (nI ow), .int (nI eg), .long (lN mk2)])), (a 25, .inl (gI g, 256, .inl (nF cs2))), (a 26, .inl (gJ g, 256, .inr (.inl (lF w2)))), (a 14, .inr (0, [.ref (a 5), .ref (a 8), .ref (a 16), .ref (a 15), .int (nI ou), .int (nI dp), .int (nI mo)])), (a 15, .inl (gI g, 384, .inl kn2)), (a 5, .inr (5, [.ref (a 1), .ref (a 6), .ref (a 7), .int br, .int (nI hi)])), (a 6, .inl (gI g, 6, .inl sx)), (a 7, .inl (gI g, 6, .inl sy)), (a 1, .inr (3, [.ref (a 2), .ref (a 3), .ref (a 4), .int la])), (a 2, .inl (gI g, 1152, .inl it)), (a 4, .inl (gI g, 18, .inl (nF sz))), (a 8, .inr (4, [.ref (a 9), .ref (a 10), .ref (a 11), .int (nI n), .ref (a 12), .ref (a 13), .int (nI tn)])), (a 12, .inl (gI g, 40, .inl (nF kc))), (a 13, .inl (gI g, 160, .inl ge)), (a 16, .inr (7, [.ref (a 17), .ref (a 18), .ref (a 19), .ref (a 20), .ref (a 21), .ref (a 22), .ref (a 23), .int (nI bf), .int bn, .long (lN bt), .long (lN bb)])), (a 17, .inl (gI g, 15, .inl sp)), (a 18, .inl (gI g, 15, .inl nu))] ∧ KN (rdC it sz, (br, hi, sx, sy), (sd, sc, sk, n), dp, mo) kn2 ∧ mk2 < 2 ^ 64 ∧ (∀ b, bcost (fun i => 128 * (if kindF (rdC it sz, (br, hi, sx, sy), (sd, sc, sk, n), dp, mo) d i = nI k1 then ow else 0)) (fun i => 128 * (if kindF (rdC it sz, (br, hi, sx, sy), (sd, sc, sk, n), dp, mo) d i = nI k1 then 0 else if kindF (rdC it sz, (br, hi, sx, sy), (sd, sc, sk, n), dp, mo) d i = -1 then 0 else ow) + 1) (128 * eg) (tb mk2) 64 ≤ bcost (fun i => 128 * (if kindF (rdC it sz, (br, hi, sx, sy), (sd, sc, sk, n), dp, mo) d i = nI k1 then ow else 0)) (fun i => 128 * (if kindF (rdC it sz, (br, hi, sx, sy), (sd, sc, sk, n), dp, mo) d i = nI k1 then 0 else if kindF (rdC it sz, (br, hi, sx, sy), (sd, sc, sk, n), dp, mo) d i = -1 then 0 else ow) + 1) (128 * eg) b 64)) := by
  refine Mi.opn (own := RX6) (lv := [(0, .ref (a 24)), (1, .ref (a 14)), (2, .int (nI d)), (3, .int (nI k1))]) (plainFor_of_name (by decide)) rfl rfl (Nat.le_of_ble_eq_true rfl) ?_
  intro p e R s m args below meth c A Q hx hb hml hown hts hA hK hX hRf hRl hRet H locs ls hP hD hS hl
  refine lv_aload_n (pc := 0) hx hb dX6_settle_0 rfl (lv_at hl 0 rfl) ?_
  refine va_get (D := g.1) (ci := 6) (v := .int (nI ow)) (C := RX6) (T := TX6) (N := 5) (index := 19) (pc := 1) hx hb hts inX6 hown hK hP 0 rfl rfl 2 (by decide) (hts _ wd_1_171) (fun _ h9 => h9) rfl dX6_settle_1 ?_
  refine lv_aload_n (pc := 4) hx hb dX6_settle_4 rfl (lv_at hl 1 rfl) ?_
  refine lv_iload_n (pc := 5) hx hb dX6_settle_5 rfl (lv_at hl 2 rfl) ?_
  refine lv_iload_n (pc := 6) hx hb dX6_settle_6 rfl (lv_at hl 3 rfl) ?_
  refine call_i (wr := [(a 24, .inr (6, [.ref (a 25), .ref (a 26), .int (nI ow), .int (nI eg), .long (lN mk)])), (a 25, .inl (gI g, 256, .inl (nF cs))), (a 26, .inl (gJ g, 256, .inr (.inl (lF w))))]) (pc := 7) (run_V (wc := [(a 14, .inr (0, [.ref (a 5), .ref (a 8), .ref (a 16), .ref (a 15), .int (nI ou), .int (nI dp), .int (nI mo)])), (a 15, .inl (gI g, 384, .inl kn)), (a 5, .inr (5, [.ref (a 1), .ref (a 6), .ref (a 7), .int br, .int (nI hi)])), (a 6, .inl (gI g, 6, .inl sx)), (a 7, .inl (gI g, 6, .inl sy)), (a 1, .inr (3, [.ref (a 2), .ref (a 3), .ref (a 4), .int la])), (a 2, .inl (gI g, 1152, .inl it)), (a 4, .inl (gI g, 18, .inl (nF sz))), (a 8, .inr (4, [.ref (a 9), .ref (a 10), .ref (a 11), .int (nI n), .ref (a 12), .ref (a 13), .int (nI tn)])), (a 12, .inl (gI g, 40, .inl (nF kc))), (a 13, .inl (gI g, 160, .inl ge)), (a 16, .inr (7, [.ref (a 17), .ref (a 18), .ref (a 19), .ref (a 20), .ref (a 21), .ref (a 22), .ref (a 23), .int (nI bf), .int bn, .long (lN bt), .long (lN bb)])), (a 17, .inl (gI g, 15, .inl sp)), (a 18, .inl (gI g, 15, .inl nu))]) (As := [.int (nI d), .int (nI k1)]) (rest := [.int (nI ow)]) (pc := 7) hx hb hml hown hts hA hK hX (Nat.le_trans (by decide) hRf) (Nat.le_trans (by decide) hRl) hP hD hS (c_X0_tally l g (a := a) (it := it) (sz := sz) (la := la) (br := br) (hi := hi) (sx := sx) (sy := sy) (sd := sd) (sc := sc) (sk := sk) (n := n) (tn := tn) (kc := kc) (ge := ge) (sp := sp) (nu := nu) (st := st) (en := en) (bf := bf) (bt := bt) (bb := bb) (bn := bn) (ou := ou) (dp := dp) (mo := mo) (kn := kn) (d := d) (x := nI k1) (by first | assumption | omega) (by first | assumption | omega) (by first | assumption | omega) (by first | assumption | omega) (by first | assumption | omega) (by first | assumption | omega) (by first | assumption | omega)) wd_3_51 wd_3_31 wd_3_32 wd_1_6 wd_3_33 hdX0_tally [3, 4, 5, 6, 7, 8, 9, 10, 11, 12, 13, 14, 15, 16] rfl rfl 0 rfl rfl rfl hl.1 rfl (Nat.le_of_ble_eq_true rfl) dX6_settle_7 ⟨Nat.zero_le _, Nat.zero_le _⟩) hA hP hD hS [3, 4, 5, 6, 7, 8, 9, 10, 11, 12, 13, 14, 15, 16] [0, 1, 2] rfl rfl rfl (by decide) (fun r w1 H locs hq_7 hP hD hS => ?_)
  obtain ⟨k2, rfl, rfl, hkn2_7⟩ := hq_7
  have hP : va_P g.1 classes [(a 24, .inr (6, [.ref (a 25), .ref (a 26), .int (nI ow), .int (nI eg), .long (lN mk)])), (a 25, .inl (gI g, 256, .inl (nF cs))), (a 26, .inl (gJ g, 256, .inr (.inl (lF w)))), (a 14, .inr (0, [.ref (a 5), .ref (a 8), .ref (a 16), .ref (a 15), .int (nI ou), .int (nI dp), .int (nI mo)])), (a 15, .inl (gI g, 384, .inl k2)), (a 5, .inr (5, [.ref (a 1), .ref (a 6), .ref (a 7), .int br, .int (nI hi)])), (a 6, .inl (gI g, 6, .inl sx)), (a 7, .inl (gI g, 6, .inl sy)), (a 1, .inr (3, [.ref (a 2), .ref (a 3), .ref (a 4), .int la])), (a 2, .inl (gI g, 1152, .inl it)), (a 4, .inl (gI g, 18, .inl (nF sz))), (a 8, .inr (4, [.ref (a 9), .ref (a 10), .ref (a 11), .int (nI n), .ref (a 12), .ref (a 13), .int (nI tn)])), (a 12, .inl (gI g, 40, .inl (nF kc))), (a 13, .inl (gI g, 160, .inl ge)), (a 16, .inr (7, [.ref (a 17), .ref (a 18), .ref (a 19), .ref (a 20), .ref (a 21), .ref (a 22), .ref (a 23), .int (nI bf), .int bn, .long (lN bt), .long (lN bb)])), (a 17, .inl (gI g, 15, .inl sp)), (a 18, .inl (gI g, 15, .inl nu))] H := hP
  have hD : va_D A [(a 24, .inr (6, [.ref (a 25), .ref (a 26), .int (nI ow), .int (nI eg), .long (lN mk)])), (a 25, .inl (gI g, 256, .inl (nF cs))), (a 26, .inl (gJ g, 256, .inr (.inl (lF w)))), (a 14, .inr (0, [.ref (a 5), .ref (a 8), .ref (a 16), .ref (a 15), .int (nI ou), .int (nI dp), .int (nI mo)])), (a 15, .inl (gI g, 384, .inl k2)), (a 5, .inr (5, [.ref (a 1), .ref (a 6), .ref (a 7), .int br, .int (nI hi)])), (a 6, .inl (gI g, 6, .inl sx)), (a 7, .inl (gI g, 6, .inl sy)), (a 1, .inr (3, [.ref (a 2), .ref (a 3), .ref (a 4), .int la])), (a 2, .inl (gI g, 1152, .inl it)), (a 4, .inl (gI g, 18, .inl (nF sz))), (a 8, .inr (4, [.ref (a 9), .ref (a 10), .ref (a 11), .int (nI n), .ref (a 12), .ref (a 13), .int (nI tn)])), (a 12, .inl (gI g, 40, .inl (nF kc))), (a 13, .inl (gI g, 160, .inl ge)), (a 16, .inr (7, [.ref (a 17), .ref (a 18), .ref (a 19), .ref (a 20), .ref (a 21), .ref (a 22), .ref (a 23), .int (nI bf), .int bn, .long (lN bt), .long (lN bb)])), (a 17, .inl (gI g, 15, .inl sp)), (a 18, .inl (gI g, 15, .inl nu))] := hD
  have htl := tlF_le (rdC it sz, (br, hi, sx, sy), (sd, sc, sk, n), dp, mo) d (nI k1) 64
  refine w_imul (z := nI (ow * (tlF (rdC it sz, (br, hi, sx, sy), (sd, sc, sk, n), dp, mo) d (nI k1) 64))) (pc := 10) hx hb dX6_settle_10 (pk_mul ow (tlF (rdC it sz, (br, hi, sx, sy), (sd, sc, sk, n), dp, mo) d (nI k1) 64)) ?_
  refine n_if_ne (tgt := 21) (pc := 11) hx hb (ow * (tlF (rdC it sz, (br, hi, sx, sy), (sd, sc, sk, n), dp, mo) d (nI k1) 64)) (by have := Nat.mul_le_mul how htl; omega) dX6_settle_11 (by decide) (fun h_11 => ?_) (fun h_11 => ?_)
  · skip
    refine lv_aload_n (pc := 21) hx hb dX6_settle_21 rfl (lv_at hl 0 rfl) ?_
    refine va_get (D := g.1) (ci := 6) (v := .ref (a 25)) (C := RX6) (T := TX6) (N := 5) (index := 11) (pc := 22) hx hb hts inX6 hown hK hP 0 rfl rfl 0 (by decide) (hts _ wd_1_169) (fun _ h9 => h9) rfl dX6_settle_22 ?_
    refine lv_ldc (v := (536870912 : Int32)) (pc := 25) hx hb hown (hts _ wd_3_52) dX6_settle_25 ?_
    refine call_v (wr := [(a 24, .inr (6, [.ref (a 25), .ref (a 26), .int (nI ow), .int (nI eg), .long (lN mk)])), (a 26, .inl (gJ g, 256, .inr (.inl (lF w)))), (a 14, .inr (0, [.ref (a 5), .ref (a 8), .ref (a 16), .ref (a 15), .int (nI ou), .int (nI dp), .int (nI mo)])), (a 15, .inl (gI g, 384, .inl k2)), (a 5, .inr (5, [.ref (a 1), .ref (a 6), .ref (a 7), .int br, .int (nI hi)])), (a 6, .inl (gI g, 6, .inl sx)), (a 7, .inl (gI g, 6, .inl sy)), (a 1, .inr (3, [.ref (a 2), .ref (a 3), .ref (a 4), .int la])), (a 2, .inl (gI g, 1152, .inl it)), (a 4, .inl (gI g, 18, .inl (nF sz))), (a 8, .inr (4, [.ref (a 9), .ref (a 10), .ref (a 11), .int (nI n), .ref (a 12), .ref (a 13), .int (nI tn)])), (a 12, .inl (gI g, 40, .inl (nF kc))), (a 13, .inl (gI g, 160, .inl ge)), (a 16, .inr (7, [.ref (a 17), .ref (a 18), .ref (a 19), .ref (a 20), .ref (a 21), .ref (a 22), .ref (a 23), .int (nI bf), .int bn, .long (lN bt), .long (lN bb)])), (a 17, .inl (gI g, 15, .inl sp)), (a 18, .inl (gI g, 15, .inl nu))]) (pc := 27) (run_S (wc := [(a 25, .inl (gI g, 256, .inl (nF cs)))]) (As := [.ref (a 25), .int (536870912 : Int32)]) (rest := []) (pc := 27) hx hb hml hown hts hA hK hX (Nat.le_trans (by decide) hRf) (Nat.le_trans (by decide) hRl) hP hD hS (c_J7_fill_53178 l g (ad := a 25) (len := 256) (f := nF cs) (x := (536870912 : Int32)) (by decide)) wd_3_53 wd_1_29 wd_1_3 wd_1_30 hdJ7_fill_53178 [1] rfl rfl rfl hl.1 rfl (Nat.le_of_ble_eq_true rfl) dX6_settle_27 ⟨Nat.zero_le _, Nat.zero_le _⟩) hA hP hD hS [1] [0, 2, 3, 4, 5, 6, 7, 8, 9, 10, 11, 12, 13, 14, 15, 16] rfl rfl rfl (by decide) (fun w1 H locs hq_27 hP hD hS => ?_)
    obtain rfl := hq_27
    have hP : va_P g.1 classes [(a 24, .inr (6, [.ref (a 25), .ref (a 26), .int (nI ow), .int (nI eg), .long (lN mk)])), (a 26, .inl (gJ g, 256, .inr (.inl (lF w)))), (a 14, .inr (0, [.ref (a 5), .ref (a 8), .ref (a 16), .ref (a 15), .int (nI ou), .int (nI dp), .int (nI mo)])), (a 15, .inl (gI g, 384, .inl k2)), (a 5, .inr (5, [.ref (a 1), .ref (a 6), .ref (a 7), .int br, .int (nI hi)])), (a 6, .inl (gI g, 6, .inl sx)), (a 7, .inl (gI g, 6, .inl sy)), (a 1, .inr (3, [.ref (a 2), .ref (a 3), .ref (a 4), .int la])), (a 2, .inl (gI g, 1152, .inl it)), (a 4, .inl (gI g, 18, .inl (nF sz))), (a 8, .inr (4, [.ref (a 9), .ref (a 10), .ref (a 11), .int (nI n), .ref (a 12), .ref (a 13), .int (nI tn)])), (a 12, .inl (gI g, 40, .inl (nF kc))), (a 13, .inl (gI g, 160, .inl ge)), (a 16, .inr (7, [.ref (a 17), .ref (a 18), .ref (a 19), .ref (a 20), .ref (a 21), .ref (a 22), .ref (a 23), .int (nI bf), .int bn, .long (lN bt), .long (lN bb)])), (a 17, .inl (gI g, 15, .inl sp)), (a 18, .inl (gI g, 15, .inl nu)), (a 25, .inl (gI g, 256, .inl (fillF (nF cs) 0 256 (536870912 : Int32))))] H := hP
    have hD : va_D A [(a 24, .inr (6, [.ref (a 25), .ref (a 26), .int (nI ow), .int (nI eg), .long (lN mk)])), (a 26, .inl (gJ g, 256, .inr (.inl (lF w)))), (a 14, .inr (0, [.ref (a 5), .ref (a 8), .ref (a 16), .ref (a 15), .int (nI ou), .int (nI dp), .int (nI mo)])), (a 15, .inl (gI g, 384, .inl k2)), (a 5, .inr (5, [.ref (a 1), .ref (a 6), .ref (a 7), .int br, .int (nI hi)])), (a 6, .inl (gI g, 6, .inl sx)), (a 7, .inl (gI g, 6, .inl sy)), (a 1, .inr (3, [.ref (a 2), .ref (a 3), .ref (a 4), .int la])), (a 2, .inl (gI g, 1152, .inl it)), (a 4, .inl (gI g, 18, .inl (nF sz))), (a 8, .inr (4, [.ref (a 9), .ref (a 10), .ref (a 11), .int (nI n), .ref (a 12), .ref (a 13), .int (nI tn)])), (a 12, .inl (gI g, 40, .inl (nF kc))), (a 13, .inl (gI g, 160, .inl ge)), (a 16, .inr (7, [.ref (a 17), .ref (a 18), .ref (a 19), .ref (a 20), .ref (a 21), .ref (a 22), .ref (a 23), .int (nI bf), .int bn, .long (lN bt), .long (lN bb)])), (a 17, .inl (gI g, 15, .inl sp)), (a 18, .inl (gI g, 15, .inl nu)), (a 25, .inl (gI g, 256, .inl (fillF (nF cs) 0 256 (536870912 : Int32))))] := hD
    rw [show fillF (nF cs) 0 256 (536870912 : Int32) = nF (fillN cs 0 256 536870912) from fill_nF _ _ _ 536870912] at hP hD
    refine lv_aload_n (pc := 30) hx hb dX6_settle_30 rfl (lv_at hl 0 rfl) ?_
    refine va_get (D := g.1) (ci := 6) (v := .ref (a 25)) (C := RX6) (T := TX6) (N := 5) (index := 11) (pc := 31) hx hb hts inX6 hown hK hP 0 rfl rfl 0 (by decide) (hts _ wd_1_169) (fun _ h9 => h9) rfl dX6_settle_31 ?_
    refine lv_iconst (v := (0 : Int32)) (pc := 34) hx hb dX6_settle_34 (by decide) ?_
    refine lv_iconst (v := (0 : Int32)) (pc := 35) hx hb dX6_settle_35 (by decide) ?_
    refine w_iast (f := nF (fillN cs 0 256 536870912)) (f' := nF (up (fillN cs 0 256 536870912) 0 0)) (k := 0) (ws' := [(a 24, .inr (6, [.ref (a 25), .ref (a 26), .int (nI ow), .int (nI eg), .long (lN mk)])), (a 26, .inl (gJ g, 256, .inr (.inl (lF w)))), (a 14, .inr (0, [.ref (a 5), .ref (a 8), .ref (a 16), .ref (a 15), .int (nI ou), .int (nI dp), .int (nI mo)])), (a 15, .inl (gI g, 384, .inl k2)), (a 5, .inr (5, [.ref (a 1), .ref (a 6), .ref (a 7), .int br, .int (nI hi)])), (a 6, .inl (gI g, 6, .inl sx)), (a 7, .inl (gI g, 6, .inl sy)), (a 1, .inr (3, [.ref (a 2), .ref (a 3), .ref (a 4), .int la])), (a 2, .inl (gI g, 1152, .inl it)), (a 4, .inl (gI g, 18, .inl (nF sz))), (a 8, .inr (4, [.ref (a 9), .ref (a 10), .ref (a 11), .int (nI n), .ref (a 12), .ref (a 13), .int (nI tn)])), (a 12, .inl (gI g, 40, .inl (nF kc))), (a 13, .inl (gI g, 160, .inl ge)), (a 16, .inr (7, [.ref (a 17), .ref (a 18), .ref (a 19), .ref (a 20), .ref (a 21), .ref (a 22), .ref (a 23), .int (nI bf), .int bn, .long (lN bt), .long (lN bb)])), (a 17, .inl (gI g, 15, .inl sp)), (a 18, .inl (gI g, 15, .inl nu)), (a 25, .inl (gI g, 256, .inl (nF (up (fillN cs 0 256 536870912) 0 0))))]) (pc := 36) hx hb hK hP hD hS 16 rfl (by omega) (by first | decide | assumption) (nF_up _ _ _) rfl dX6_settle_36 (fun H locs hP hD hS => ?_)
    refine lv_aload_n (pc := 37) hx hb dX6_settle_37 rfl (lv_at hl 0 rfl) ?_
    refine va_get (D := g.1) (ci := 6) (v := .ref (a 26)) (C := RX6) (T := TX6) (N := 5) (index := 15) (pc := 38) hx hb hts inX6 hown hK hP 0 rfl rfl 1 (by decide) (hts _ wd_1_170) (fun _ h9 => h9) rfl dX6_settle_38 ?_
    refine lv_iconst (v := (0 : Int32)) (pc := 41) hx hb dX6_settle_41 (by decide) ?_
    refine lv_lconst (v := (0 : Int64)) (pc := 42) hx hb dX6_settle_42 (by decide) ?_
    refine w_last (f := lF w) (f' := lF (up w 0 0)) (k := 0) (ws' := [(a 24, .inr (6, [.ref (a 25), .ref (a 26), .int (nI ow), .int (nI eg), .long (lN mk)])), (a 26, .inl (gJ g, 256, .inr (.inl (lF (up w 0 0))))), (a 14, .inr (0, [.ref (a 5), .ref (a 8), .ref (a 16), .ref (a 15), .int (nI ou), .int (nI dp), .int (nI mo)])), (a 15, .inl (gI g, 384, .inl k2)), (a 5, .inr (5, [.ref (a 1), .ref (a 6), .ref (a 7), .int br, .int (nI hi)])), (a 6, .inl (gI g, 6, .inl sx)), (a 7, .inl (gI g, 6, .inl sy)), (a 1, .inr (3, [.ref (a 2), .ref (a 3), .ref (a 4), .int la])), (a 2, .inl (gI g, 1152, .inl it)), (a 4, .inl (gI g, 18, .inl (nF sz))), (a 8, .inr (4, [.ref (a 9), .ref (a 10), .ref (a 11), .int (nI n), .ref (a 12), .ref (a 13), .int (nI tn)])), (a 12, .inl (gI g, 40, .inl (nF kc))), (a 13, .inl (gI g, 160, .inl ge)), (a 16, .inr (7, [.ref (a 17), .ref (a 18), .ref (a 19), .ref (a 20), .ref (a 21), .ref (a 22), .ref (a 23), .int (nI bf), .int bn, .long (lN bt), .long (lN bb)])), (a 17, .inl (gI g, 15, .inl sp)), (a 18, .inl (gI g, 15, .inl nu)), (a 25, .inl (gI g, 256, .inl (nF (up (fillN cs 0 256 536870912) 0 0))))]) (pc := 43) hx hb hK hP hD hS 1 rfl (by omega) (by first | decide | assumption) (lF_up _ _ _) rfl dX6_settle_43 (fun H locs hP hD hS => ?_)
    refine lv_iconst (v := (0 : Int32)) (pc := 44) hx hb dX6_settle_44 (by decide) ?_
    refine lv_istore (lv' := [(4, .int (0 : Int32)), (0, .ref (a 24)), (1, .ref (a 14)), (2, .int (nI d)), (3, .int (nI k1))]) (pc := 45) hx hb dX6_settle_45 hl (by decide) rfl (fun ls hl => ?_)
    have L47 : ∀ (nn : Nat) (i : Nat) (c1 : Nat → Nat) (w1 : Nat → Nat) (k3 : Nat → Int32) (hi9 : i ≤ 64) (hsi : SI (fun i => 128 * (if kindF (rdC it sz, (br, hi, sx, sy), (sd, sc, sk, n), dp, mo) d i = nI k1 then ow else 0)) (fun i => 128 * (if kindF (rdC it sz, (br, hi, sx, sy), (sd, sc, sk, n), dp, mo) d i = nI k1 then 0 else if kindF (rdC it sz, (br, hi, sx, sy), (sd, sc, sk, n), dp, mo) d i = -1 then 0 else ow) + 1) (128 * eg) i c1 w1) (hkn1 : KN (rdC it sz, (br, hi, sx, sy), (sd, sc, sk, n), dp, mo) k3), 64 - i < nn → ∀ (H : Heap) (locs : List Loc) (ls : Array Slot), va_P g.1 classes [(a 24, .inr (6, [.ref (a 25), .ref (a 26), .int (nI ow), .int (nI eg), .long (lN mk)])), (a 26, .inl (gJ g, 256, .inr (.inl (lF w1)))), (a 14, .inr (0, [.ref (a 5), .ref (a 8), .ref (a 16), .ref (a 15), .int (nI ou), .int (nI dp), .int (nI mo)])), (a 15, .inl (gI g, 384, .inl k3)), (a 5, .inr (5, [.ref (a 1), .ref (a 6), .ref (a 7), .int br, .int (nI hi)])), (a 6, .inl (gI g, 6, .inl sx)), (a 7, .inl (gI g, 6, .inl sy)), (a 1, .inr (3, [.ref (a 2), .ref (a 3), .ref (a 4), .int la])), (a 2, .inl (gI g, 1152, .inl it)), (a 4, .inl (gI g, 18, .inl (nF sz))), (a 8, .inr (4, [.ref (a 9), .ref (a 10), .ref (a 11), .int (nI n), .ref (a 12), .ref (a 13), .int (nI tn)])), (a 12, .inl (gI g, 40, .inl (nF kc))), (a 13, .inl (gI g, 160, .inl ge)), (a 16, .inr (7, [.ref (a 17), .ref (a 18), .ref (a 19), .ref (a 20), .ref (a 21), .ref (a 22), .ref (a 23), .int (nI bf), .int bn, .long (lN bt), .long (lN bb)])), (a 17, .inl (gI g, 15, .inl sp)), (a 18, .inl (gI g, 15, .inl nu)), (a 25, .inl (gI g, 256, .inl (nF c1)))] H → va_D A [(a 24, .inr (6, [.ref (a 25), .ref (a 26), .int (nI ow), .int (nI eg), .long (lN mk)])), (a 26, .inl (gJ g, 256, .inr (.inl (lF w1)))), (a 14, .inr (0, [.ref (a 5), .ref (a 8), .ref (a 16), .ref (a 15), .int (nI ou), .int (nI dp), .int (nI mo)])), (a 15, .inl (gI g, 384, .inl k3)), (a 5, .inr (5, [.ref (a 1), .ref (a 6), .ref (a 7), .int br, .int (nI hi)])), (a 6, .inl (gI g, 6, .inl sx)), (a 7, .inl (gI g, 6, .inl sy)), (a 1, .inr (3, [.ref (a 2), .ref (a 3), .ref (a 4), .int la])), (a 2, .inl (gI g, 1152, .inl it)), (a 4, .inl (gI g, 18, .inl (nF sz))), (a 8, .inr (4, [.ref (a 9), .ref (a 10), .ref (a 11), .int (nI n), .ref (a 12), .ref (a 13), .int (nI tn)])), (a 12, .inl (gI g, 40, .inl (nF kc))), (a 13, .inl (gI g, 160, .inl ge)), (a 16, .inr (7, [.ref (a 17), .ref (a 18), .ref (a 19), .ref (a 20), .ref (a 21), .ref (a 22), .ref (a 23), .int (nI bf), .int bn, .long (lN bt), .long (lN bb)])), (a 17, .inl (gI g, 15, .inl sp)), (a 18, .inl (gI g, 15, .inl nu)), (a 25, .inl (gI g, 256, .inl (nF c1)))] → va_S A s.heap H locs → lv_has ls 8 [(0, .ref (a 24)), (1, .ref (a 14)), (2, .int (nI d)), (3, .int (nI k1)), (4, .int (nI i))] → W p l e R s m args below meth c H locs 0 0 Q (F0 m 47 ls []) := by
      intro nn
      induction nn with
      | zero => exact fun i c1 w1 k3 hi9 hsi hkn1 hm => absurd hm (Nat.not_lt_zero _)
      | succ nn ih47 =>
        intro i c1 w1 k3 hi9 hsi hkn1 hm47 H locs ls hP hD hS hl
        have hcb1 := SI_b hsi hi9
        refine lv_iload (pc := 47) hx hb dX6_settle_47 (lv_at hl 4 rfl) ?_
        refine lv_bipush (v := (64 : Int32)) (pc := 49) hx hb dX6_settle_49 (by decide) ?_
        refine n_icmp_ge (tgt := 127) (pc := 51) hx hb i 64 (by omega) (by omega) dX6_settle_51 (by decide) (fun h_51 => ?_) (fun h_51 => ?_)
        · skip
          refine lv_aload_n (pc := 127) hx hb dX6_settle_127 rfl (lv_at hl 0 rfl) ?_
          refine call_i (wr := [(a 14, .inr (0, [.ref (a 5), .ref (a 8), .ref (a 16), .ref (a 15), .int (nI ou), .int (nI dp), .int (nI mo)])), (a 15, .inl (gI g, 384, .inl k3)), (a 5, .inr (5, [.ref (a 1), .ref (a 6), .ref (a 7), .int br, .int (nI hi)])), (a 6, .inl (gI g, 6, .inl sx)), (a 7, .inl (gI g, 6, .inl sy)), (a 1, .inr (3, [.ref (a 2), .ref (a 3), .ref (a 4), .int la])), (a 2, .inl (gI g, 1152, .inl it)), (a 4, .inl (gI g, 18, .inl (nF sz))), (a 8, .inr (4, [.ref (a 9), .ref (a 10), .ref (a 11), .int (nI n), .ref (a 12), .ref (a 13), .int (nI tn)])), (a 12, .inl (gI g, 40, .inl (nF kc))), (a 13, .inl (gI g, 160, .inl ge)), (a 16, .inr (7, [.ref (a 17), .ref (a 18), .ref (a 19), .ref (a 20), .ref (a 21), .ref (a 22), .ref (a 23), .int (nI bf), .int bn, .long (lN bt), .long (lN bb)])), (a 17, .inl (gI g, 15, .inl sp)), (a 18, .inl (gI g, 15, .inl nu))]) (pc := 128) (run_V (wc := [(a 24, .inr (6, [.ref (a 25), .ref (a 26), .int (nI ow), .int (nI eg), .long (lN mk)])), (a 25, .inl (gI g, 256, .inl (nF c1))), (a 26, .inl (gJ g, 256, .inr (.inl (lF w1))))]) (As := []) (rest := []) (pc := 128) hx hb hml hown hts hA hK hX (Nat.le_trans (by decide) hRf) (Nat.le_trans (by decide) hRl) hP hD hS (c_X6_takeBest l g (a := a) (cs := c1) (w := w1) (ow := ow) (eg := eg) (mk := mk) (fun f hf => by have := hcb1 f hf; omega)) wd_3_63 wd_3_65 wd_0_12 wd_1_8 wd_3_66 hdX6_takeBest [0, 16, 1] rfl rfl 0 rfl rfl rfl hl.1 rfl (Nat.le_of_ble_eq_true rfl) dX6_settle_128 ⟨Nat.zero_le _, Nat.zero_le _⟩) hA hP hD hS [0, 16, 1] [2, 3, 4, 5, 6, 7, 8, 9, 10, 11, 12, 13, 14, 15] rfl rfl rfl (by decide) (fun r w1 H locs hq_128 hP hD hS => ?_)
          obtain ⟨be1, rfl, rfl, hbe_128, hmin_128⟩ := hq_128
          have hP : va_P g.1 classes [(a 14, .inr (0, [.ref (a 5), .ref (a 8), .ref (a 16), .ref (a 15), .int (nI ou), .int (nI dp), .int (nI mo)])), (a 15, .inl (gI g, 384, .inl k3)), (a 5, .inr (5, [.ref (a 1), .ref (a 6), .ref (a 7), .int br, .int (nI hi)])), (a 6, .inl (gI g, 6, .inl sx)), (a 7, .inl (gI g, 6, .inl sy)), (a 1, .inr (3, [.ref (a 2), .ref (a 3), .ref (a 4), .int la])), (a 2, .inl (gI g, 1152, .inl it)), (a 4, .inl (gI g, 18, .inl (nF sz))), (a 8, .inr (4, [.ref (a 9), .ref (a 10), .ref (a 11), .int (nI n), .ref (a 12), .ref (a 13), .int (nI tn)])), (a 12, .inl (gI g, 40, .inl (nF kc))), (a 13, .inl (gI g, 160, .inl ge)), (a 16, .inr (7, [.ref (a 17), .ref (a 18), .ref (a 19), .ref (a 20), .ref (a 21), .ref (a 22), .ref (a 23), .int (nI bf), .int bn, .long (lN bt), .long (lN bb)])), (a 17, .inl (gI g, 15, .inl sp)), (a 18, .inl (gI g, 15, .inl nu)), (a 24, .inr (6, [.ref (a 25), .ref (a 26), .int (nI ow), .int (nI eg), .long (lN (w1 be1))])), (a 25, .inl (gI g, 256, .inl (nF c1))), (a 26, .inl (gJ g, 256, .inr (.inl (lF w1))))] H := hP
          have hD : va_D A [(a 14, .inr (0, [.ref (a 5), .ref (a 8), .ref (a 16), .ref (a 15), .int (nI ou), .int (nI dp), .int (nI mo)])), (a 15, .inl (gI g, 384, .inl k3)), (a 5, .inr (5, [.ref (a 1), .ref (a 6), .ref (a 7), .int br, .int (nI hi)])), (a 6, .inl (gI g, 6, .inl sx)), (a 7, .inl (gI g, 6, .inl sy)), (a 1, .inr (3, [.ref (a 2), .ref (a 3), .ref (a 4), .int la])), (a 2, .inl (gI g, 1152, .inl it)), (a 4, .inl (gI g, 18, .inl (nF sz))), (a 8, .inr (4, [.ref (a 9), .ref (a 10), .ref (a 11), .int (nI n), .ref (a 12), .ref (a 13), .int (nI tn)])), (a 12, .inl (gI g, 40, .inl (nF kc))), (a 13, .inl (gI g, 160, .inl ge)), (a 16, .inr (7, [.ref (a 17), .ref (a 18), .ref (a 19), .ref (a 20), .ref (a 21), .ref (a 22), .ref (a 23), .int (nI bf), .int bn, .long (lN bt), .long (lN bb)])), (a 17, .inl (gI g, 15, .inl sp)), (a 18, .inl (gI g, 15, .inl nu)), (a 24, .inr (6, [.ref (a 25), .ref (a 26), .int (nI ow), .int (nI eg), .long (lN (w1 be1))])), (a 25, .inl (gI g, 256, .inl (nF c1))), (a 26, .inl (gJ g, 256, .inr (.inl (lF w1))))] := hD
          have hP : va_P g.1 classes [(a 24, .inr (6, [.ref (a 25), .ref (a 26), .int (nI ow), .int (nI eg), .long (lN (w1 be1))])), (a 25, .inl (gI g, 256, .inl (nF c1))), (a 26, .inl (gJ g, 256, .inr (.inl (lF w1)))), (a 14, .inr (0, [.ref (a 5), .ref (a 8), .ref (a 16), .ref (a 15), .int (nI ou), .int (nI dp), .int (nI mo)])), (a 15, .inl (gI g, 384, .inl k3)), (a 5, .inr (5, [.ref (a 1), .ref (a 6), .ref (a 7), .int br, .int (nI hi)])), (a 6, .inl (gI g, 6, .inl sx)), (a 7, .inl (gI g, 6, .inl sy)), (a 1, .inr (3, [.ref (a 2), .ref (a 3), .ref (a 4), .int la])), (a 2, .inl (gI g, 1152, .inl it)), (a 4, .inl (gI g, 18, .inl (nF sz))), (a 8, .inr (4, [.ref (a 9), .ref (a 10), .ref (a 11), .int (nI n), .ref (a 12), .ref (a 13), .int (nI tn)])), (a 12, .inl (gI g, 40, .inl (nF kc))), (a 13, .inl (gI g, 160, .inl ge)), (a 16, .inr (7, [.ref (a 17), .ref (a 18), .ref (a 19), .ref (a 20), .ref (a 21), .ref (a 22), .ref (a 23), .int (nI bf), .int bn, .long (lN bt), .long (lN bb)])), (a 17, .inl (gI g, 15, .inl sp)), (a 18, .inl (gI g, 15, .inl nu))] H := hP.sub [14, 15, 16, 0, 1, 2, 3, 4, 5, 6, 7, 8, 9, 10, 11, 12, 13] rfl
          have hD : va_D A [(a 24, .inr (6, [.ref (a 25), .ref (a 26), .int (nI ow), .int (nI eg), .long (lN (w1 be1))])), (a 25, .inl (gI g, 256, .inl (nF c1))), (a 26, .inl (gJ g, 256, .inr (.inl (lF w1)))), (a 14, .inr (0, [.ref (a 5), .ref (a 8), .ref (a 16), .ref (a 15), .int (nI ou), .int (nI dp), .int (nI mo)])), (a 15, .inl (gI g, 384, .inl k3)), (a 5, .inr (5, [.ref (a 1), .ref (a 6), .ref (a 7), .int br, .int (nI hi)])), (a 6, .inl (gI g, 6, .inl sx)), (a 7, .inl (gI g, 6, .inl sy)), (a 1, .inr (3, [.ref (a 2), .ref (a 3), .ref (a 4), .int la])), (a 2, .inl (gI g, 1152, .inl it)), (a 4, .inl (gI g, 18, .inl (nF sz))), (a 8, .inr (4, [.ref (a 9), .ref (a 10), .ref (a 11), .int (nI n), .ref (a 12), .ref (a 13), .int (nI tn)])), (a 12, .inl (gI g, 40, .inl (nF kc))), (a 13, .inl (gI g, 160, .inl ge)), (a 16, .inr (7, [.ref (a 17), .ref (a 18), .ref (a 19), .ref (a 20), .ref (a 21), .ref (a 22), .ref (a 23), .int (nI bf), .int bn, .long (lN bt), .long (lN bb)])), (a 17, .inl (gI g, 15, .inl sp)), (a 18, .inl (gI g, 15, .inl nu))] := hD.sub [14, 15, 16, 0, 1, 2, 3, 4, 5, 6, 7, 8, 9, 10, 11, 12, 13] rfl rfl
          have e64 : i = 64 := by omega
          subst e64
          have hend := SI_end hsi hbe_128 hmin_128
          exact hRet _ _ _ _ _ _ hP hD hS dX6_settle_131 ⟨_, c1, w1, k3, (by rw [hend.2.1]), rfl, hkn1, hend.1, hend.2.2⟩
        · skip
          refine lv_aload_n (pc := 54) hx hb dX6_settle_54 rfl (lv_at hl 1 rfl) ?_
          refine lv_iload_n (pc := 55) hx hb dX6_settle_55 rfl (lv_at hl 2 rfl) ?_
          refine lv_iload (pc := 56) hx hb dX6_settle_56 (lv_at hl 4 rfl) ?_
          refine call_i (wr := [(a 24, .inr (6, [.ref (a 25), .ref (a 26), .int (nI ow), .int (nI eg), .long (lN mk)])), (a 26, .inl (gJ g, 256, .inr (.inl (lF w1)))), (a 25, .inl (gI g, 256, .inl (nF c1)))]) (pc := 58) (run_V (wc := [(a 14, .inr (0, [.ref (a 5), .ref (a 8), .ref (a 16), .ref (a 15), .int (nI ou), .int (nI dp), .int (nI mo)])), (a 15, .inl (gI g, 384, .inl k3)), (a 5, .inr (5, [.ref (a 1), .ref (a 6), .ref (a 7), .int br, .int (nI hi)])), (a 6, .inl (gI g, 6, .inl sx)), (a 7, .inl (gI g, 6, .inl sy)), (a 1, .inr (3, [.ref (a 2), .ref (a 3), .ref (a 4), .int la])), (a 2, .inl (gI g, 1152, .inl it)), (a 4, .inl (gI g, 18, .inl (nF sz))), (a 8, .inr (4, [.ref (a 9), .ref (a 10), .ref (a 11), .int (nI n), .ref (a 12), .ref (a 13), .int (nI tn)])), (a 12, .inl (gI g, 40, .inl (nF kc))), (a 13, .inl (gI g, 160, .inl ge)), (a 16, .inr (7, [.ref (a 17), .ref (a 18), .ref (a 19), .ref (a 20), .ref (a 21), .ref (a 22), .ref (a 23), .int (nI bf), .int bn, .long (lN bt), .long (lN bb)])), (a 17, .inl (gI g, 15, .inl sp)), (a 18, .inl (gI g, 15, .inl nu))]) (As := [.int (nI d), .int (nI i)]) (rest := []) (pc := 58) hx hb hml hown hts hA hK hX (Nat.le_trans (by decide) hRf) (Nat.le_trans (by decide) hRl) hP hD hS (c_X0_classAt l g (a := a) (it := it) (sz := sz) (la := la) (br := br) (hi := hi) (sx := sx) (sy := sy) (sd := sd) (sc := sc) (sk := sk) (n := n) (tn := tn) (kc := kc) (ge := ge) (sp := sp) (nu := nu) (st := st) (en := en) (bf := bf) (bt := bt) (bb := bb) (bn := bn) (ou := ou) (dp := dp) (mo := mo) (kn := k3) (d := d) (k := i) (by first | assumption | omega) (by first | assumption | omega) (by first | assumption | omega) (by first | assumption | omega) (by first | assumption | omega) hkn1 (by first | assumption | omega) (by first | assumption | omega)) wd_3_54 wd_3_10 wd_3_11 wd_1_6 wd_3_12 hdX0_classAt [2, 3, 4, 5, 6, 7, 8, 9, 10, 11, 12, 13, 14, 15] rfl rfl 0 rfl rfl rfl hl.1 rfl (Nat.le_of_ble_eq_true rfl) dX6_settle_58 ⟨Nat.zero_le _, Nat.zero_le _⟩) hA hP hD hS [2, 3, 4, 5, 6, 7, 8, 9, 10, 11, 12, 13, 14, 15] [0, 1, 16] rfl rfl rfl (by decide) (fun r w1 H locs hq_58 hP hD hS => ?_)
          obtain ⟨k4, rfl, rfl, hkn2_58⟩ := hq_58
          have hP : va_P g.1 classes [(a 24, .inr (6, [.ref (a 25), .ref (a 26), .int (nI ow), .int (nI eg), .long (lN mk)])), (a 26, .inl (gJ g, 256, .inr (.inl (lF w1)))), (a 25, .inl (gI g, 256, .inl (nF c1))), (a 14, .inr (0, [.ref (a 5), .ref (a 8), .ref (a 16), .ref (a 15), .int (nI ou), .int (nI dp), .int (nI mo)])), (a 15, .inl (gI g, 384, .inl k4)), (a 5, .inr (5, [.ref (a 1), .ref (a 6), .ref (a 7), .int br, .int (nI hi)])), (a 6, .inl (gI g, 6, .inl sx)), (a 7, .inl (gI g, 6, .inl sy)), (a 1, .inr (3, [.ref (a 2), .ref (a 3), .ref (a 4), .int la])), (a 2, .inl (gI g, 1152, .inl it)), (a 4, .inl (gI g, 18, .inl (nF sz))), (a 8, .inr (4, [.ref (a 9), .ref (a 10), .ref (a 11), .int (nI n), .ref (a 12), .ref (a 13), .int (nI tn)])), (a 12, .inl (gI g, 40, .inl (nF kc))), (a 13, .inl (gI g, 160, .inl ge)), (a 16, .inr (7, [.ref (a 17), .ref (a 18), .ref (a 19), .ref (a 20), .ref (a 21), .ref (a 22), .ref (a 23), .int (nI bf), .int bn, .long (lN bt), .long (lN bb)])), (a 17, .inl (gI g, 15, .inl sp)), (a 18, .inl (gI g, 15, .inl nu))] H := hP
          have hD : va_D A [(a 24, .inr (6, [.ref (a 25), .ref (a 26), .int (nI ow), .int (nI eg), .long (lN mk)])), (a 26, .inl (gJ g, 256, .inr (.inl (lF w1)))), (a 25, .inl (gI g, 256, .inl (nF c1))), (a 14, .inr (0, [.ref (a 5), .ref (a 8), .ref (a 16), .ref (a 15), .int (nI ou), .int (nI dp), .int (nI mo)])), (a 15, .inl (gI g, 384, .inl k4)), (a 5, .inr (5, [.ref (a 1), .ref (a 6), .ref (a 7), .int br, .int (nI hi)])), (a 6, .inl (gI g, 6, .inl sx)), (a 7, .inl (gI g, 6, .inl sy)), (a 1, .inr (3, [.ref (a 2), .ref (a 3), .ref (a 4), .int la])), (a 2, .inl (gI g, 1152, .inl it)), (a 4, .inl (gI g, 18, .inl (nF sz))), (a 8, .inr (4, [.ref (a 9), .ref (a 10), .ref (a 11), .int (nI n), .ref (a 12), .ref (a 13), .int (nI tn)])), (a 12, .inl (gI g, 40, .inl (nF kc))), (a 13, .inl (gI g, 160, .inl ge)), (a 16, .inr (7, [.ref (a 17), .ref (a 18), .ref (a 19), .ref (a 20), .ref (a 21), .ref (a 22), .ref (a 23), .int (nI bf), .int bn, .long (lN bt), .long (lN bb)])), (a 17, .inl (gI g, 15, .inl sp)), (a 18, .inl (gI g, 15, .inl nu))] := hD
          refine lv_istore (lv' := [(5, .int (kindF (rdC it sz, (br, hi, sx, sy), (sd, sc, sk, n), dp, mo) d i)), (0, .ref (a 24)), (1, .ref (a 14)), (2, .int (nI d)), (3, .int (nI k1)), (4, .int (nI i))]) (pc := 61) hx hb dX6_settle_61 hl (by decide) rfl (fun ls hl => ?_)
          refine lv_iload (pc := 63) hx hb dX6_settle_63 (lv_at hl 0 rfl) ?_
          refine lv_iload_n (pc := 65) hx hb dX6_settle_65 rfl (lv_at hl 4 rfl) ?_
          refine lv_icmp_ne (tgt := 76) (pc := 66) hx hb dX6_settle_66 (by decide) (fun h_66 => ?_) (fun h_66 => ?_)
          · skip
            refine lv_iconst (v := (0 : Int32)) (pc := 76) hx hb dX6_settle_76 (by decide) ?_
            refine lv_istore (lv' := [(6, .int (0 : Int32)), (5, .int (kindF (rdC it sz, (br, hi, sx, sy), (sd, sc, sk, n), dp, mo) d i)), (0, .ref (a 24)), (1, .ref (a 14)), (2, .int (nI d)), (3, .int (nI k1)), (4, .int (nI i))]) (pc := 77) hx hb dX6_settle_77 hl (by decide) rfl (fun ls hl => ?_)
            refine lv_iload (pc := 79) hx hb dX6_settle_79 (lv_at hl 1 rfl) ?_
            refine lv_iload_n (pc := 81) hx hb dX6_settle_81 rfl (lv_at hl 5 rfl) ?_
            refine lv_icmp_eq (tgt := 91) (pc := 82) hx hb dX6_settle_82 (by decide) (fun h_82 => ?_) (fun h_82 => ?_)
            · skip
              exact absurd h_82 h_66
            · skip
              refine lv_iload (pc := 85) hx hb dX6_settle_85 (lv_at hl 1 rfl) ?_
              refine lv_iconst (v := (-1 : Int32)) (pc := 87) hx hb dX6_settle_87 (by decide) ?_
              refine lv_icmp_ne (tgt := 95) (pc := 88) hx hb dX6_settle_88 (by decide) (fun h_88 => ?_) (fun h_88 => ?_)
              · skip
                have hzz1 : 128 * 0 = 128 * (if kindF (rdC it sz, (br, hi, sx, sy), (sd, sc, sk, n), dp, mo) d i = nI k1 then ow else 0) := by rw [if_neg h_66]
                have hoo1 : 128 * ow + 1 = 128 * (if kindF (rdC it sz, (br, hi, sx, sy), (sd, sc, sk, n), dp, mo) d i = nI k1 then 0 else if kindF (rdC it sz, (br, hi, sx, sy), (sd, sc, sk, n), dp, mo) d i = -1 then 0 else ow) + 1 := by rw [if_neg h_66, if_neg h_88]
                refine lv_aload_n (pc := 95) hx hb dX6_settle_95 rfl (lv_at hl 2 rfl) ?_
                refine va_get (D := g.1) (ci := 6) (v := .int (nI ow)) (C := RX6) (T := TX6) (N := 5) (index := 19) (pc := 96) hx hb hts inX6 hown hK hP 0 rfl rfl 2 (by decide) (hts _ wd_1_171) (fun _ h9 => h9) rfl dX6_settle_96 ?_
                refine lv_istore (lv' := [(7, .int (nI ow)), (6, .int (0 : Int32)), (5, .int (kindF (rdC it sz, (br, hi, sx, sy), (sd, sc, sk, n), dp, mo) d i)), (0, .ref (a 24)), (1, .ref (a 14)), (2, .int (nI d)), (3, .int (nI k1)), (4, .int (nI i))]) (pc := 99) hx hb dX6_settle_99 hl (by decide) rfl (fun ls hl => ?_)
                refine lv_aload_n (pc := 101) hx hb dX6_settle_101 rfl (lv_at hl 3 rfl) ?_
                refine lv_iload (pc := 102) hx hb dX6_settle_102 (lv_at hl 7 rfl) ?_
                refine lv_sipush (v := (128 : Int32)) (pc := 104) hx hb dX6_settle_104 (by decide) ?_
                refine lv_iload (pc := 107) hx hb dX6_settle_107 (lv_at hl 1 rfl) ?_
                refine w_imul (z := nI (128 * 0)) (pc := 109) hx hb dX6_settle_109 (pk_mul 128 0) ?_
                refine lv_sipush (v := (128 : Int32)) (pc := 110) hx hb dX6_settle_110 (by decide) ?_
                refine lv_iload (pc := 113) hx hb dX6_settle_113 (lv_at hl 0 rfl) ?_
                refine w_imul (z := nI (128 * ow)) (pc := 115) hx hb dX6_settle_115 (pk_mul 128 ow) ?_
                refine lv_iconst (v := (1 : Int32)) (pc := 116) hx hb dX6_settle_116 (by decide) ?_
                refine w_iadd (z := nI ((128 * ow) + 1)) (pc := 117) hx hb dX6_settle_117 (nI_add (128 * ow) 1) ?_
                refine call_v (wr := [(a 14, .inr (0, [.ref (a 5), .ref (a 8), .ref (a 16), .ref (a 15), .int (nI ou), .int (nI dp), .int (nI mo)])), (a 15, .inl (gI g, 384, .inl k4)), (a 5, .inr (5, [.ref (a 1), .ref (a 6), .ref (a 7), .int br, .int (nI hi)])), (a 6, .inl (gI g, 6, .inl sx)), (a 7, .inl (gI g, 6, .inl sy)), (a 1, .inr (3, [.ref (a 2), .ref (a 3), .ref (a 4), .int la])), (a 2, .inl (gI g, 1152, .inl it)), (a 4, .inl (gI g, 18, .inl (nF sz))), (a 8, .inr (4, [.ref (a 9), .ref (a 10), .ref (a 11), .int (nI n), .ref (a 12), .ref (a 13), .int (nI tn)])), (a 12, .inl (gI g, 40, .inl (nF kc))), (a 13, .inl (gI g, 160, .inl ge)), (a 16, .inr (7, [.ref (a 17), .ref (a 18), .ref (a 19), .ref (a 20), .ref (a 21), .ref (a 22), .ref (a 23), .int (nI bf), .int bn, .long (lN bt), .long (lN bb)])), (a 17, .inl (gI g, 15, .inl sp)), (a 18, .inl (gI g, 15, .inl nu))]) (pc := 118) (run_V (wc := [(a 24, .inr (6, [.ref (a 25), .ref (a 26), .int (nI ow), .int (nI eg), .long (lN mk)])), (a 25, .inl (gI g, 256, .inl (nF c1))), (a 26, .inl (gJ g, 256, .inr (.inl (lF w1))))]) (As := [.int (nI i), .int (nI (128 * 0)), .int (nI ((128 * ow) + 1))]) (rest := []) (pc := 118) hx hb hml hown hts hA hK hX (Nat.le_trans (by decide) hRf) (Nat.le_trans (by decide) hRl) hP hD hS (c_X6_addCell l g (a := a) (cs := c1) (w := w1) (ow := ow) (eg := eg) (mk := mk) (n1 := i) (zz := 128 * 0) (oo := (128 * ow) + 1) (z := (fun i => 128 * (if kindF (rdC it sz, (br, hi, sx, sy), (sd, sc, sk, n), dp, mo) d i = nI k1 then ow else 0))) (o := (fun i => 128 * (if kindF (rdC it sz, (br, hi, sx, sy), (sd, sc, sk, n), dp, mo) d i = nI k1 then 0 else if kindF (rdC it sz, (br, hi, sx, sy), (sd, sc, sk, n), dp, mo) d i = -1 then 0 else ow) + 1)) (by first | assumption | omega) (by first | assumption | omega) hzz1 hoo1 (by omega) (by omega) hcb1) wd_3_55 wd_3_57 wd_0_10 wd_1_8 wd_3_58 hdX6_addCell [0, 2, 1] rfl rfl 0 rfl rfl rfl hl.1 rfl (Nat.le_of_ble_eq_true rfl) dX6_settle_118 ⟨Nat.zero_le _, Nat.zero_le _⟩) hA hP hD hS [0, 2, 1] [3, 4, 5, 6, 7, 8, 9, 10, 11, 12, 13, 14, 15, 16] rfl rfl rfl (by decide) (fun w1 H locs hq_118 hP hD hS => ?_)
                obtain ⟨c3, w3, rfl, hst_118⟩ := hq_118
                have hP : va_P g.1 classes [(a 14, .inr (0, [.ref (a 5), .ref (a 8), .ref (a 16), .ref (a 15), .int (nI ou), .int (nI dp), .int (nI mo)])), (a 15, .inl (gI g, 384, .inl k4)), (a 5, .inr (5, [.ref (a 1), .ref (a 6), .ref (a 7), .int br, .int (nI hi)])), (a 6, .inl (gI g, 6, .inl sx)), (a 7, .inl (gI g, 6, .inl sy)), (a 1, .inr (3, [.ref (a 2), .ref (a 3), .ref (a 4), .int la])), (a 2, .inl (gI g, 1152, .inl it)), (a 4, .inl (gI g, 18, .inl (nF sz))), (a 8, .inr (4, [.ref (a 9), .ref (a 10), .ref (a 11), .int (nI n), .ref (a 12), .ref (a 13), .int (nI tn)])), (a 12, .inl (gI g, 40, .inl (nF kc))), (a 13, .inl (gI g, 160, .inl ge)), (a 16, .inr (7, [.ref (a 17), .ref (a 18), .ref (a 19), .ref (a 20), .ref (a 21), .ref (a 22), .ref (a 23), .int (nI bf), .int bn, .long (lN bt), .long (lN bb)])), (a 17, .inl (gI g, 15, .inl sp)), (a 18, .inl (gI g, 15, .inl nu)), (a 24, .inr (6, [.ref (a 25), .ref (a 26), .int (nI ow), .int (nI eg), .long (lN mk)])), (a 25, .inl (gI g, 256, .inl (nF c3))), (a 26, .inl (gJ g, 256, .inr (.inl (lF w3))))] H := hP
                have hD : va_D A [(a 14, .inr (0, [.ref (a 5), .ref (a 8), .ref (a 16), .ref (a 15), .int (nI ou), .int (nI dp), .int (nI mo)])), (a 15, .inl (gI g, 384, .inl k4)), (a 5, .inr (5, [.ref (a 1), .ref (a 6), .ref (a 7), .int br, .int (nI hi)])), (a 6, .inl (gI g, 6, .inl sx)), (a 7, .inl (gI g, 6, .inl sy)), (a 1, .inr (3, [.ref (a 2), .ref (a 3), .ref (a 4), .int la])), (a 2, .inl (gI g, 1152, .inl it)), (a 4, .inl (gI g, 18, .inl (nF sz))), (a 8, .inr (4, [.ref (a 9), .ref (a 10), .ref (a 11), .int (nI n), .ref (a 12), .ref (a 13), .int (nI tn)])), (a 12, .inl (gI g, 40, .inl (nF kc))), (a 13, .inl (gI g, 160, .inl ge)), (a 16, .inr (7, [.ref (a 17), .ref (a 18), .ref (a 19), .ref (a 20), .ref (a 21), .ref (a 22), .ref (a 23), .int (nI bf), .int bn, .long (lN bt), .long (lN bb)])), (a 17, .inl (gI g, 15, .inl sp)), (a 18, .inl (gI g, 15, .inl nu)), (a 24, .inr (6, [.ref (a 25), .ref (a 26), .int (nI ow), .int (nI eg), .long (lN mk)])), (a 25, .inl (gI g, 256, .inl (nF c3))), (a 26, .inl (gJ g, 256, .inr (.inl (lF w3))))] := hD
                refine lv_iinc (v := nI (i + 1)) (lv' := [(4, .int (nI (i + 1))), (7, .int (nI ow)), (6, .int (0 : Int32)), (5, .int (kindF (rdC it sz, (br, hi, sx, sy), (sd, sc, sk, n), dp, mo) d i)), (0, .ref (a 24)), (1, .ref (a 14)), (2, .int (nI d)), (3, .int (nI k1))]) (pc := 121) hx hb dX6_settle_121 hl (k := 7) rfl (inc_n i 1) (by decide) rfl (fun ls hl => ?_)
                refine lv_goto (tgt := 47) (pc := 124) hx hb dX6_settle_124 (by decide) ?_
                have hP : va_P g.1 classes [(a 24, .inr (6, [.ref (a 25), .ref (a 26), .int (nI ow), .int (nI eg), .long (lN mk)])), (a 26, .inl (gJ g, 256, .inr (.inl (lF w3)))), (a 14, .inr (0, [.ref (a 5), .ref (a 8), .ref (a 16), .ref (a 15), .int (nI ou), .int (nI dp), .int (nI mo)])), (a 15, .inl (gI g, 384, .inl k4)), (a 5, .inr (5, [.ref (a 1), .ref (a 6), .ref (a 7), .int br, .int (nI hi)])), (a 6, .inl (gI g, 6, .inl sx)), (a 7, .inl (gI g, 6, .inl sy)), (a 1, .inr (3, [.ref (a 2), .ref (a 3), .ref (a 4), .int la])), (a 2, .inl (gI g, 1152, .inl it)), (a 4, .inl (gI g, 18, .inl (nF sz))), (a 8, .inr (4, [.ref (a 9), .ref (a 10), .ref (a 11), .int (nI n), .ref (a 12), .ref (a 13), .int (nI tn)])), (a 12, .inl (gI g, 40, .inl (nF kc))), (a 13, .inl (gI g, 160, .inl ge)), (a 16, .inr (7, [.ref (a 17), .ref (a 18), .ref (a 19), .ref (a 20), .ref (a 21), .ref (a 22), .ref (a 23), .int (nI bf), .int bn, .long (lN bt), .long (lN bb)])), (a 17, .inl (gI g, 15, .inl sp)), (a 18, .inl (gI g, 15, .inl nu)), (a 25, .inl (gI g, 256, .inl (nF c3)))] H := hP.sub [14, 16, 0, 1, 2, 3, 4, 5, 6, 7, 8, 9, 10, 11, 12, 13, 15] rfl
                have hD : va_D A [(a 24, .inr (6, [.ref (a 25), .ref (a 26), .int (nI ow), .int (nI eg), .long (lN mk)])), (a 26, .inl (gJ g, 256, .inr (.inl (lF w3)))), (a 14, .inr (0, [.ref (a 5), .ref (a 8), .ref (a 16), .ref (a 15), .int (nI ou), .int (nI dp), .int (nI mo)])), (a 15, .inl (gI g, 384, .inl k4)), (a 5, .inr (5, [.ref (a 1), .ref (a 6), .ref (a 7), .int br, .int (nI hi)])), (a 6, .inl (gI g, 6, .inl sx)), (a 7, .inl (gI g, 6, .inl sy)), (a 1, .inr (3, [.ref (a 2), .ref (a 3), .ref (a 4), .int la])), (a 2, .inl (gI g, 1152, .inl it)), (a 4, .inl (gI g, 18, .inl (nF sz))), (a 8, .inr (4, [.ref (a 9), .ref (a 10), .ref (a 11), .int (nI n), .ref (a 12), .ref (a 13), .int (nI tn)])), (a 12, .inl (gI g, 40, .inl (nF kc))), (a 13, .inl (gI g, 160, .inl ge)), (a 16, .inr (7, [.ref (a 17), .ref (a 18), .ref (a 19), .ref (a 20), .ref (a 21), .ref (a 22), .ref (a 23), .int (nI bf), .int bn, .long (lN bt), .long (lN bb)])), (a 17, .inl (gI g, 15, .inl sp)), (a 18, .inl (gI g, 15, .inl nu)), (a 25, .inl (gI g, 256, .inl (nF c3)))] := hD.sub [14, 16, 0, 1, 2, 3, 4, 5, 6, 7, 8, 9, 10, 11, 12, 13, 15] rfl rfl
                exact ih47 (i + 1) c3 w3 k4 (by omega) (SI_step hsi h_51 (by show 128 * _ ≤ _; rw [← hzz1]; omega) (by show 128 * _ + 1 ≤ _; rw [← hoo1]; omega) (by omega) hst_118) hkn2_58 (by have := hm47; omega) _ _ _ hP hD hS (lv_sub hl [4, 5, 6, 7, 0] rfl)
              · skip
                have hzz1 : 128 * 0 = 128 * (if kindF (rdC it sz, (br, hi, sx, sy), (sd, sc, sk, n), dp, mo) d i = nI k1 then ow else 0) := by rw [if_neg h_66]
                have hoo1 : 128 * 0 + 1 = 128 * (if kindF (rdC it sz, (br, hi, sx, sy), (sd, sc, sk, n), dp, mo) d i = nI k1 then 0 else if kindF (rdC it sz, (br, hi, sx, sy), (sd, sc, sk, n), dp, mo) d i = -1 then 0 else ow) + 1 := by rw [if_neg h_66, if_pos h_88]
                refine lv_iconst (v := (0 : Int32)) (pc := 91) hx hb dX6_settle_91 (by decide) ?_
                refine lv_goto (tgt := 99) (pc := 92) hx hb dX6_settle_92 (by decide) ?_
                refine lv_istore (lv' := [(7, .int (0 : Int32)), (6, .int (0 : Int32)), (5, .int (kindF (rdC it sz, (br, hi, sx, sy), (sd, sc, sk, n), dp, mo) d i)), (0, .ref (a 24)), (1, .ref (a 14)), (2, .int (nI d)), (3, .int (nI k1)), (4, .int (nI i))]) (pc := 99) hx hb dX6_settle_99 hl (by decide) rfl (fun ls hl => ?_)
                refine lv_aload_n (pc := 101) hx hb dX6_settle_101 rfl (lv_at hl 3 rfl) ?_
                refine lv_iload (pc := 102) hx hb dX6_settle_102 (lv_at hl 7 rfl) ?_
                refine lv_sipush (v := (128 : Int32)) (pc := 104) hx hb dX6_settle_104 (by decide) ?_
                refine lv_iload (pc := 107) hx hb dX6_settle_107 (lv_at hl 1 rfl) ?_
                refine w_imul (z := nI (128 * 0)) (pc := 109) hx hb dX6_settle_109 (pk_mul 128 0) ?_
                refine lv_sipush (v := (128 : Int32)) (pc := 110) hx hb dX6_settle_110 (by decide) ?_
                refine lv_iload (pc := 113) hx hb dX6_settle_113 (lv_at hl 0 rfl) ?_
                refine w_imul (z := nI (128 * 0)) (pc := 115) hx hb dX6_settle_115 (pk_mul 128 0) ?_
                refine lv_iconst (v := (1 : Int32)) (pc := 116) hx hb dX6_settle_116 (by decide) ?_
                refine w_iadd (z := nI ((128 * 0) + 1)) (pc := 117) hx hb dX6_settle_117 (nI_add (128 * 0) 1) ?_
                refine call_v (wr := [(a 14, .inr (0, [.ref (a 5), .ref (a 8), .ref (a 16), .ref (a 15), .int (nI ou), .int (nI dp), .int (nI mo)])), (a 15, .inl (gI g, 384, .inl k4)), (a 5, .inr (5, [.ref (a 1), .ref (a 6), .ref (a 7), .int br, .int (nI hi)])), (a 6, .inl (gI g, 6, .inl sx)), (a 7, .inl (gI g, 6, .inl sy)), (a 1, .inr (3, [.ref (a 2), .ref (a 3), .ref (a 4), .int la])), (a 2, .inl (gI g, 1152, .inl it)), (a 4, .inl (gI g, 18, .inl (nF sz))), (a 8, .inr (4, [.ref (a 9), .ref (a 10), .ref (a 11), .int (nI n), .ref (a 12), .ref (a 13), .int (nI tn)])), (a 12, .inl (gI g, 40, .inl (nF kc))), (a 13, .inl (gI g, 160, .inl ge)), (a 16, .inr (7, [.ref (a 17), .ref (a 18), .ref (a 19), .ref (a 20), .ref (a 21), .ref (a 22), .ref (a 23), .int (nI bf), .int bn, .long (lN bt), .long (lN bb)])), (a 17, .inl (gI g, 15, .inl sp)), (a 18, .inl (gI g, 15, .inl nu))]) (pc := 118) (run_V (wc := [(a 24, .inr (6, [.ref (a 25), .ref (a 26), .int (nI ow), .int (nI eg), .long (lN mk)])), (a 25, .inl (gI g, 256, .inl (nF c1))), (a 26, .inl (gJ g, 256, .inr (.inl (lF w1))))]) (As := [.int (nI i), .int (nI (128 * 0)), .int (nI ((128 * 0) + 1))]) (rest := []) (pc := 118) hx hb hml hown hts hA hK hX (Nat.le_trans (by decide) hRf) (Nat.le_trans (by decide) hRl) hP hD hS (c_X6_addCell l g (a := a) (cs := c1) (w := w1) (ow := ow) (eg := eg) (mk := mk) (n1 := i) (zz := 128 * 0) (oo := (128 * 0) + 1) (z := (fun i => 128 * (if kindF (rdC it sz, (br, hi, sx, sy), (sd, sc, sk, n), dp, mo) d i = nI k1 then ow else 0))) (o := (fun i => 128 * (if kindF (rdC it sz, (br, hi, sx, sy), (sd, sc, sk, n), dp, mo) d i = nI k1 then 0 else if kindF (rdC it sz, (br, hi, sx, sy), (sd, sc, sk, n), dp, mo) d i = -1 then 0 else ow) + 1)) (by first | assumption | omega) (by first | assumption | omega) hzz1 hoo1 (by omega) (by omega) hcb1) wd_3_55 wd_3_57 wd_0_10 wd_1_8 wd_3_58 hdX6_addCell [0, 2, 1] rfl rfl 0 rfl rfl rfl hl.1 rfl (Nat.le_of_ble_eq_true rfl) dX6_settle_118 ⟨Nat.zero_le _, Nat.zero_le _⟩) hA hP hD hS [0, 2, 1] [3, 4, 5, 6, 7, 8, 9, 10, 11, 12, 13, 14, 15, 16] rfl rfl rfl (by decide) (fun w1 H locs hq_118 hP hD hS => ?_)
                obtain ⟨c3, w3, rfl, hst_118⟩ := hq_118
                have hP : va_P g.1 classes [(a 14, .inr (0, [.ref (a 5), .ref (a 8), .ref (a 16), .ref (a 15), .int (nI ou), .int (nI dp), .int (nI mo)])), (a 15, .inl (gI g, 384, .inl k4)), (a 5, .inr (5, [.ref (a 1), .ref (a 6), .ref (a 7), .int br, .int (nI hi)])), (a 6, .inl (gI g, 6, .inl sx)), (a 7, .inl (gI g, 6, .inl sy)), (a 1, .inr (3, [.ref (a 2), .ref (a 3), .ref (a 4), .int la])), (a 2, .inl (gI g, 1152, .inl it)), (a 4, .inl (gI g, 18, .inl (nF sz))), (a 8, .inr (4, [.ref (a 9), .ref (a 10), .ref (a 11), .int (nI n), .ref (a 12), .ref (a 13), .int (nI tn)])), (a 12, .inl (gI g, 40, .inl (nF kc))), (a 13, .inl (gI g, 160, .inl ge)), (a 16, .inr (7, [.ref (a 17), .ref (a 18), .ref (a 19), .ref (a 20), .ref (a 21), .ref (a 22), .ref (a 23), .int (nI bf), .int bn, .long (lN bt), .long (lN bb)])), (a 17, .inl (gI g, 15, .inl sp)), (a 18, .inl (gI g, 15, .inl nu)), (a 24, .inr (6, [.ref (a 25), .ref (a 26), .int (nI ow), .int (nI eg), .long (lN mk)])), (a 25, .inl (gI g, 256, .inl (nF c3))), (a 26, .inl (gJ g, 256, .inr (.inl (lF w3))))] H := hP
                have hD : va_D A [(a 14, .inr (0, [.ref (a 5), .ref (a 8), .ref (a 16), .ref (a 15), .int (nI ou), .int (nI dp), .int (nI mo)])), (a 15, .inl (gI g, 384, .inl k4)), (a 5, .inr (5, [.ref (a 1), .ref (a 6), .ref (a 7), .int br, .int (nI hi)])), (a 6, .inl (gI g, 6, .inl sx)), (a 7, .inl (gI g, 6, .inl sy)), (a 1, .inr (3, [.ref (a 2), .ref (a 3), .ref (a 4), .int la])), (a 2, .inl (gI g, 1152, .inl it)), (a 4, .inl (gI g, 18, .inl (nF sz))), (a 8, .inr (4, [.ref (a 9), .ref (a 10), .ref (a 11), .int (nI n), .ref (a 12), .ref (a 13), .int (nI tn)])), (a 12, .inl (gI g, 40, .inl (nF kc))), (a 13, .inl (gI g, 160, .inl ge)), (a 16, .inr (7, [.ref (a 17), .ref (a 18), .ref (a 19), .ref (a 20), .ref (a 21), .ref (a 22), .ref (a 23), .int (nI bf), .int bn, .long (lN bt), .long (lN bb)])), (a 17, .inl (gI g, 15, .inl sp)), (a 18, .inl (gI g, 15, .inl nu)), (a 24, .inr (6, [.ref (a 25), .ref (a 26), .int (nI ow), .int (nI eg), .long (lN mk)])), (a 25, .inl (gI g, 256, .inl (nF c3))), (a 26, .inl (gJ g, 256, .inr (.inl (lF w3))))] := hD
                refine lv_iinc (v := nI (i + 1)) (lv' := [(4, .int (nI (i + 1))), (7, .int (0 : Int32)), (6, .int (0 : Int32)), (5, .int (kindF (rdC it sz, (br, hi, sx, sy), (sd, sc, sk, n), dp, mo) d i)), (0, .ref (a 24)), (1, .ref (a 14)), (2, .int (nI d)), (3, .int (nI k1))]) (pc := 121) hx hb dX6_settle_121 hl (k := 7) rfl (inc_n i 1) (by decide) rfl (fun ls hl => ?_)
                refine lv_goto (tgt := 47) (pc := 124) hx hb dX6_settle_124 (by decide) ?_
                have hP : va_P g.1 classes [(a 24, .inr (6, [.ref (a 25), .ref (a 26), .int (nI ow), .int (nI eg), .long (lN mk)])), (a 26, .inl (gJ g, 256, .inr (.inl (lF w3)))), (a 14, .inr (0, [.ref (a 5), .ref (a 8), .ref (a 16), .ref (a 15), .int (nI ou), .int (nI dp), .int (nI mo)])), (a 15, .inl (gI g, 384, .inl k4)), (a 5, .inr (5, [.ref (a 1), .ref (a 6), .ref (a 7), .int br, .int (nI hi)])), (a 6, .inl (gI g, 6, .inl sx)), (a 7, .inl (gI g, 6, .inl sy)), (a 1, .inr (3, [.ref (a 2), .ref (a 3), .ref (a 4), .int la])), (a 2, .inl (gI g, 1152, .inl it)), (a 4, .inl (gI g, 18, .inl (nF sz))), (a 8, .inr (4, [.ref (a 9), .ref (a 10), .ref (a 11), .int (nI n), .ref (a 12), .ref (a 13), .int (nI tn)])), (a 12, .inl (gI g, 40, .inl (nF kc))), (a 13, .inl (gI g, 160, .inl ge)), (a 16, .inr (7, [.ref (a 17), .ref (a 18), .ref (a 19), .ref (a 20), .ref (a 21), .ref (a 22), .ref (a 23), .int (nI bf), .int bn, .long (lN bt), .long (lN bb)])), (a 17, .inl (gI g, 15, .inl sp)), (a 18, .inl (gI g, 15, .inl nu)), (a 25, .inl (gI g, 256, .inl (nF c3)))] H := hP.sub [14, 16, 0, 1, 2, 3, 4, 5, 6, 7, 8, 9, 10, 11, 12, 13, 15] rfl
                have hD : va_D A [(a 24, .inr (6, [.ref (a 25), .ref (a 26), .int (nI ow), .int (nI eg), .long (lN mk)])), (a 26, .inl (gJ g, 256, .inr (.inl (lF w3)))), (a 14, .inr (0, [.ref (a 5), .ref (a 8), .ref (a 16), .ref (a 15), .int (nI ou), .int (nI dp), .int (nI mo)])), (a 15, .inl (gI g, 384, .inl k4)), (a 5, .inr (5, [.ref (a 1), .ref (a 6), .ref (a 7), .int br, .int (nI hi)])), (a 6, .inl (gI g, 6, .inl sx)), (a 7, .inl (gI g, 6, .inl sy)), (a 1, .inr (3, [.ref (a 2), .ref (a 3), .ref (a 4), .int la])), (a 2, .inl (gI g, 1152, .inl it)), (a 4, .inl (gI g, 18, .inl (nF sz))), (a 8, .inr (4, [.ref (a 9), .ref (a 10), .ref (a 11), .int (nI n), .ref (a 12), .ref (a 13), .int (nI tn)])), (a 12, .inl (gI g, 40, .inl (nF kc))), (a 13, .inl (gI g, 160, .inl ge)), (a 16, .inr (7, [.ref (a 17), .ref (a 18), .ref (a 19), .ref (a 20), .ref (a 21), .ref (a 22), .ref (a 23), .int (nI bf), .int bn, .long (lN bt), .long (lN bb)])), (a 17, .inl (gI g, 15, .inl sp)), (a 18, .inl (gI g, 15, .inl nu)), (a 25, .inl (gI g, 256, .inl (nF c3)))] := hD.sub [14, 16, 0, 1, 2, 3, 4, 5, 6, 7, 8, 9, 10, 11, 12, 13, 15] rfl rfl
                exact ih47 (i + 1) c3 w3 k4 (by omega) (SI_step hsi h_51 (by show 128 * _ ≤ _; rw [← hzz1]; omega) (by show 128 * _ + 1 ≤ _; rw [← hoo1]; omega) (by omega) hst_118) hkn2_58 (by have := hm47; omega) _ _ _ hP hD hS (lv_sub hl [4, 5, 6, 7, 0] rfl)
          · skip
            have hzz1 : 128 * ow = 128 * (if kindF (rdC it sz, (br, hi, sx, sy), (sd, sc, sk, n), dp, mo) d i = nI k1 then ow else 0) := by rw [if_pos h_66]
            have hoo1 : 128 * 0 + 1 = 128 * (if kindF (rdC it sz, (br, hi, sx, sy), (sd, sc, sk, n), dp, mo) d i = nI k1 then 0 else if kindF (rdC it sz, (br, hi, sx, sy), (sd, sc, sk, n), dp, mo) d i = -1 then 0 else ow) + 1 := by rw [if_pos h_66]
            refine lv_aload_n (pc := 69) hx hb dX6_settle_69 rfl (lv_at hl 1 rfl) ?_
            refine va_get (D := g.1) (ci := 6) (v := .int (nI ow)) (C := RX6) (T := TX6) (N := 5) (index := 19) (pc := 70) hx hb hts inX6 hown hK hP 0 rfl rfl 2 (by decide) (hts _ wd_1_171) (fun _ h9 => h9) rfl dX6_settle_70 ?_
            refine lv_goto (tgt := 77) (pc := 73) hx hb dX6_settle_73 (by decide) ?_
            refine lv_istore (lv' := [(6, .int (nI ow)), (5, .int (kindF (rdC it sz, (br, hi, sx, sy), (sd, sc, sk, n), dp, mo) d i)), (0, .ref (a 24)), (1, .ref (a 14)), (2, .int (nI d)), (3, .int (nI k1)), (4, .int (nI i))]) (pc := 77) hx hb dX6_settle_77 hl (by decide) rfl (fun ls hl => ?_)
            refine lv_iload (pc := 79) hx hb dX6_settle_79 (lv_at hl 1 rfl) ?_
            refine lv_iload_n (pc := 81) hx hb dX6_settle_81 rfl (lv_at hl 5 rfl) ?_
            refine lv_icmp_eq (tgt := 91) (pc := 82) hx hb dX6_settle_82 (by decide) (fun h_82 => ?_) (fun h_82 => ?_)
            · skip
              refine lv_iconst (v := (0 : Int32)) (pc := 91) hx hb dX6_settle_91 (by decide) ?_
              refine lv_goto (tgt := 99) (pc := 92) hx hb dX6_settle_92 (by decide) ?_
              refine lv_istore (lv' := [(7, .int (0 : Int32)), (6, .int (nI ow)), (5, .int (kindF (rdC it sz, (br, hi, sx, sy), (sd, sc, sk, n), dp, mo) d i)), (0, .ref (a 24)), (1, .ref (a 14)), (2, .int (nI d)), (3, .int (nI k1)), (4, .int (nI i))]) (pc := 99) hx hb dX6_settle_99 hl (by decide) rfl (fun ls hl => ?_)
              refine lv_aload_n (pc := 101) hx hb dX6_settle_101 rfl (lv_at hl 3 rfl) ?_
              refine lv_iload (pc := 102) hx hb dX6_settle_102 (lv_at hl 7 rfl) ?_
              refine lv_sipush (v := (128 : Int32)) (pc := 104) hx hb dX6_settle_104 (by decide) ?_
              refine lv_iload (pc := 107) hx hb dX6_settle_107 (lv_at hl 1 rfl) ?_
              refine w_imul (z := nI (128 * ow)) (pc := 109) hx hb dX6_settle_109 (pk_mul 128 ow) ?_
              refine lv_sipush (v := (128 : Int32)) (pc := 110) hx hb dX6_settle_110 (by decide) ?_
              refine lv_iload (pc := 113) hx hb dX6_settle_113 (lv_at hl 0 rfl) ?_
              refine w_imul (z := nI (128 * 0)) (pc := 115) hx hb dX6_settle_115 (pk_mul 128 0) ?_
              refine lv_iconst (v := (1 : Int32)) (pc := 116) hx hb dX6_settle_116 (by decide) ?_
              refine w_iadd (z := nI ((128 * 0) + 1)) (pc := 117) hx hb dX6_settle_117 (nI_add (128 * 0) 1) ?_
              refine call_v (wr := [(a 14, .inr (0, [.ref (a 5), .ref (a 8), .ref (a 16), .ref (a 15), .int (nI ou), .int (nI dp), .int (nI mo)])), (a 15, .inl (gI g, 384, .inl k4)), (a 5, .inr (5, [.ref (a 1), .ref (a 6), .ref (a 7), .int br, .int (nI hi)])), (a 6, .inl (gI g, 6, .inl sx)), (a 7, .inl (gI g, 6, .inl sy)), (a 1, .inr (3, [.ref (a 2), .ref (a 3), .ref (a 4), .int la])), (a 2, .inl (gI g, 1152, .inl it)), (a 4, .inl (gI g, 18, .inl (nF sz))), (a 8, .inr (4, [.ref (a 9), .ref (a 10), .ref (a 11), .int (nI n), .ref (a 12), .ref (a 13), .int (nI tn)])), (a 12, .inl (gI g, 40, .inl (nF kc))), (a 13, .inl (gI g, 160, .inl ge)), (a 16, .inr (7, [.ref (a 17), .ref (a 18), .ref (a 19), .ref (a 20), .ref (a 21), .ref (a 22), .ref (a 23), .int (nI bf), .int bn, .long (lN bt), .long (lN bb)])), (a 17, .inl (gI g, 15, .inl sp)), (a 18, .inl (gI g, 15, .inl nu))]) (pc := 118) (run_V (wc := [(a 24, .inr (6, [.ref (a 25), .ref (a 26), .int (nI ow), .int (nI eg), .long (lN mk)])), (a 25, .inl (gI g, 256, .inl (nF c1))), (a 26, .inl (gJ g, 256, .inr (.inl (lF w1))))]) (As := [.int (nI i), .int (nI (128 * ow)), .int (nI ((128 * 0) + 1))]) (rest := []) (pc := 118) hx hb hml hown hts hA hK hX (Nat.le_trans (by decide) hRf) (Nat.le_trans (by decide) hRl) hP hD hS (c_X6_addCell l g (a := a) (cs := c1) (w := w1) (ow := ow) (eg := eg) (mk := mk) (n1 := i) (zz := 128 * ow) (oo := (128 * 0) + 1) (z := (fun i => 128 * (if kindF (rdC it sz, (br, hi, sx, sy), (sd, sc, sk, n), dp, mo) d i = nI k1 then ow else 0))) (o := (fun i => 128 * (if kindF (rdC it sz, (br, hi, sx, sy), (sd, sc, sk, n), dp, mo) d i = nI k1 then 0 else if kindF (rdC it sz, (br, hi, sx, sy), (sd, sc, sk, n), dp, mo) d i = -1 then 0 else ow) + 1)) (by first | assumption | omega) (by first | assumption | omega) hzz1 hoo1 (by omega) (by omega) hcb1) wd_3_55 wd_3_57 wd_0_10 wd_1_8 wd_3_58 hdX6_addCell [0, 2, 1] rfl rfl 0 rfl rfl rfl hl.1 rfl (Nat.le_of_ble_eq_true rfl) dX6_settle_118 ⟨Nat.zero_le _, Nat.zero_le _⟩) hA hP hD hS [0, 2, 1] [3, 4, 5, 6, 7, 8, 9, 10, 11, 12, 13, 14, 15, 16] rfl rfl rfl (by decide) (fun w1 H locs hq_118 hP hD hS => ?_)
              obtain ⟨c3, w3, rfl, hst_118⟩ := hq_118
              have hP : va_P g.1 classes [(a 14, .inr (0, [.ref (a 5), .ref (a 8), .ref (a 16), .ref (a 15), .int (nI ou), .int (nI dp), .int (nI mo)])), (a 15, .inl (gI g, 384, .inl k4)), (a 5, .inr (5, [.ref (a 1), .ref (a 6), .ref (a 7), .int br, .int (nI hi)])), (a 6, .inl (gI g, 6, .inl sx)), (a 7, .inl (gI g, 6, .inl sy)), (a 1, .inr (3, [.ref (a 2), .ref (a 3), .ref (a 4), .int la])), (a 2, .inl (gI g, 1152, .inl it)), (a 4, .inl (gI g, 18, .inl (nF sz))), (a 8, .inr (4, [.ref (a 9), .ref (a 10), .ref (a 11), .int (nI n), .ref (a 12), .ref (a 13), .int (nI tn)])), (a 12, .inl (gI g, 40, .inl (nF kc))), (a 13, .inl (gI g, 160, .inl ge)), (a 16, .inr (7, [.ref (a 17), .ref (a 18), .ref (a 19), .ref (a 20), .ref (a 21), .ref (a 22), .ref (a 23), .int (nI bf), .int bn, .long (lN bt), .long (lN bb)])), (a 17, .inl (gI g, 15, .inl sp)), (a 18, .inl (gI g, 15, .inl nu)), (a 24, .inr (6, [.ref (a 25), .ref (a 26), .int (nI ow), .int (nI eg), .long (lN mk)])), (a 25, .inl (gI g, 256, .inl (nF c3))), (a 26, .inl (gJ g, 256, .inr (.inl (lF w3))))] H := hP
              have hD : va_D A [(a 14, .inr (0, [.ref (a 5), .ref (a 8), .ref (a 16), .ref (a 15), .int (nI ou), .int (nI dp), .int (nI mo)])), (a 15, .inl (gI g, 384, .inl k4)), (a 5, .inr (5, [.ref (a 1), .ref (a 6), .ref (a 7), .int br, .int (nI hi)])), (a 6, .inl (gI g, 6, .inl sx)), (a 7, .inl (gI g, 6, .inl sy)), (a 1, .inr (3, [.ref (a 2), .ref (a 3), .ref (a 4), .int la])), (a 2, .inl (gI g, 1152, .inl it)), (a 4, .inl (gI g, 18, .inl (nF sz))), (a 8, .inr (4, [.ref (a 9), .ref (a 10), .ref (a 11), .int (nI n), .ref (a 12), .ref (a 13), .int (nI tn)])), (a 12, .inl (gI g, 40, .inl (nF kc))), (a 13, .inl (gI g, 160, .inl ge)), (a 16, .inr (7, [.ref (a 17), .ref (a 18), .ref (a 19), .ref (a 20), .ref (a 21), .ref (a 22), .ref (a 23), .int (nI bf), .int bn, .long (lN bt), .long (lN bb)])), (a 17, .inl (gI g, 15, .inl sp)), (a 18, .inl (gI g, 15, .inl nu)), (a 24, .inr (6, [.ref (a 25), .ref (a 26), .int (nI ow), .int (nI eg), .long (lN mk)])), (a 25, .inl (gI g, 256, .inl (nF c3))), (a 26, .inl (gJ g, 256, .inr (.inl (lF w3))))] := hD
              refine lv_iinc (v := nI (i + 1)) (lv' := [(4, .int (nI (i + 1))), (7, .int (0 : Int32)), (6, .int (nI ow)), (5, .int (kindF (rdC it sz, (br, hi, sx, sy), (sd, sc, sk, n), dp, mo) d i)), (0, .ref (a 24)), (1, .ref (a 14)), (2, .int (nI d)), (3, .int (nI k1))]) (pc := 121) hx hb dX6_settle_121 hl (k := 7) rfl (inc_n i 1) (by decide) rfl (fun ls hl => ?_)
              refine lv_goto (tgt := 47) (pc := 124) hx hb dX6_settle_124 (by decide) ?_
              have hP : va_P g.1 classes [(a 24, .inr (6, [.ref (a 25), .ref (a 26), .int (nI ow), .int (nI eg), .long (lN mk)])), (a 26, .inl (gJ g, 256, .inr (.inl (lF w3)))), (a 14, .inr (0, [.ref (a 5), .ref (a 8), .ref (a 16), .ref (a 15), .int (nI ou), .int (nI dp), .int (nI mo)])), (a 15, .inl (gI g, 384, .inl k4)), (a 5, .inr (5, [.ref (a 1), .ref (a 6), .ref (a 7), .int br, .int (nI hi)])), (a 6, .inl (gI g, 6, .inl sx)), (a 7, .inl (gI g, 6, .inl sy)), (a 1, .inr (3, [.ref (a 2), .ref (a 3), .ref (a 4), .int la])), (a 2, .inl (gI g, 1152, .inl it)), (a 4, .inl (gI g, 18, .inl (nF sz))), (a 8, .inr (4, [.ref (a 9), .ref (a 10), .ref (a 11), .int (nI n), .ref (a 12), .ref (a 13), .int (nI tn)])), (a 12, .inl (gI g, 40, .inl (nF kc))), (a 13, .inl (gI g, 160, .inl ge)), (a 16, .inr (7, [.ref (a 17), .ref (a 18), .ref (a 19), .ref (a 20), .ref (a 21), .ref (a 22), .ref (a 23), .int (nI bf), .int bn, .long (lN bt), .long (lN bb)])), (a 17, .inl (gI g, 15, .inl sp)), (a 18, .inl (gI g, 15, .inl nu)), (a 25, .inl (gI g, 256, .inl (nF c3)))] H := hP.sub [14, 16, 0, 1, 2, 3, 4, 5, 6, 7, 8, 9, 10, 11, 12, 13, 15] rfl
              have hD : va_D A [(a 24, .inr (6, [.ref (a 25), .ref (a 26), .int (nI ow), .int (nI eg), .long (lN mk)])), (a 26, .inl (gJ g, 256, .inr (.inl (lF w3)))), (a 14, .inr (0, [.ref (a 5), .ref (a 8), .ref (a 16), .ref (a 15), .int (nI ou), .int (nI dp), .int (nI mo)])), (a 15, .inl (gI g, 384, .inl k4)), (a 5, .inr (5, [.ref (a 1), .ref (a 6), .ref (a 7), .int br, .int (nI hi)])), (a 6, .inl (gI g, 6, .inl sx)), (a 7, .inl (gI g, 6, .inl sy)), (a 1, .inr (3, [.ref (a 2), .ref (a 3), .ref (a 4), .int la])), (a 2, .inl (gI g, 1152, .inl it)), (a 4, .inl (gI g, 18, .inl (nF sz))), (a 8, .inr (4, [.ref (a 9), .ref (a 10), .ref (a 11), .int (nI n), .ref (a 12), .ref (a 13), .int (nI tn)])), (a 12, .inl (gI g, 40, .inl (nF kc))), (a 13, .inl (gI g, 160, .inl ge)), (a 16, .inr (7, [.ref (a 17), .ref (a 18), .ref (a 19), .ref (a 20), .ref (a 21), .ref (a 22), .ref (a 23), .int (nI bf), .int bn, .long (lN bt), .long (lN bb)])), (a 17, .inl (gI g, 15, .inl sp)), (a 18, .inl (gI g, 15, .inl nu)), (a 25, .inl (gI g, 256, .inl (nF c3)))] := hD.sub [14, 16, 0, 1, 2, 3, 4, 5, 6, 7, 8, 9, 10, 11, 12, 13, 15] rfl rfl
              exact ih47 (i + 1) c3 w3 k4 (by omega) (SI_step hsi h_51 (by show 128 * _ ≤ _; rw [← hzz1]; omega) (by show 128 * _ + 1 ≤ _; rw [← hoo1]; omega) (by omega) hst_118) hkn2_58 (by have := hm47; omega) _ _ _ hP hD hS (lv_sub hl [4, 5, 6, 7, 0] rfl)
            · skip
              exact absurd h_66 h_82
    exact L47 _ 0 (up (fillN cs 0 256 536870912) 0 0) (up w 0 0) k2 (by decide) (SI_0 (up_same _ _ _) (up_same _ _ _) (fun f h1 h2 => by rw [up_ne _ _ h2]; exact fillN_in ⟨Nat.zero_le _, h1⟩)) hkn2_7 (Nat.lt_succ_self _) _ _ _ hP hD hS (lv_sub hl [1, 2, 3, 4, 0] rfl)
  · skip
    refine lv_aload_n (pc := 14) hx hb dX6_settle_14 rfl (lv_at hl 0 rfl) ?_
    refine lv_lconst (v := (0 : Int64)) (pc := 15) hx hb dX6_settle_15 (by decide) ?_
    refine w_put (ci := 6) (v := .long (0 : Int64)) (ty := .long) (C := RX6) (T := TX6) (N := 5) (index := 26) (ws' := [(a 24, .inr (6, [.ref (a 25), .ref (a 26), .int (nI ow), .int (nI eg), .long (0 : Int64)])), (a 25, .inl (gI g, 256, .inl (nF cs))), (a 26, .inl (gJ g, 256, .inr (.inl (lF w)))), (a 14, .inr (0, [.ref (a 5), .ref (a 8), .ref (a 16), .ref (a 15), .int (nI ou), .int (nI dp), .int (nI mo)])), (a 15, .inl (gI g, 384, .inl k2)), (a 5, .inr (5, [.ref (a 1), .ref (a 6), .ref (a 7), .int br, .int (nI hi)])), (a 6, .inl (gI g, 6, .inl sx)), (a 7, .inl (gI g, 6, .inl sy)), (a 1, .inr (3, [.ref (a 2), .ref (a 3), .ref (a 4), .int la])), (a 2, .inl (gI g, 1152, .inl it)), (a 4, .inl (gI g, 18, .inl (nF sz))), (a 8, .inr (4, [.ref (a 9), .ref (a 10), .ref (a 11), .int (nI n), .ref (a 12), .ref (a 13), .int (nI tn)])), (a 12, .inl (gI g, 40, .inl (nF kc))), (a 13, .inl (gI g, 160, .inl ge)), (a 16, .inr (7, [.ref (a 17), .ref (a 18), .ref (a 19), .ref (a 20), .ref (a 21), .ref (a 22), .ref (a 23), .int (nI bf), .int bn, .long (lN bt), .long (lN bb)])), (a 17, .inl (gI g, 15, .inl sp)), (a 18, .inl (gI g, 15, .inl nu))]) (pc := 16) hx hb hts inX6 tyX6 tyX6_ok nmX6 hown hK hP hD hS 0 rfl rfl 4 (by decide) (hts _ wd_1_173) (fun _ h9 => h9) rfl (by decide +kernel) rfl rfl (Nat.le_of_ble_eq_true rfl) rfl dX6_settle_16 (fun H locs hP hD hS => ?_)
    refine lv_iconst (v := (0 : Int32)) (pc := 19) hx hb dX6_settle_19 (by decide) ?_
    have hz0 : ∀ i, i < 64 → 128 * (if kindF (rdC it sz, (br, hi, sx, sy), (sd, sc, sk, n), dp, mo) d i = nI k1 then ow else 0) = 0 := fun i hi64 => by rcases Nat.mul_eq_zero.mp h_11 with q | q; rw [q]; split <;> rfl; rw [if_neg (tlF_zero q i hi64)]
    exact hRet _ _ _ _ _ _ hP hD hS dX6_settle_20 ⟨0, cs, w, k2, (by rw [bcost_zero 64 hz0]; rfl), rfl, hkn2_7, (by decide), (fun b => by rw [bcost_zero 64 hz0]; exact Nat.zero_le _)⟩
