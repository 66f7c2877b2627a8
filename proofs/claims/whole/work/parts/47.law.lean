set_option maxHeartbeats 8000000 in
set_option maxRecDepth 100000 in
theorem law_loop {p : Program} {e : Env} {s : State} {m : MethodId} {below : List Frame} {meth : Method} {c : Code} (l : Launch) {g : Gx} {bs L : Nat} {xs : Nat → Int32} (hL : L ≤ 3072) (C0 : lw_At p s m meth c bs L xs) (hK : va_K g.1 classes (TYS g) s) (hX : XC g (fun q : Nat => s.heap.size ≤ q) s s.heap) : ∀ (nn i : Nat), i ≤ L → L - i < nn → ∀ (v : KS9), LInv v → ∀ (H : Heap) (locs : List Loc) (ls : Array Slot), va_P g.1 classes (LWv g v) H → va_D (fun q : Nat => s.heap.size ≤ q) (LWv g v) → va_S (fun q : Nat => s.heap.size ≤ q) s.heap H locs → lv_has ls 4 [(0, .ref bs), (1, .ref (v.a 0)), (2, .ref (v.b 0)), (3, .int (nI i))] → W p l e room_1 s m #[Value.ref bs] below meth c H locs 63 5044 (lw_Z below #[Value.ref bs] s) (F0 m 18 ls []) := by
  obtain ⟨hx, hb, hr, hml, hown0, hts0, hX0, hbl, hlocks, hgv⟩ := C0
  have hts := lw_good_of hts0
  have hown : s.vm.findClass RL = some m.cls := hown0
  have hA : ∀ q : Nat, s.heap.size ≤ q → (fun q : Nat => s.heap.size ≤ q) q := fun _ h => h
  have hbA : ¬ (fun q : Nat => s.heap.size ≤ q) bs := Nat.not_le.mpr hbl
  have hRf : 10 ≤ room_1.frames := Nat.le_refl _
  have hRl : 408 ≤ room_1.locals := Nat.le_refl _
  have hRc : 63 ≤ room_1.cells := Nat.le_refl _
  have hRs : 5044 ≤ room_1.slots := Nat.le_refl _
  intro nn
  induction nn with
  | zero => exact fun i _ h => absurd h (Nat.not_lt_zero _)
  | succ nn ih =>
    intro i hiL hm v hI H locs ls hP hD hS hl
    refine lv_iload_n (pc := 18) hx hb dL_law_18 rfl (lv_at hl 3 rfl) ?_
    refine lv_aload_n (pc := 19) hx hb dL_law_19 rfl (lv_at hl 0 rfl) ?_
    refine va_slen (pc := 20) hx hb hX0 hbl hbA hS dL_law_20 ?_
    refine lv_bipush (v := (6 : Int32)) (pc := 21) hx hb dL_law_21 (by decide) ?_
    refine w_isub (z := nI L - 6) (pc := 23) hx hb dL_law_23 rfl ?_
    refine lv_icmp_gt (tgt := 1148) (pc := 24) hx hb dL_law_24 (by decide) (fun h24 => ?_) (fun h24 => ?_)
    · refine lv_iconst (v := (1 : Int32)) (pc := 1148) hx hb dL_law_1148 (by decide) ?_
      refine va_forget hS.2.2 ?_
      exact lw_ret hx hb hr hlocks dL_law_1149
    · have hi6 := loop_in (by omega) hL h24
      have hN : ∀ (v : KS9), LInv v → ∀ (H : Heap) (locs : List Loc) (ls : Array Slot), va_P g.1 classes (LWv g v) H → va_D (fun q : Nat => s.heap.size ≤ q) (LWv g v) → va_S (fun q : Nat => s.heap.size ≤ q) s.heap H locs → lv_has ls 4 [(0, .ref bs), (1, .ref (v.a 0)), (2, .ref (v.b 0)), (3, .int (nI i))] → W p l e room_1 s m #[Value.ref bs] below meth c H locs 63 5044 (lw_Z below #[Value.ref bs] s) (F0 m 1142 ls []) := by
        intro v hI H locs ls hP hD hS hl
        refine lv_iinc (v := nI (i + 6)) (lv' := [(3, .int (nI (i + 6))), (0, .ref bs), (1, .ref (v.a 0)), (2, .ref (v.b 0))]) (pc := 1142) hx hb dL_law_1142 hl (k := 3) rfl (inc_n i 6) (by decide) rfl (fun ls hl => ?_)
        refine lv_goto (tgt := 18) (pc := 1145) hx hb dL_law_1145 (by decide) ?_
        exact ih (i + 6) hi6 (by omega) v hI _ _ _ hP hD hS (lv_sub hl [1, 2, 3, 0] rfl)
      refine lv_aload_n (pc := 27) hx hb dL_law_27 rfl (lv_at hl 0 rfl) ?_
      refine lv_iload_n (pc := 28) hx hb dL_law_28 rfl (lv_at hl 3 rfl) ?_
      refine w_sld (k := i) (pc := 29) hx hb hX0 hbl hbA hS (by omega) hL dL_law_29 ?_
      refine lv_bipush (v := (31 : Int32)) (pc := 30) hx hb dL_law_30 (by decide) ?_
      refine w_iand (z := xs i &&& 31) (pc := 32) hx hb dL_law_32 rfl ?_
      rcases sw28 (xs i &&& 31) with h | h | h | h | h | h | h | h | h | h | h | h | h | h | h | h | h | h | h | h | h | h | h | h | h | h | h | h | h
      · refine lv_tableIn (off := 127) (tgt := 160) (pc := 33) hx hb dL_law_33 (by rw [h]; decide) (by rw [h]; decide) (by rw [h]; rfl) (by decide) ?_
        exact lc_reel l hx hb hml hown hts hA hK hX hRf hRl hRc hRs hX0 hbl hbA hL hi6 hN hI hP hD hS hl
      · refine lv_tableIn (off := 170) (tgt := 203) (pc := 33) hx hb dL_law_33 (by rw [h]; decide) (by rw [h]; decide) (by rw [h]; rfl) (by decide) ?_
        exact lc_lose l hx hb hml hown hts hA hK hX hRf hRl hRc hRs hX0 hbl hbA hL hi6 hN hI hP hD hS hl
      · refine lv_tableIn (off := 193) (tgt := 226) (pc := 33) hx hb dL_law_33 (by rw [h]; decide) (by rw [h]; decide) (by rw [h]; rfl) (by decide) ?_
        exact lc_put l hx hb hml hown hts hA hK hX hRf hRl hRc hRs hX0 hbl hbA hL hi6 hN hI hP hD hS hl
      · refine lv_tableIn (off := 246) (tgt := 279) (pc := 33) hx hb dL_law_33 (by rw [h]; decide) (by rw [h]; decide) (by rw [h]; rfl) (by decide) ?_
        exact lc_get l hx hb hml hown hts hA hK hX hRf hRl hRc hRs hX0 hbl hbA hL hi6 hN hI hP hD hS hl
      · refine lv_tableIn (off := 289) (tgt := 322) (pc := 33) hx hb dL_law_33 (by rw [h]; decide) (by rw [h]; decide) (by rw [h]; rfl) (by decide) ?_
        exact lc_copy l hx hb hml hown hts hA hK hX hRf hRl hRc hRs hX0 hbl hbA hL hi6 hN hI hP hD hS hl
      · refine lv_tableIn (off := 352) (tgt := 385) (pc := 33) hx hb dL_law_33 (by rw [h]; decide) (by rw [h]; decide) (by rw [h]; rfl) (by decide) ?_
        exact lc_paint l hx hb hml hown hts hA hK hX hRf hRl hRc hRs hX0 hbl hbA hL hi6 hN hI hP hD hS hl
      · refine lv_tableIn (off := 405) (tgt := 438) (pc := 33) hx hb dL_law_33 (by rw [h]; decide) (by rw [h]; decide) (by rw [h]; rfl) (by decide) ?_
        exact lc_clouds l hx hb hml hown hts hA hK hX hRf hRl hRc hRs hX0 hbl hbA hL hi6 hN hI hP hD hS hl
      · refine lv_tableIn (off := 438) (tgt := 471) (pc := 33) hx hb dL_law_33 (by rw [h]; decide) (by rw [h]; decide) (by rw [h]; rfl) (by decide) ?_
        exact lc_sun l hx hb hml hown hts hA hK hX hRf hRl hRc hRs hX0 hbl hbA hL hi6 hN hI hP hD hS hl
      · refine lv_tableIn (off := 481) (tgt := 514) (pc := 33) hx hb dL_law_33 (by rw [h]; decide) (by rw [h]; decide) (by rw [h]; rfl) (by decide) ?_
        exact lc_sky l hx hb hml hown hts hA hK hX hRf hRl hRc hRs hX0 hbl hbA hL hi6 hN hI hP hD hS hl
      · refine lv_tableIn (off := 514) (tgt := 547) (pc := 33) hx hb dL_law_33 (by rw [h]; decide) (by rw [h]; decide) (by rw [h]; rfl) (by decide) ?_
        exact lc_feature l hx hb hml hown hts hA hK hX hRf hRl hRc hRs hX0 hbl hbA hL hi6 hN hI hP hD hS hl
      · refine lv_tableIn (off := 557) (tgt := 590) (pc := 33) hx hb dL_law_33 (by rw [h]; decide) (by rw [h]; decide) (by rw [h]; rfl) (by decide) ?_
        exact lc_sample l hx hb hml hown hts hA hK hX hRf hRl hRc hRs hX0 hbl hbA hL hi6 hN hI hP hD hS hl
      · refine lv_tableIn (off := 600) (tgt := 633) (pc := 33) hx hb dL_law_33 (by rw [h]; decide) (by rw [h]; decide) (by rw [h]; rfl) (by decide) ?_
        exact lc_forget l hx hb hml hown hts hA hK hX hRf hRl hRc hRs hX0 hbl hbA hL hi6 hN hI hP hD hS hl
      · refine lv_tableIn (off := 613) (tgt := 646) (pc := 33) hx hb dL_law_33 (by rw [h]; decide) (by rw [h]; decide) (by rw [h]; rfl) (by decide) ?_
        exact lc_teaching l hx hb hml hown hts hA hK hX hRf hRl hRc hRs hX0 hbl hbA hL hi6 hN hI hP hD hS hl
      · refine lv_tableIn (off := 626) (tgt := 659) (pc := 33) hx hb dL_law_33 (by rw [h]; decide) (by rw [h]; decide) (by rw [h]; rfl) (by decide) ?_
        exact lc_grow l hx hb hml hown hts hA hK hX hRf hRl hRc hRs hX0 hbl hbA hL hi6 hN hI hP hD hS hl
      · refine lv_tableIn (off := 659) (tgt := 692) (pc := 33) hx hb dL_law_33 (by rw [h]; decide) (by rw [h]; decide) (by rw [h]; rfl) (by decide) ?_
        exact lc_tree l hx hb hml hown hts hA hK hX hRf hRl hRc hRs hX0 hbl hbA hL hi6 hN hI hP hD hS hl
      · refine lv_tableIn (off := 692) (tgt := 725) (pc := 33) hx hb dL_law_33 (by rw [h]; decide) (by rw [h]; decide) (by rw [h]; rfl) (by decide) ?_
        exact lc_kind l hx hb hml hown hts hA hK hX hRf hRl hRc hRs hX0 hbl hbA hL hi6 hN hI hP hD hS hl
      · refine lv_tableIn (off := 725) (tgt := 758) (pc := 33) hx hb dL_law_33 (by rw [h]; decide) (by rw [h]; decide) (by rw [h]; rfl) (by decide) ?_
        exact lc_many l hx hb hml hown hts hA hK hX hRf hRl hRc hRs hX0 hbl hbA hL hi6 hN hI hP hD hS hl
      · refine lv_tableIn (off := 758) (tgt := 791) (pc := 33) hx hb dL_law_33 (by rw [h]; decide) (by rw [h]; decide) (by rw [h]; rfl) (by decide) ?_
        exact lc_weigh l hx hb hml hown hts hA hK hX hRf hRl hRc hRs hX0 hbl hbA hL hi6 hN hI hP hD hS hl
      · refine lv_tableIn (off := 791) (tgt := 824) (pc := 33) hx hb dL_law_33 (by rw [h]; decide) (by rw [h]; decide) (by rw [h]; rfl) (by decide) ?_
        exact lc_smooth l hx hb hml hown hts hA hK hX hRf hRl hRc hRs hX0 hbl hbA hL hi6 hN hI hP hD hS hl
      · refine lv_tableIn (off := 824) (tgt := 857) (pc := 33) hx hb dL_law_33 (by rw [h]; decide) (by rw [h]; decide) (by rw [h]; rfl) (by decide) ?_
        exact lc_mark l hx hb hml hown hts hA hK hX hRf hRl hRc hRs hX0 hbl hbA hL hi6 hN hI hP hD hS hl
      · refine lv_tableIn (off := 847) (tgt := 880) (pc := 33) hx hb dL_law_33 (by rw [h]; decide) (by rw [h]; decide) (by rw [h]; rfl) (by decide) ?_
        exact lc_allow l hx hb hml hown hts hA hK hX hRf hRl hRc hRs hX0 hbl hbA hL hi6 hN hI hP hD hS hl
      · refine lv_tableIn (off := 906) (tgt := 939) (pc := 33) hx hb dL_law_33 (by rw [h]; decide) (by rw [h]; decide) (by rw [h]; rfl) (by decide) ?_
        exact lc_path l hx hb hml hown hts hA hK hX hRf hRl hRc hRs hX0 hbl hbA hL hi6 hN hI hP hD hS hl
      · refine lv_tableIn (off := 929) (tgt := 962) (pc := 33) hx hb dL_law_33 (by rw [h]; decide) (by rw [h]; decide) (by rw [h]; rfl) (by decide) ?_
        exact lc_on l hx hb hml hown hts hA hK hX hRf hRl hRc hRs hX0 hbl hbA hL hi6 hN hI hP hD hS hl
      · refine lv_tableIn (off := 962) (tgt := 995) (pc := 33) hx hb dL_law_33 (by rw [h]; decide) (by rw [h]; decide) (by rw [h]; rfl) (by decide) ?_
        exact lc_changed l hx hb hml hown hts hA hK hX hRf hRl hRc hRs hX0 hbl hbA hL hi6 hN hI hP hD hS hl
      · refine lv_tableIn (off := 995) (tgt := 1028) (pc := 33) hx hb dL_law_33 (by rw [h]; decide) (by rw [h]; decide) (by rw [h]; rfl) (by decide) ?_
        exact lc_prove l hx hb hml hown hts hA hK hX hRf hRl hRc hRs hX0 hbl hbA hL hi6 hN hI hP hD hS hl
      · refine lv_tableIn (off := 1038) (tgt := 1071) (pc := 33) hx hb dL_law_33 (by rw [h]; decide) (by rw [h]; decide) (by rw [h]; rfl) (by decide) ?_
        exact lc_area l hx hb hml hown hts hA hK hX hRf hRl hRc hRs hX0 hbl hbA hL hi6 hN hI hP hD hS hl
      · refine lv_tableIn (off := 1072) (tgt := 1105) (pc := 33) hx hb dL_law_33 (by rw [h]; decide) (by rw [h]; decide) (by rw [h]; rfl) (by decide) ?_
        exact lc_count l hx hb hml hown hts hA hK hX hRf hRl hRc hRs hX0 hbl hbA hL hi6 hN hI hP hD hS hl
      · refine lv_tableIn (off := 1095) (tgt := 1128) (pc := 33) hx hb dL_law_33 (by rw [h]; decide) (by rw [h]; decide) (by rw [h]; rfl) (by decide) ?_
        exact lc_digest l hx hb hml hown hts hA hK hX hRf hRl hRc hRs hX0 hbl hbA hL hi6 hN hI hP hD hS hl
      · refine lv_tableOut (tgt := 1142) (pc := 33) hx hb dL_law_33 h (by decide) ?_
        exact hN v hI _ _ _ hP hD hS hl
