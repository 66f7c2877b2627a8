section CPY
variable {p : Program} {l : Launch} {e : Env} {R : Room} {s : State} {m : MethodId} {args : Array Value} {below : List Frame} {meth : Method} {c : Code} {H : Heap} {locs : List Loc} {cells slots : Nat} {Q : State → Prop} {cc : ByteArray} {pc : Nat} {ls : Array Slot} {g : Gx} {A : Nat → Prop} {ws ws' : va_W}
theorem w_copy (hx : p.tables.exec = Jvm.exec) (hb : c.code = cc) (hml : c.maxLocals = ls.size) {own : String} {index : Nat} (hown : s.vm.findClass own = some m.cls) (hlink : (Cond.methodLink own index arraycopyName).before args s = true) (hnat : (Cond.native arraycopyName).before args s = true) (hstat : (Cond.static arraycopyName).before args s = true) (hini : (Cond.initialized "java/lang/System").before args s = true)
    (hK : va_K g.1 classes (TYS g) s) (hP : va_P g.1 classes ws H) (hD : va_D A ws) (hS : va_S A s.heap H locs) (q0 q1 : Nat) {a0 a1 n0 n1 : Nat} {f f2 : Nat → Int32} (ha0 : ws[q0]? = some (a0, .inl (gI g, n0, .inl f))) (ha1 : ws[q1]? = some (a1, .inl (gI g, n1, .inl f2))) {sp dp n : Nat} (hn0 : sp + n ≤ n0) (hn1 : dp + n ≤ n1) (hb0 : sp < 2 ^ 31) (hb1 : dp < 2 ^ 31) (hb2 : n < 2 ^ 31) (hRf : 1 ≤ R.frames) (hRl : 18 ≤ R.locals) (hw : ws.set q1 (a1, .inl (gI g, n1, .inl (va_cpy f f2 sp dp n))) = ws') (hdg : decode cc pc = .ok (.invokestatic index, 3))
    (kk : ∀ (H1 : Heap) (locs1 : List Loc), va_P g.1 classes ws' H1 → va_D A ws' → va_S A s.heap H1 locs1 → W p l e R s m args below meth c H1 locs1 cells slots Q (F0 m (pc + 3) ls [])) : W p l e R s m args below meth c H locs cells slots Q (F0 m pc ls [.int (nI n), .int (nI dp), .ref a1, .int (nI sp), .ref a0]) := by
  refine va_copyi (rest := []) (ty := .int) hx hb hml hown hlink hnat hstat hini hK hP hD hS q0 q1 0 0 ha0 ha1 rfl rfl rfl (nI_pos hb0) (nI_pos hb1) (nI_pos hb2) (by rw [nI_clamp hb0, nI_clamp hb2]; exact hn0) (by rw [nI_clamp hb1, nI_clamp hb2]; exact hn1) (fun _ _ => rfl) hRf (Nat.le_trans (by decide) hRl) hdg (fun H1 locs1 h1 h2 h3 => kk H1 locs1 ?_ ?_ h3)
  · rw [nI_clamp hb0, nI_clamp hb1, nI_clamp hb2, hw] at h1; exact h1
  · rw [nI_clamp hb0, nI_clamp hb1, nI_clamp hb2, hw] at h2; exact h2
end CPY
theorem fit0 (y : Int32) : fit y 0 = 0 := by
  unfold fit; split
  · decide
  · split
    · decide
    · rfl
set_option maxHeartbeats 4000000 in
set_option maxRecDepth 100000 in
theorem c_X3_move (l : Launch) (g : Gx) (a : Nat → Nat) (it : Nat → Int32) (la : Int32) (r i q j k : Nat) (hr : r < 18) (hq : q < 18) (hi1 : i + k ≤ 64) (hj1 : j + k ≤ 64) : Mv l g yX3_move cX3_move 6 (none) { frames := 1, cells := 0, slots := 0, locals := 18 } [.ref (a 1), .int (nI r), .int (nI i), .int (nI q), .int (nI j), .int (nI k)] [(a 1, .inr (3, [.ref (a 2), .ref (a 3), .ref (a 4), .int la])), (a 2, .inl (gI g, 1152, .inl it))] (fun wv_ => wv_ = [(a 1, .inr (3, [.ref (a 2), .ref (a 3), .ref (a 4), .int la])), (a 2, .inl (gI g, 1152, .inl (va_cpy it it (64 * r + i) (64 * q + j) k)))]) 0 0 := by
  refine Mv.opn (own := RX3) (lv := [(0, .ref (a 1)), (1, .int (nI r)), (2, .int (nI i)), (3, .int (nI q)), (4, .int (nI j)), (5, .int (nI k))]) (plainFor_of_name (by decide)) rfl rfl (Nat.le_of_ble_eq_true rfl) ?_
  intro p e R s m args below meth c A Q hx hb hml hown hts hA hK hX hRf hRl hRet H locs ls hP hD hS hl
  refine lv_aload_n (pc := 0) hx hb dX3_move_0 rfl (lv_at hl 0 rfl) ?_
  refine va_get (D := g.1) (ci := 3) (v := .ref (a 2)) (C := RX3) (T := TX3) (N := 4) (index := 9) (pc := 1) hx hb hts inX3 hown hK hP 0 rfl rfl 0 (by decide) (hts _ wd_1_31) (fun _ h9 => h9) rfl dX3_move_1 ?_
  refine lv_bipush (v := (64 : Int32)) (pc := 4) hx hb dX3_move_4 (by decide) ?_
  refine lv_iload_n (pc := 6) hx hb dX3_move_6 rfl (lv_at hl 1 rfl) ?_
  refine w_imul (z := nI (64 * r)) (pc := 7) hx hb dX3_move_7 (pk_mul 64 r) ?_
  refine lv_iload_n (pc := 8) hx hb dX3_move_8 rfl (lv_at hl 2 rfl) ?_
  refine w_iadd (z := nI ((64 * r) + i)) (pc := 9) hx hb dX3_move_9 (nI_add (64 * r) i) ?_
  refine lv_aload_n (pc := 10) hx hb dX3_move_10 rfl (lv_at hl 0 rfl) ?_
  refine va_get (D := g.1) (ci := 3) (v := .ref (a 2)) (C := RX3) (T := TX3) (N := 4) (index := 9) (pc := 11) hx hb hts inX3 hown hK hP 0 rfl rfl 0 (by decide) (hts _ wd_1_31) (fun _ h9 => h9) rfl dX3_move_11 ?_
  refine lv_bipush (v := (64 : Int32)) (pc := 14) hx hb dX3_move_14 (by decide) ?_
  refine lv_iload_n (pc := 16) hx hb dX3_move_16 rfl (lv_at hl 3 rfl) ?_
  refine w_imul (z := nI (64 * q)) (pc := 17) hx hb dX3_move_17 (pk_mul 64 q) ?_
  refine lv_iload (pc := 18) hx hb dX3_move_18 (lv_at hl 4 rfl) ?_
  refine w_iadd (z := nI ((64 * q) + j)) (pc := 20) hx hb dX3_move_20 (nI_add (64 * q) j) ?_
  refine lv_iload (pc := 21) hx hb dX3_move_21 (lv_at hl 5 rfl) ?_
  refine w_copy (ws' := [(a 1, .inr (3, [.ref (a 2), .ref (a 3), .ref (a 4), .int la])), (a 2, .inl (gI g, 1152, .inl (va_cpy it it ((64 * r) + i) ((64 * q) + j) k)))]) (pc := 23) hx hb (hml.trans hl.1.symm) hown (hts _ wd_2_78) (hts _ wd_2_80) (hts _ wd_2_79) (hts _ wd_1_12) hK hP hD hS 1 1 rfl rfl (by omega) (by omega) (by omega) (by omega) (by omega) (Nat.le_trans (by decide) hRf) (Nat.le_trans (by decide) hRl) rfl dX3_move_23 (fun H locs hP hD hS => ?_)
  exact hRet _ _ _ _ _ hP hD hS dX3_move_26 rfl
