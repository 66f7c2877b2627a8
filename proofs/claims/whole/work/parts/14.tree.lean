theorem gt_step {V : Nat → Int32} {o : Nat → Nat} {q i : Nat} {v : Int32} (h : ∀ j, q ≤ j → j < i → v < V (o j)) (h1 : v < V (o (q - 1))) : ∀ j, q - 1 ≤ j → j < i → v < V (o j) := by
  intro j h2 h3
  rcases Nat.lt_or_ge j q with z | z
  · rw [show j = q - 1 by omega]; exact h1
  · exact h j z h3
def sqp (c : Nat → Nat) : Nat → Nat
  | 0 => 0
  | k + 1 => sqp c k + c k * c k
theorem sqp_4 (c : Nat → Nat) : sqp c 4 = sq4 c := by
  show 0 + c 0 * c 0 + c 1 * c 1 + c 2 * c 2 + c 3 * c 3 = _
  unfold sq4; omega
theorem cnt_up {kc od f1 : Nat → Nat} {x i : Nat} (hx : x ≤ i) (h : ∀ k, k < 4 → f1 k = crn (fun j => kc (od j) == k) x (i - x)) : ∀ k, k < 4 → up f1 (kc (od i)) (f1 (kc (od i)) + 1) k = crn (fun j => kc (od j) == k) x (i + 1 - x) := by
  intro k hk
  rw [show i + 1 - x = (i - x) + 1 by omega, crn_s, show x + (i - x) = i by omega]
  unfold up
  by_cases q : k = kc (od i)
  · rw [if_pos q, if_pos (by simp [q]), ← q, h k hk]
  · rw [if_neg q, if_neg (by simp; exact fun z => q z.symm), h k hk]; rfl
theorem cnt_dn {kc od s1 : Nat → Nat} {i y : Nat} (hy : i < y) (h : ∀ k, k < 4 → s1 k = crn (fun j => kc (od j) == k) i (y - i)) : ∀ k, k < 4 → up s1 (kc (od i)) (s1 (kc (od i)) - 1) k = crn (fun j => kc (od j) == k) (i + 1) (y - (i + 1)) := by
  intro k hk
  have e := crn_split (fun j => kc (od j) == k) i 1 (y - (i + 1))
  rw [show 1 + (y - (i + 1)) = y - i by omega, ← h k hk] at e
  have e1 : crn (fun j => kc (od j) == k) i 1 = if kc (od i) == k then 1 else 0 := by
    rw [crn_s]; show 0 + _ = _; rw [Nat.zero_add]; rfl
  rw [e1] at e
  unfold up
  by_cases q : k = kc (od i)
  · rw [if_pos q, ← q]
    rw [if_pos (by simp [q])] at e
    omega
  · rw [if_neg q]
    rw [if_neg (by simp; exact fun z => q z.symm)] at e
    omega
theorem ite_le {c : Prop} {d : Decidable c} {x y m : Nat} (h1 : x ≤ m) (h2 : y ≤ m) : (@ite Nat c d x y) ≤ m := by split <;> assumption
section VSS
variable {T : Nat} {K : Nat → Nat} {F : Nat → Nat → Int32} {P : Nat → Bool} {od : Nat → Nat} {a b i f : Nat}
theorem vis_0 (hK : ∀ s, s < T → K s < 4) (hS : SegEq od a (b - a) T P) (hs : Srt (fun t => F t f) od a b) {f' : Nat} {t' : Int32} (hv : vld T K F P f' t') (h : Vis F od f a f' t') : f' < f := by
  rcases h with h | ⟨h, h2⟩
  · exact h
  · subst h
    obtain ⟨-, ⟨s, hs1, hs2, hs3⟩, -⟩ := hv
    obtain ⟨j, j1, j2, j3⟩ := hS.has hs1 hs2
    have := hs a j (Nat.le_refl _) j1 (by omega)
    dsimp only at this
    rw [j3, hs3] at this
    exact absurd (Int32.lt_of_lt_of_le h2 this) Int32.lt_irrefl
theorem vis_same {f' : Nat} {t' : Int32} (h : F (od (i + 1)) f ≤ F (od i) f) (h3 : Vis F od f (i + 1) f' t') : Vis F od f i f' t' := by
  rcases h3 with h3 | ⟨h3, h4⟩
  · exact Or.inl h3
  · exact Or.inr ⟨h3, Int32.lt_of_lt_of_le h4 h⟩
theorem vis_up (hs : Srt (fun t => F t f) od a b) (ha : a ≤ i) (hb : i + 1 < b) {f' : Nat} {t' : Int32} (h3 : Vis F od f i f' t') : Vis F od f (i + 1) f' t' := by
  rcases h3 with h3 | ⟨h3, h4⟩
  · exact Or.inl h3
  · exact Or.inr ⟨h3, Int32.lt_of_lt_of_le h4 (hs i (i + 1) ha (Nat.le_succ _) hb)⟩
theorem vis_fin (hK : ∀ s, s < T → K s < 4) (hS : SegEq od a (b - a) T P) (hs : Srt (fun t => F t f) od a b) (hab : a ≤ i) (hib : b ≤ i + 1) (hi : i < b ∨ i = a) {f' : Nat} {t' : Int32} (hv : vld T K F P f' t') (h : f' < f + 1) : Vis F od f i f' t' := by
  rcases Nat.lt_succ_iff_lt_or_eq.mp h with q | q
  · exact Or.inl q
  · subst q
    exact Or.inr ⟨rfl, vis_end hK hS hs hab hib hi hv⟩
theorem vis_lt {f' : Nat} {t' : Int32} (h3 : Vis F od f i f' t') : f' < f + 1 := by
  rcases h3 with h3 | ⟨h3, -⟩ <;> omega
end VSS
set_option maxHeartbeats 4000000 in
set_option maxRecDepth 100000 in
theorem c_X7_plant (l : Launch) (g : Gx) (a : Nat → Nat) (sp : Nat → Int32) (st en : Nat → Nat) (bf bt bb : Nat) (bn : Int32) (n x y : Nat) (hn : n < 15) : Mv l g yX7_plant cX7_plant 4 (none) { frames := 0, cells := 0, slots := 0, locals := 0 } [.ref (a 16), .int (nI n), .int (nI x), .int (nI y)] [(a 16, .inr (7, [.ref (a 17), .ref (a 18), .ref (a 19), .ref (a 20), .ref (a 21), .ref (a 22), .ref (a 23), .int (nI bf), .int bn, .long (lN bt), .long (lN bb)])), (a 17, .inl (gI g, 15, .inl sp)), (a 19, .inl (gI g, 15, .inl (nF st))), (a 20, .inl (gI g, 15, .inl (nF en)))] (fun wv_ => wv_ = [(a 16, .inr (7, [.ref (a 17), .ref (a 18), .ref (a 19), .ref (a 20), .ref (a 21), .ref (a 22), .ref (a 23), .int (nI bf), .int bn, .long (lN bt), .long (lN bb)])), (a 17, .inl (gI g, 15, .inl (up sp n (4 : Int32)))), (a 19, .inl (gI g, 15, .inl (nF (up st n x)))), (a 20, .inl (gI g, 15, .inl (nF (up en n y))))]) 0 0 := by
  refine Mv.opn (own := RX7) (lv := [(0, .ref (a 16)), (1, .int (nI n)), (2, .int (nI x)), (3, .int (nI y))]) (plainFor_of_name (by decide)) rfl rfl (Nat.le_of_ble_eq_true rfl) ?_
  intro p e R s m args below meth c A Q hx hb hml hown hts hA hK hX hRf hRl hRet H locs ls hP hD hS hl
  refine lv_aload_n (pc := 0) hx hb dX7_plant_0 rfl (lv_at hl 0 rfl) ?_
  refine va_get (D := g.1) (ci := 7) (v := .ref (a 17)) (C := RX7) (T := TX7) (N := 11) (index := 9) (pc := 1) hx hb hts inX7 hown hK hP 0 rfl rfl 0 (by decide) (hts _ wd_1_107) (fun _ h9 => h9) rfl dX7_plant_1 ?_
  refine lv_iload_n (pc := 4) hx hb dX7_plant_4 rfl (lv_at hl 1 rfl) ?_
  refine lv_iconst (v := (4 : Int32)) (pc := 5) hx hb dX7_plant_5 (by decide) ?_
  refine w_iast (f := sp) (f' := up sp n (4 : Int32)) (k := n) (ws' := [(a 16, .inr (7, [.ref (a 17), .ref (a 18), .ref (a 19), .ref (a 20), .ref (a 21), .ref (a 22), .ref (a 23), .int (nI bf), .int bn, .long (lN bt), .long (lN bb)])), (a 17, .inl (gI g, 15, .inl (up sp n (4 : Int32)))), (a 19, .inl (gI g, 15, .inl (nF st))), (a 20, .inl (gI g, 15, .inl (nF en)))]) (pc := 6) hx hb hK hP hD hS 1 rfl (by omega) (by first | decide | assumption) (rfl) rfl dX7_plant_6 (fun H locs hP hD hS => ?_)
  refine lv_aload_n (pc := 7) hx hb dX7_plant_7 rfl (lv_at hl 0 rfl) ?_
  refine va_get (D := g.1) (ci := 7) (v := .ref (a 19)) (C := RX7) (T := TX7) (N := 11) (index := 18) (pc := 8) hx hb hts inX7 hown hK hP 0 rfl rfl 2 (by decide) (hts _ wd_1_109) (fun _ h9 => h9) rfl dX7_plant_8 ?_
  refine lv_iload_n (pc := 11) hx hb dX7_plant_11 rfl (lv_at hl 1 rfl) ?_
  refine lv_iload_n (pc := 12) hx hb dX7_plant_12 rfl (lv_at hl 2 rfl) ?_
  refine w_iast (f := nF st) (f' := nF (up st n x)) (k := n) (ws' := [(a 16, .inr (7, [.ref (a 17), .ref (a 18), .ref (a 19), .ref (a 20), .ref (a 21), .ref (a 22), .ref (a 23), .int (nI bf), .int bn, .long (lN bt), .long (lN bb)])), (a 17, .inl (gI g, 15, .inl (up sp n (4 : Int32)))), (a 19, .inl (gI g, 15, .inl (nF (up st n x)))), (a 20, .inl (gI g, 15, .inl (nF en)))]) (pc := 13) hx hb hK hP hD hS 2 rfl (by omega) (by first | decide | assumption) (nF_up _ _ _) rfl dX7_plant_13 (fun H locs hP hD hS => ?_)
  refine lv_aload_n (pc := 14) hx hb dX7_plant_14 rfl (lv_at hl 0 rfl) ?_
  refine va_get (D := g.1) (ci := 7) (v := .ref (a 20)) (C := RX7) (T := TX7) (N := 11) (index := 21) (pc := 15) hx hb hts inX7 hown hK hP 0 rfl rfl 3 (by decide) (hts _ wd_1_110) (fun _ h9 => h9) rfl dX7_plant_15 ?_
  refine lv_iload_n (pc := 18) hx hb dX7_plant_18 rfl (lv_at hl 1 rfl) ?_
  refine lv_iload_n (pc := 19) hx hb dX7_plant_19 rfl (lv_at hl 3 rfl) ?_
  refine w_iast (f := nF en) (f' := nF (up en n y)) (k := n) (ws' := [(a 16, .inr (7, [.ref (a 17), .ref (a 18), .ref (a 19), .ref (a 20), .ref (a 21), .ref (a 22), .ref (a 23), .int (nI bf), .int bn, .long (lN bt), .long (lN bb)])), (a 17, .inl (gI g, 15, .inl (up sp n (4 : Int32)))), (a 19, .inl (gI g, 15, .inl (nF (up st n x)))), (a 20, .inl (gI g, 15, .inl (nF (up en n y))))]) (pc := 20) hx hb hK hP hD hS 3 rfl (by omega) (by first | decide | assumption) (nF_up _ _ _) rfl dX7_plant_20 (fun H locs hP hD hS => ?_)
  exact hRet _ _ _ _ _ hP hD hS dX7_plant_21 rfl

set_option maxHeartbeats 4000000 in
set_option maxRecDepth 100000 in
theorem c_X7_countClasses (l : Launch) (g : Gx) (a : Nat → Nat) (od fi se : Nat → Nat) (bf bt bb : Nat) (bn : Int32) (n tn : Nat) (kc : Nat → Nat) (x y : Nat) (hxy : x ≤ y) (hy : y ≤ 40) (ho : ∀ i, x ≤ i → i < y → od i < 40 ∧ kc (od i) < 4) : Mv l g yX7_countClasses cX7_countClasses 5 (none) { frames := 1, cells := 0, slots := 0, locals := 23 } [.ref (a 16), .ref (a 8), .int (nI x), .int (nI y)] [(a 16, .inr (7, [.ref (a 17), .ref (a 18), .ref (a 19), .ref (a 20), .ref (a 21), .ref (a 22), .ref (a 23), .int (nI bf), .int bn, .long (lN bt), .long (lN bb)])), (a 21, .inl (gI g, 40, .inl (nF od))), (a 22, .inl (gI g, 4, .inl (nF fi))), (a 23, .inl (gI g, 4, .inl (nF se))), (a 8, .inr (4, [.ref (a 9), .ref (a 10), .ref (a 11), .int (nI n), .ref (a 12), .ref (a 13), .int (nI tn)])), (a 12, .inl (gI g, 40, .inl (nF kc)))] (fun wv_ => ∃ fi2 : Nat → Nat, ∃ se2 : Nat → Nat, wv_ = [(a 16, .inr (7, [.ref (a 17), .ref (a 18), .ref (a 19), .ref (a 20), .ref (a 21), .ref (a 22), .ref (a 23), .int (nI bf), .int bn, .long (lN bt), .long (lN bb)])), (a 21, .inl (gI g, 40, .inl (nF od))), (a 22, .inl (gI g, 4, .inl (nF fi2))), (a 23, .inl (gI g, 4, .inl (nF se2))), (a 8, .inr (4, [.ref (a 9), .ref (a 10), .ref (a 11), .int (nI n), .ref (a 12), .ref (a 13), .int (nI tn)])), (a 12, .inl (gI g, 40, .inl (nF kc)))] ∧ (∀ k, k < 4 → fi2 k = 0) ∧ (∀ k, k < 4 → se2 k = crn (fun j => kc (od j) == k) x (y - x))) 0 0 := by
  refine Mv.opn (own := RX7) (lv := [(0, .ref (a 16)), (1, .ref (a 8)), (2, .int (nI x)), (3, .int (nI y))]) (plainFor_of_name (by decide)) rfl rfl (Nat.le_of_ble_eq_true rfl) ?_
  intro p e R s m args below meth c A Q hx hb hml hown hts hA hK hX hRf hRl hRet H locs ls hP hD hS hl
  refine lv_aload_n (pc := 0) hx hb dX7_countClasses_0 rfl (lv_at hl 0 rfl) ?_
  refine va_get (D := g.1) (ci := 7) (v := .ref (a 22)) (C := RX7) (T := TX7) (N := 11) (index := 27) (pc := 1) hx hb hts inX7 hown hK hP 0 rfl rfl 5 (by decide) (hts _ wd_1_112) (fun _ h9 => h9) rfl dX7_countClasses_1 ?_
  refine lv_iconst (v := (0 : Int32)) (pc := 4) hx hb dX7_countClasses_4 (by decide) ?_
  refine call_v (wr := [(a 16, .inr (7, [.ref (a 17), .ref (a 18), .ref (a 19), .ref (a 20), .ref (a 21), .ref (a 22), .ref (a 23), .int (nI bf), .int bn, .long (lN bt), .long (lN bb)])), (a 21, .inl (gI g, 40, .inl (nF od))), (a 23, .inl (gI g, 4, .inl (nF se))), (a 8, .inr (4, [.ref (a 9), .ref (a 10), .ref (a 11), .int (nI n), .ref (a 12), .ref (a 13), .int (nI tn)])), (a 12, .inl (gI g, 40, .inl (nF kc)))]) (pc := 5) (run_S (wc := [(a 22, .inl (gI g, 4, .inl (nF fi)))]) (As := [.ref (a 22), .int (0 : Int32)]) (rest := []) (pc := 5) hx hb hml hown hts hA hK hX (Nat.le_trans (by decide) hRf) (Nat.le_trans (by decide) hRl) hP hD hS (c_J7_fill_53178 l g (ad := a 22) (len := 4) (f := nF fi) (x := (0 : Int32)) (by decide)) wd_2_176 wd_1_29 wd_1_3 wd_1_30 hdJ7_fill_53178 [2] rfl rfl rfl hl.1 rfl (Nat.le_of_ble_eq_true rfl) dX7_countClasses_5 ⟨Nat.zero_le _, Nat.zero_le _⟩) hA hP hD hS [2] [0, 1, 3, 4, 5] rfl rfl rfl (by decide) (fun w1 H locs hq_5 hP hD hS => ?_)
  obtain rfl := hq_5
  have hP : va_P g.1 classes [(a 16, .inr (7, [.ref (a 17), .ref (a 18), .ref (a 19), .ref (a 20), .ref (a 21), .ref (a 22), .ref (a 23), .int (nI bf), .int bn, .long (lN bt), .long (lN bb)])), (a 21, .inl (gI g, 40, .inl (nF od))), (a 23, .inl (gI g, 4, .inl (nF se))), (a 8, .inr (4, [.ref (a 9), .ref (a 10), .ref (a 11), .int (nI n), .ref (a 12), .ref (a 13), .int (nI tn)])), (a 12, .inl (gI g, 40, .inl (nF kc))), (a 22, .inl (gI g, 4, .inl (fillF (nF fi) 0 4 (0 : Int32))))] H := hP
  have hD : va_D A [(a 16, .inr (7, [.ref (a 17), .ref (a 18), .ref (a 19), .ref (a 20), .ref (a 21), .ref (a 22), .ref (a 23), .int (nI bf), .int bn, .long (lN bt), .long (lN bb)])), (a 21, .inl (gI g, 40, .inl (nF od))), (a 23, .inl (gI g, 4, .inl (nF se))), (a 8, .inr (4, [.ref (a 9), .ref (a 10), .ref (a 11), .int (nI n), .ref (a 12), .ref (a 13), .int (nI tn)])), (a 12, .inl (gI g, 40, .inl (nF kc))), (a 22, .inl (gI g, 4, .inl (fillF (nF fi) 0 4 (0 : Int32))))] := hD
  rw [show fillF (nF fi) 0 4 (0 : Int32) = nF (fillN fi 0 4 0) from fill_nF _ _ _ 0] at hP hD
  refine lv_aload_n (pc := 8) hx hb dX7_countClasses_8 rfl (lv_at hl 0 rfl) ?_
  refine va_get (D := g.1) (ci := 7) (v := .ref (a 23)) (C := RX7) (T := TX7) (N := 11) (index := 30) (pc := 9) hx hb hts inX7 hown hK hP 0 rfl rfl 6 (by decide) (hts _ wd_1_113) (fun _ h9 => h9) rfl dX7_countClasses_9 ?_
  refine lv_iconst (v := (0 : Int32)) (pc := 12) hx hb dX7_countClasses_12 (by decide) ?_
  refine call_v (wr := [(a 16, .inr (7, [.ref (a 17), .ref (a 18), .ref (a 19), .ref (a 20), .ref (a 21), .ref (a 22), .ref (a 23), .int (nI bf), .int bn, .long (lN bt), .long (lN bb)])), (a 21, .inl (gI g, 40, .inl (nF od))), (a 8, .inr (4, [.ref (a 9), .ref (a 10), .ref (a 11), .int (nI n), .ref (a 12), .ref (a 13), .int (nI tn)])), (a 12, .inl (gI g, 40, .inl (nF kc))), (a 22, .inl (gI g, 4, .inl (nF (fillN fi 0 4 0))))]) (pc := 13) (run_S (wc := [(a 23, .inl (gI g, 4, .inl (nF se)))]) (As := [.ref (a 23), .int (0 : Int32)]) (rest := []) (pc := 13) hx hb hml hown hts hA hK hX (Nat.le_trans (by decide) hRf) (Nat.le_trans (by decide) hRl) hP hD hS (c_J7_fill_53178 l g (ad := a 23) (len := 4) (f := nF se) (x := (0 : Int32)) (by decide)) wd_2_176 wd_1_29 wd_1_3 wd_1_30 hdJ7_fill_53178 [2] rfl rfl rfl hl.1 rfl (Nat.le_of_ble_eq_true rfl) dX7_countClasses_13 ⟨Nat.zero_le _, Nat.zero_le _⟩) hA hP hD hS [2] [0, 1, 3, 4, 5] rfl rfl rfl (by decide) (fun w1 H locs hq_13 hP hD hS => ?_)
  obtain rfl := hq_13
  have hP : va_P g.1 classes [(a 16, .inr (7, [.ref (a 17), .ref (a 18), .ref (a 19), .ref (a 20), .ref (a 21), .ref (a 22), .ref (a 23), .int (nI bf), .int bn, .long (lN bt), .long (lN bb)])), (a 21, .inl (gI g, 40, .inl (nF od))), (a 8, .inr (4, [.ref (a 9), .ref (a 10), .ref (a 11), .int (nI n), .ref (a 12), .ref (a 13), .int (nI tn)])), (a 12, .inl (gI g, 40, .inl (nF kc))), (a 22, .inl (gI g, 4, .inl (nF (fillN fi 0 4 0)))), (a 23, .inl (gI g, 4, .inl (fillF (nF se) 0 4 (0 : Int32))))] H := hP
  have hD : va_D A [(a 16, .inr (7, [.ref (a 17), .ref (a 18), .ref (a 19), .ref (a 20), .ref (a 21), .ref (a 22), .ref (a 23), .int (nI bf), .int bn, .long (lN bt), .long (lN bb)])), (a 21, .inl (gI g, 40, .inl (nF od))), (a 8, .inr (4, [.ref (a 9), .ref (a 10), .ref (a 11), .int (nI n), .ref (a 12), .ref (a 13), .int (nI tn)])), (a 12, .inl (gI g, 40, .inl (nF kc))), (a 22, .inl (gI g, 4, .inl (nF (fillN fi 0 4 0)))), (a 23, .inl (gI g, 4, .inl (fillF (nF se) 0 4 (0 : Int32))))] := hD
  rw [show fillF (nF se) 0 4 (0 : Int32) = nF (fillN se 0 4 0) from fill_nF _ _ _ 0] at hP hD
  refine lv_iload_n (pc := 16) hx hb dX7_countClasses_16 rfl (lv_at hl 2 rfl) ?_
  refine lv_istore (lv' := [(4, .int (nI x)), (0, .ref (a 16)), (1, .ref (a 8)), (2, .int (nI x)), (3, .int (nI y))]) (pc := 17) hx hb dX7_countClasses_17 hl (by decide) rfl (fun ls hl => ?_)
  have L19 : ∀ (nn : Nat) (i : Nat) (s2 : Nat → Nat) (hi0 : x ≤ i ∧ i ≤ y) (hs : ∀ k, k < 4 → s2 k = crn (fun j => kc (od j) == k) x (i - x)), y - i < nn → ∀ (H : Heap) (locs : List Loc) (ls : Array Slot), va_P g.1 classes [(a 16, .inr (7, [.ref (a 17), .ref (a 18), .ref (a 19), .ref (a 20), .ref (a 21), .ref (a 22), .ref (a 23), .int (nI bf), .int bn, .long (lN bt), .long (lN bb)])), (a 21, .inl (gI g, 40, .inl (nF od))), (a 8, .inr (4, [.ref (a 9), .ref (a 10), .ref (a 11), .int (nI n), .ref (a 12), .ref (a 13), .int (nI tn)])), (a 12, .inl (gI g, 40, .inl (nF kc))), (a 22, .inl (gI g, 4, .inl (nF (fillN fi 0 4 0)))), (a 23, .inl (gI g, 4, .inl (nF s2)))] H → va_D A [(a 16, .inr (7, [.ref (a 17), .ref (a 18), .ref (a 19), .ref (a 20), .ref (a 21), .ref (a 22), .ref (a 23), .int (nI bf), .int bn, .long (lN bt), .long (lN bb)])), (a 21, .inl (gI g, 40, .inl (nF od))), (a 8, .inr (4, [.ref (a 9), .ref (a 10), .ref (a 11), .int (nI n), .ref (a 12), .ref (a 13), .int (nI tn)])), (a 12, .inl (gI g, 40, .inl (nF kc))), (a 22, .inl (gI g, 4, .inl (nF (fillN fi 0 4 0)))), (a 23, .inl (gI g, 4, .inl (nF s2)))] → va_S A s.heap H locs → lv_has ls 5 [(0, .ref (a 16)), (1, .ref (a 8)), (2, .int (nI x)), (3, .int (nI y)), (4, .int (nI i))] → W p l e R s m args below meth c H locs 0 0 Q (F0 m 19 ls []) := by
    intro nn
    induction nn with
    | zero => exact fun i s2 hi0 hs hm => absurd hm (Nat.not_lt_zero _)
    | succ nn ih19 =>
      intro i s2 hi0 hs hm19 H locs ls hP hD hS hl
      refine lv_iload (pc := 19) hx hb dX7_countClasses_19 (lv_at hl 4 rfl) ?_
      refine lv_iload_n (pc := 21) hx hb dX7_countClasses_21 rfl (lv_at hl 3 rfl) ?_
      refine n_icmp_ge (tgt := 51) (pc := 22) hx hb i y (by omega) (by omega) dX7_countClasses_22 (by decide) (fun h_22 => ?_) (fun h_22 => ?_)
      · skip
        have hP : va_P g.1 classes [(a 16, .inr (7, [.ref (a 17), .ref (a 18), .ref (a 19), .ref (a 20), .ref (a 21), .ref (a 22), .ref (a 23), .int (nI bf), .int bn, .long (lN bt), .long (lN bb)])), (a 21, .inl (gI g, 40, .inl (nF od))), (a 22, .inl (gI g, 4, .inl (nF (fillN fi 0 4 0)))), (a 23, .inl (gI g, 4, .inl (nF s2))), (a 8, .inr (4, [.ref (a 9), .ref (a 10), .ref (a 11), .int (nI n), .ref (a 12), .ref (a 13), .int (nI tn)])), (a 12, .inl (gI g, 40, .inl (nF kc)))] H := hP.sub [0, 1, 4, 5, 2, 3] rfl
        have hD : va_D A [(a 16, .inr (7, [.ref (a 17), .ref (a 18), .ref (a 19), .ref (a 20), .ref (a 21), .ref (a 22), .ref (a 23), .int (nI bf), .int bn, .long (lN bt), .long (lN bb)])), (a 21, .inl (gI g, 40, .inl (nF od))), (a 22, .inl (gI g, 4, .inl (nF (fillN fi 0 4 0)))), (a 23, .inl (gI g, 4, .inl (nF s2))), (a 8, .inr (4, [.ref (a 9), .ref (a 10), .ref (a 11), .int (nI n), .ref (a 12), .ref (a 13), .int (nI tn)])), (a 12, .inl (gI g, 40, .inl (nF kc)))] := hD.sub [0, 1, 4, 5, 2, 3] rfl rfl
        exact hRet _ _ _ _ _ hP hD hS dX7_countClasses_51 ⟨_, s2, rfl, (fun k hk => fillN_in ⟨Nat.zero_le _, hk⟩), (fun k hk => by rw [show y - x = i - x by omega]; exact hs k hk)⟩
      · skip
        have hoi := ho i hi0.1 h_22
        refine lv_aload_n (pc := 25) hx hb dX7_countClasses_25 rfl (lv_at hl 0 rfl) ?_
        refine va_get (D := g.1) (ci := 7) (v := .ref (a 23)) (C := RX7) (T := TX7) (N := 11) (index := 30) (pc := 26) hx hb hts inX7 hown hK hP 0 rfl rfl 6 (by decide) (hts _ wd_1_113) (fun _ h9 => h9) rfl dX7_countClasses_26 ?_
        refine lv_aload_n (pc := 29) hx hb dX7_countClasses_29 rfl (lv_at hl 1 rfl) ?_
        refine lv_aload_n (pc := 30) hx hb dX7_countClasses_30 rfl (lv_at hl 0 rfl) ?_
        refine va_get (D := g.1) (ci := 7) (v := .ref (a 21)) (C := RX7) (T := TX7) (N := 11) (index := 24) (pc := 31) hx hb hts inX7 hown hK hP 0 rfl rfl 4 (by decide) (hts _ wd_1_111) (fun _ h9 => h9) rfl dX7_countClasses_31 ?_
        refine lv_iload (pc := 34) hx hb dX7_countClasses_34 (lv_at hl 4 rfl) ?_
        refine w_iald (f := nF od) (k := i) (z := nI (od i)) (pc := 36) hx hb hK hP 1 rfl (by omega) (by first | decide | assumption) (rfl) dX7_countClasses_36 ?_
        refine call_i (wr := [(a 16, .inr (7, [.ref (a 17), .ref (a 18), .ref (a 19), .ref (a 20), .ref (a 21), .ref (a 22), .ref (a 23), .int (nI bf), .int bn, .long (lN bt), .long (lN bb)])), (a 21, .inl (gI g, 40, .inl (nF od))), (a 22, .inl (gI g, 4, .inl (nF (fillN fi 0 4 0)))), (a 23, .inl (gI g, 4, .inl (nF s2)))]) (pc := 37) (run_V (wc := [(a 8, .inr (4, [.ref (a 9), .ref (a 10), .ref (a 11), .int (nI n), .ref (a 12), .ref (a 13), .int (nI tn)])), (a 12, .inl (gI g, 40, .inl (nF kc)))]) (As := [.int (nI (od i))]) (rest := [.ref (a 23)]) (pc := 37) hx hb hml hown hts hA hK hX (Nat.le_trans (by decide) hRf) (Nat.le_trans (by decide) hRl) hP hD hS (c_X4_classOf l g (a := a) (n := n) (tn := tn) (kc := kc) (t := od i) (by first | assumption | omega)) wd_2_195 wd_2_196 wd_2_197 wd_1_5 wd_2_198 hdX4_classOf [2, 3] rfl rfl 0 rfl rfl rfl hl.1 rfl (Nat.le_of_ble_eq_true rfl) dX7_countClasses_37 ⟨Nat.zero_le _, Nat.zero_le _⟩) hA hP hD hS [2, 3] [0, 1, 4, 5] rfl rfl rfl (by decide) (fun r w1 H locs hq_37 hP hD hS => ?_)
        obtain ⟨rfl, rfl⟩ := hq_37
        have hP : va_P g.1 classes [(a 16, .inr (7, [.ref (a 17), .ref (a 18), .ref (a 19), .ref (a 20), .ref (a 21), .ref (a 22), .ref (a 23), .int (nI bf), .int bn, .long (lN bt), .long (lN bb)])), (a 21, .inl (gI g, 40, .inl (nF od))), (a 22, .inl (gI g, 4, .inl (nF (fillN fi 0 4 0)))), (a 23, .inl (gI g, 4, .inl (nF s2))), (a 8, .inr (4, [.ref (a 9), .ref (a 10), .ref (a 11), .int (nI n), .ref (a 12), .ref (a 13), .int (nI tn)])), (a 12, .inl (gI g, 40, .inl (nF kc)))] H := hP
        have hD : va_D A [(a 16, .inr (7, [.ref (a 17), .ref (a 18), .ref (a 19), .ref (a 20), .ref (a 21), .ref (a 22), .ref (a 23), .int (nI bf), .int bn, .long (lN bt), .long (lN bb)])), (a 21, .inl (gI g, 40, .inl (nF od))), (a 22, .inl (gI g, 4, .inl (nF (fillN fi 0 4 0)))), (a 23, .inl (gI g, 4, .inl (nF s2))), (a 8, .inr (4, [.ref (a 9), .ref (a 10), .ref (a 11), .int (nI n), .ref (a 12), .ref (a 13), .int (nI tn)])), (a 12, .inl (gI g, 40, .inl (nF kc)))] := hD
        refine lv_dup2_11 (pc := 40) hx hb dX7_countClasses_40 rfl rfl ?_
        refine w_iald (f := nF s2) (k := kc (od i)) (z := nI (s2 (kc (od i)))) (pc := 41) hx hb hK hP 3 rfl (by omega) (by first | decide | assumption) (rfl) dX7_countClasses_41 ?_
        refine lv_iconst (v := (1 : Int32)) (pc := 42) hx hb dX7_countClasses_42 (by decide) ?_
        refine w_iadd (z := nI ((s2 (kc (od i))) + 1)) (pc := 43) hx hb dX7_countClasses_43 (nI_add (s2 (kc (od i))) 1) ?_
        refine w_iast (f := nF s2) (f' := nF (up s2 (kc (od i)) ((s2 (kc (od i))) + 1))) (k := kc (od i)) (ws' := [(a 16, .inr (7, [.ref (a 17), .ref (a 18), .ref (a 19), .ref (a 20), .ref (a 21), .ref (a 22), .ref (a 23), .int (nI bf), .int bn, .long (lN bt), .long (lN bb)])), (a 21, .inl (gI g, 40, .inl (nF od))), (a 22, .inl (gI g, 4, .inl (nF (fillN fi 0 4 0)))), (a 23, .inl (gI g, 4, .inl (nF (up s2 (kc (od i)) ((s2 (kc (od i))) + 1))))), (a 8, .inr (4, [.ref (a 9), .ref (a 10), .ref (a 11), .int (nI n), .ref (a 12), .ref (a 13), .int (nI tn)])), (a 12, .inl (gI g, 40, .inl (nF kc)))]) (pc := 44) hx hb hK hP hD hS 3 rfl (by omega) (by first | decide | assumption) (nF_up _ _ _) rfl dX7_countClasses_44 (fun H locs hP hD hS => ?_)
        refine lv_iinc (v := nI (i + 1)) (lv' := [(4, .int (nI (i + 1))), (0, .ref (a 16)), (1, .ref (a 8)), (2, .int (nI x)), (3, .int (nI y))]) (pc := 45) hx hb dX7_countClasses_45 hl (k := 4) rfl (inc_n i 1) (by decide) rfl (fun ls hl => ?_)
        refine lv_goto (tgt := 19) (pc := 48) hx hb dX7_countClasses_48 (by decide) ?_
        have hP : va_P g.1 classes [(a 16, .inr (7, [.ref (a 17), .ref (a 18), .ref (a 19), .ref (a 20), .ref (a 21), .ref (a 22), .ref (a 23), .int (nI bf), .int bn, .long (lN bt), .long (lN bb)])), (a 21, .inl (gI g, 40, .inl (nF od))), (a 8, .inr (4, [.ref (a 9), .ref (a 10), .ref (a 11), .int (nI n), .ref (a 12), .ref (a 13), .int (nI tn)])), (a 12, .inl (gI g, 40, .inl (nF kc))), (a 22, .inl (gI g, 4, .inl (nF (fillN fi 0 4 0)))), (a 23, .inl (gI g, 4, .inl (nF (up s2 (kc (od i)) ((s2 (kc (od i))) + 1)))))] H := hP.sub [0, 1, 4, 5, 2, 3] rfl
        have hD : va_D A [(a 16, .inr (7, [.ref (a 17), .ref (a 18), .ref (a 19), .ref (a 20), .ref (a 21), .ref (a 22), .ref (a 23), .int (nI bf), .int bn, .long (lN bt), .long (lN bb)])), (a 21, .inl (gI g, 40, .inl (nF od))), (a 8, .inr (4, [.ref (a 9), .ref (a 10), .ref (a 11), .int (nI n), .ref (a 12), .ref (a 13), .int (nI tn)])), (a 12, .inl (gI g, 40, .inl (nF kc))), (a 22, .inl (gI g, 4, .inl (nF (fillN fi 0 4 0)))), (a 23, .inl (gI g, 4, .inl (nF (up s2 (kc (od i)) ((s2 (kc (od i))) + 1)))))] := hD.sub [0, 1, 4, 5, 2, 3] rfl rfl
        exact ih19 (i + 1) (up s2 (kc (od i)) ((s2 (kc (od i))) + 1)) (by omega) (fun k hk => by rw [show i + 1 - x = (i - x) + 1 by omega, crn_s, show x + (i - x) = i by omega]; unfold up; by_cases q : k = kc (od i); rw [if_pos q, if_pos (by simp [q]), ← q, hs k hk]; rw [if_neg q, if_neg (by simp; exact fun z => q z.symm), hs k hk]; rfl) (by have := hm19; omega) _ _ _ hP hD hS (lv_sub hl [1, 2, 3, 4, 0] rfl)
  exact L19 _ x (fillN se 0 4 0) ⟨Nat.le_refl _, hxy⟩ (fun k hk => by rw [fillN_in ⟨Nat.zero_le _, hk⟩, Nat.sub_self]; rfl) (Nat.lt_succ_self _) _ _ _ hP hD hS (lv_sub hl [1, 2, 3, 4, 0] rfl)

set_option maxHeartbeats 4000000 in
set_option maxRecDepth 100000 in
theorem c_X7_sort (l : Launch) (g : Gx) (a : Nat → Nat) (od : Nat → Nat) (bf bt bb : Nat) (bn : Int32) (n tn : Nat) (ge : Nat → Int32) (f x y : Nat) (hf : f < 4) (hxy : x ≤ y) (hy : y ≤ 40) (ho : ∀ i, x ≤ i → i < y → od i < 40) : Mv l g yX7_sort cX7_sort 9 (none) { frames := 1, cells := 0, slots := 0, locals := 22 } [.ref (a 16), .ref (a 8), .int (nI f), .int (nI x), .int (nI y)] [(a 16, .inr (7, [.ref (a 17), .ref (a 18), .ref (a 19), .ref (a 20), .ref (a 21), .ref (a 22), .ref (a 23), .int (nI bf), .int bn, .long (lN bt), .long (lN bb)])), (a 21, .inl (gI g, 40, .inl (nF od))), (a 8, .inr (4, [.ref (a 9), .ref (a 10), .ref (a 11), .int (nI n), .ref (a 12), .ref (a 13), .int (nI tn)])), (a 13, .inl (gI g, 160, .inl ge))] (fun wv_ => ∃ od2 : Nat → Nat, wv_ = [(a 16, .inr (7, [.ref (a 17), .ref (a 18), .ref (a 19), .ref (a 20), .ref (a 21), .ref (a 22), .ref (a 23), .int (nI bf), .int bn, .long (lN bt), .long (lN bb)])), (a 21, .inl (gI g, 40, .inl (nF od2))), (a 8, .inr (4, [.ref (a 9), .ref (a 10), .ref (a 11), .int (nI n), .ref (a 12), .ref (a 13), .int (nI tn)])), (a 13, .inl (gI g, 160, .inl ge))] ∧ SameSeg od od2 x (y - x) ∧ Srt (fun t => ge (40 * f + t)) od2 x y) 0 0 := by
  refine Mv.opn (own := RX7) (lv := [(0, .ref (a 16)), (1, .ref (a 8)), (2, .int (nI f)), (3, .int (nI x)), (4, .int (nI y))]) (plainFor_of_name (by decide)) rfl rfl (Nat.le_of_ble_eq_true rfl) ?_
  intro p e R s m args below meth c A Q hx hb hml hown hts hA hK hX hRf hRl hRet H locs ls hP hD hS hl
  refine lv_iload_n (pc := 0) hx hb dX7_sort_0 rfl (lv_at hl 3 rfl) ?_
  refine lv_iconst (v := (1 : Int32)) (pc := 1) hx hb dX7_sort_1 (by decide) ?_
  refine w_iadd (z := nI (x + 1)) (pc := 2) hx hb dX7_sort_2 (nI_add x 1) ?_
  refine lv_istore (lv' := [(5, .int (nI (x + 1))), (0, .ref (a 16)), (1, .ref (a 8)), (2, .int (nI f)), (3, .int (nI x)), (4, .int (nI y))]) (pc := 3) hx hb dX7_sort_3 hl (by decide) rfl (fun ls hl => ?_)
  have L5 : ∀ (nn : Nat) (i : Nat) (o1 : Nat → Nat) (hi0 : x < i ∧ (i ≤ y ∨ i = x + 1)) (hs1 : SameSeg od o1 x (y - x)) (hr1 : i ≤ y → Srt (fun t => ge (40 * f + t)) o1 x i) (ho1 : ∀ j, x ≤ j → j < y → o1 j < 40), y - i < nn → ∀ (H : Heap) (locs : List Loc) (ls : Array Slot), va_P g.1 classes [(a 16, .inr (7, [.ref (a 17), .ref (a 18), .ref (a 19), .ref (a 20), .ref (a 21), .ref (a 22), .ref (a 23), .int (nI bf), .int bn, .long (lN bt), .long (lN bb)])), (a 21, .inl (gI g, 40, .inl (nF o1))), (a 8, .inr (4, [.ref (a 9), .ref (a 10), .ref (a 11), .int (nI n), .ref (a 12), .ref (a 13), .int (nI tn)])), (a 13, .inl (gI g, 160, .inl ge))] H → va_D A [(a 16, .inr (7, [.ref (a 17), .ref (a 18), .ref (a 19), .ref (a 20), .ref (a 21), .ref (a 22), .ref (a 23), .int (nI bf), .int bn, .long (lN bt), .long (lN bb)])), (a 21, .inl (gI g, 40, .inl (nF o1))), (a 8, .inr (4, [.ref (a 9), .ref (a 10), .ref (a 11), .int (nI n), .ref (a 12), .ref (a 13), .int (nI tn)])), (a 13, .inl (gI g, 160, .inl ge))] → va_S A s.heap H locs → lv_has ls 9 [(0, .ref (a 16)), (1, .ref (a 8)), (2, .int (nI f)), (3, .int (nI x)), (4, .int (nI y)), (5, .int (nI i))] → W p l e R s m args below meth c H locs 0 0 Q (F0 m 5 ls []) := by
    intro nn
    induction nn with
    | zero => exact fun i o1 hi0 hs1 hr1 ho1 hm => absurd hm (Nat.not_lt_zero _)
    | succ nn ih5 =>
      intro i o1 hi0 hs1 hr1 ho1 hm5 H locs ls hP hD hS hl
      refine lv_iload (pc := 5) hx hb dX7_sort_5 (lv_at hl 5 rfl) ?_
      refine lv_iload (pc := 7) hx hb dX7_sort_7 (lv_at hl 4 rfl) ?_
      refine n_icmp_ge (tgt := 96) (pc := 9) hx hb i y (by omega) (by omega) dX7_sort_9 (by decide) (fun h_9 => ?_) (fun h_9 => ?_)
      · skip
        exact hRet _ _ _ _ _ hP hD hS dX7_sort_96 ⟨o1, rfl, hs1, (fun u v h1 h2 h3 => hr1 (by omega) u v h1 h2 (by omega))⟩
      · skip
        have hoi := ho1 i (by omega) h_9
        refine lv_aload_n (pc := 12) hx hb dX7_sort_12 rfl (lv_at hl 0 rfl) ?_
        refine va_get (D := g.1) (ci := 7) (v := .ref (a 21)) (C := RX7) (T := TX7) (N := 11) (index := 24) (pc := 13) hx hb hts inX7 hown hK hP 0 rfl rfl 4 (by decide) (hts _ wd_1_111) (fun _ h9 => h9) rfl dX7_sort_13 ?_
        refine lv_iload (pc := 16) hx hb dX7_sort_16 (lv_at hl 5 rfl) ?_
        refine w_iald (f := nF o1) (k := i) (z := nI (o1 i)) (pc := 18) hx hb hK hP 1 rfl (by omega) (by first | decide | assumption) (rfl) dX7_sort_18 ?_
        refine lv_istore (lv' := [(6, .int (nI (o1 i))), (0, .ref (a 16)), (1, .ref (a 8)), (2, .int (nI f)), (3, .int (nI x)), (4, .int (nI y)), (5, .int (nI i))]) (pc := 19) hx hb dX7_sort_19 hl (by decide) rfl (fun ls hl => ?_)
        refine lv_aload_n (pc := 21) hx hb dX7_sort_21 rfl (lv_at hl 2 rfl) ?_
        refine lv_iload (pc := 22) hx hb dX7_sort_22 (lv_at hl 0 rfl) ?_
        refine lv_iload_n (pc := 24) hx hb dX7_sort_24 rfl (lv_at hl 3 rfl) ?_
        refine call_i (wr := [(a 16, .inr (7, [.ref (a 17), .ref (a 18), .ref (a 19), .ref (a 20), .ref (a 21), .ref (a 22), .ref (a 23), .int (nI bf), .int bn, .long (lN bt), .long (lN bb)])), (a 21, .inl (gI g, 40, .inl (nF o1)))]) (pc := 25) (run_V (wc := [(a 8, .inr (4, [.ref (a 9), .ref (a 10), .ref (a 11), .int (nI n), .ref (a 12), .ref (a 13), .int (nI tn)])), (a 13, .inl (gI g, 160, .inl ge))]) (As := [.int (nI (o1 i)), .int (nI f)]) (rest := []) (pc := 25) hx hb hml hown hts hA hK hX (Nat.le_trans (by decide) hRf) (Nat.le_trans (by decide) hRl) hP hD hS (c_X4_featureOf l g (a := a) (n := n) (tn := tn) (ge := ge) (t := o1 i) (f := f) (by first | assumption | omega) (by first | assumption | omega)) wd_2_207 wd_2_208 wd_2_209 wd_1_5 wd_2_210 hdX4_featureOf [2, 3] rfl rfl 0 rfl rfl rfl hl.1 rfl (Nat.le_of_ble_eq_true rfl) dX7_sort_25 ⟨Nat.zero_le _, Nat.zero_le _⟩) hA hP hD hS [2, 3] [0, 1] rfl rfl rfl (by decide) (fun r w1 H locs hq_25 hP hD hS => ?_)
        obtain ⟨rfl, rfl⟩ := hq_25
        have hP : va_P g.1 classes [(a 16, .inr (7, [.ref (a 17), .ref (a 18), .ref (a 19), .ref (a 20), .ref (a 21), .ref (a 22), .ref (a 23), .int (nI bf), .int bn, .long (lN bt), .long (lN bb)])), (a 21, .inl (gI g, 40, .inl (nF o1))), (a 8, .inr (4, [.ref (a 9), .ref (a 10), .ref (a 11), .int (nI n), .ref (a 12), .ref (a 13), .int (nI tn)])), (a 13, .inl (gI g, 160, .inl ge))] H := hP
        have hD : va_D A [(a 16, .inr (7, [.ref (a 17), .ref (a 18), .ref (a 19), .ref (a 20), .ref (a 21), .ref (a 22), .ref (a 23), .int (nI bf), .int bn, .long (lN bt), .long (lN bb)])), (a 21, .inl (gI g, 40, .inl (nF o1))), (a 8, .inr (4, [.ref (a 9), .ref (a 10), .ref (a 11), .int (nI n), .ref (a 12), .ref (a 13), .int (nI tn)])), (a 13, .inl (gI g, 160, .inl ge))] := hD
        refine lv_istore (lv' := [(7, .int (ge (40 * f + (o1 i)))), (6, .int (nI (o1 i))), (0, .ref (a 16)), (1, .ref (a 8)), (2, .int (nI f)), (3, .int (nI x)), (4, .int (nI y)), (5, .int (nI i))]) (pc := 28) hx hb dX7_sort_28 hl (by decide) rfl (fun ls hl => ?_)
        refine lv_iload (pc := 30) hx hb dX7_sort_30 (lv_at hl 7 rfl) ?_
        refine lv_istore (lv' := [(8, .int (nI i)), (7, .int (ge (40 * f + (o1 i)))), (6, .int (nI (o1 i))), (0, .ref (a 16)), (1, .ref (a 8)), (2, .int (nI f)), (3, .int (nI x)), (4, .int (nI y)), (5, .int (nI i))]) (pc := 32) hx hb dX7_sort_32 hl (by decide) rfl (fun ls hl => ?_)
        have L34 : ∀ (nn : Nat) (q : Nat) (o2 : Nat → Nat) (hq : x ≤ q ∧ q ≤ i) (hsh : o2 = shf o1 q i) (hgt : ∀ j, q ≤ j → j < i → ge (40 * f + o1 i) < ge (40 * f + o1 j)), q < nn → ∀ (H : Heap) (locs : List Loc) (ls : Array Slot), va_P g.1 classes [(a 16, .inr (7, [.ref (a 17), .ref (a 18), .ref (a 19), .ref (a 20), .ref (a 21), .ref (a 22), .ref (a 23), .int (nI bf), .int bn, .long (lN bt), .long (lN bb)])), (a 21, .inl (gI g, 40, .inl (nF o2))), (a 8, .inr (4, [.ref (a 9), .ref (a 10), .ref (a 11), .int (nI n), .ref (a 12), .ref (a 13), .int (nI tn)])), (a 13, .inl (gI g, 160, .inl ge))] H → va_D A [(a 16, .inr (7, [.ref (a 17), .ref (a 18), .ref (a 19), .ref (a 20), .ref (a 21), .ref (a 22), .ref (a 23), .int (nI bf), .int bn, .long (lN bt), .long (lN bb)])), (a 21, .inl (gI g, 40, .inl (nF o2))), (a 8, .inr (4, [.ref (a 9), .ref (a 10), .ref (a 11), .int (nI n), .ref (a 12), .ref (a 13), .int (nI tn)])), (a 13, .inl (gI g, 160, .inl ge))] → va_S A s.heap H locs → lv_has ls 9 [(0, .ref (a 16)), (1, .ref (a 8)), (2, .int (nI f)), (3, .int (nI x)), (4, .int (nI y)), (5, .int (nI i)), (6, .int (nI (o1 i))), (7, .int (ge (40 * f + (o1 i)))), (8, .int (nI q))] → W p l e R s m args below meth c H locs 0 0 Q (F0 m 34 ls []) := by
          intro nn
          induction nn with
          | zero => exact fun q o2 hq hsh hgt hm => absurd hm (Nat.not_lt_zero _)
          | succ nn ih34 =>
            intro q o2 hq hsh hgt hm34 H locs ls hP hD hS hl
            have ov : x < q → o2 (q - 1) = o1 (q - 1) := fun z => by rw [hsh]; unfold shf; rw [if_neg (by omega)]
            refine lv_iload (pc := 34) hx hb dX7_sort_34 (lv_at hl 8 rfl) ?_
            refine lv_iload_n (pc := 36) hx hb dX7_sort_36 rfl (lv_at hl 3 rfl) ?_
            refine n_icmp_le (tgt := 81) (pc := 37) hx hb q x (by omega) (by omega) dX7_sort_37 (by decide) (fun h_37 => ?_) (fun h_37 => ?_)
            · skip
              have eo : up o2 q (o1 i) = ins o1 q i := by rw [hsh]; rfl
              have hins := ins_same o1 x (y - x) (q := q) (i := i) (by omega) (by omega) (by omega)
              have hsrt : Srt (fun t => ge (40 * f + t)) (ins o1 q i) x (i + 1) := ins_srt (hr1 (by omega)) (by omega) (by omega) hgt (Or.inl (by omega))
              have hbd : ∀ j, x ≤ j → j < y → ins o1 q i j < 40 := fun j h1 h2 => by obtain ⟨z, z1, z2, z3⟩ := hins.mem h1 (show j < x + (y - x) by omega); rw [← z3]; exact ho1 z z1 (by omega)
              refine lv_aload_n (pc := 81) hx hb dX7_sort_81 rfl (lv_at hl 0 rfl) ?_
              refine va_get (D := g.1) (ci := 7) (v := .ref (a 21)) (C := RX7) (T := TX7) (N := 11) (index := 24) (pc := 82) hx hb hts inX7 hown hK hP 0 rfl rfl 4 (by decide) (hts _ wd_1_111) (fun _ h9 => h9) rfl dX7_sort_82 ?_
              refine lv_iload (pc := 85) hx hb dX7_sort_85 (lv_at hl 8 rfl) ?_
              refine lv_iload (pc := 87) hx hb dX7_sort_87 (lv_at hl 6 rfl) ?_
              refine w_iast (f := nF o2) (f' := nF (up o2 q (o1 i))) (k := q) (ws' := [(a 16, .inr (7, [.ref (a 17), .ref (a 18), .ref (a 19), .ref (a 20), .ref (a 21), .ref (a 22), .ref (a 23), .int (nI bf), .int bn, .long (lN bt), .long (lN bb)])), (a 21, .inl (gI g, 40, .inl (nF (up o2 q (o1 i))))), (a 8, .inr (4, [.ref (a 9), .ref (a 10), .ref (a 11), .int (nI n), .ref (a 12), .ref (a 13), .int (nI tn)])), (a 13, .inl (gI g, 160, .inl ge))]) (pc := 89) hx hb hK hP hD hS 1 rfl (by omega) (by first | decide | assumption) (nF_up _ _ _) rfl dX7_sort_89 (fun H locs hP hD hS => ?_)
              rw [eo] at hP hD
              refine lv_iinc (v := nI (i + 1)) (lv' := [(5, .int (nI (i + 1))), (0, .ref (a 16)), (1, .ref (a 8)), (2, .int (nI f)), (3, .int (nI x)), (4, .int (nI y)), (6, .int (nI (o1 i))), (7, .int (ge (40 * f + (o1 i)))), (8, .int (nI q))]) (pc := 90) hx hb dX7_sort_90 hl (k := 5) rfl (inc_n i 1) (by decide) rfl (fun ls hl => ?_)
              refine lv_goto (tgt := 5) (pc := 93) hx hb dX7_sort_93 (by decide) ?_
              exact ih5 (i + 1) (ins o1 q i) (by omega) (hs1.trans hins) (fun _ => hsrt) hbd (by have := hm5; omega) _ _ _ hP hD hS (lv_sub hl [1, 2, 3, 4, 5, 0] rfl)
            · skip
              have hoq : o2 (q - 1) < 40 := by rw [ov h_37]; exact ho1 _ (by omega) (by omega)
              refine lv_aload_n (pc := 40) hx hb dX7_sort_40 rfl (lv_at hl 1 rfl) ?_
              refine lv_aload_n (pc := 41) hx hb dX7_sort_41 rfl (lv_at hl 0 rfl) ?_
              refine va_get (D := g.1) (ci := 7) (v := .ref (a 21)) (C := RX7) (T := TX7) (N := 11) (index := 24) (pc := 42) hx hb hts inX7 hown hK hP 0 rfl rfl 4 (by decide) (hts _ wd_1_111) (fun _ h9 => h9) rfl dX7_sort_42 ?_
              refine lv_iload (pc := 45) hx hb dX7_sort_45 (lv_at hl 8 rfl) ?_
              refine lv_iconst (v := (1 : Int32)) (pc := 47) hx hb dX7_sort_47 (by decide) ?_
              refine w_isub (z := nI (q - 1)) (pc := 48) hx hb dX7_sort_48 (pk_sub (a := q) (b := 1) (by omega)) ?_
              refine w_iald (f := nF o2) (k := q - 1) (z := nI (o2 (q - 1))) (pc := 49) hx hb hK hP 1 rfl (by omega) (by first | decide | assumption) (rfl) dX7_sort_49 ?_
              refine lv_iload_n (pc := 50) hx hb dX7_sort_50 rfl (lv_at hl 2 rfl) ?_
              refine call_i (wr := [(a 16, .inr (7, [.ref (a 17), .ref (a 18), .ref (a 19), .ref (a 20), .ref (a 21), .ref (a 22), .ref (a 23), .int (nI bf), .int bn, .long (lN bt), .long (lN bb)])), (a 21, .inl (gI g, 40, .inl (nF o2)))]) (pc := 51) (run_V (wc := [(a 8, .inr (4, [.ref (a 9), .ref (a 10), .ref (a 11), .int (nI n), .ref (a 12), .ref (a 13), .int (nI tn)])), (a 13, .inl (gI g, 160, .inl ge))]) (As := [.int (nI (o2 (q - 1))), .int (nI f)]) (rest := []) (pc := 51) hx hb hml hown hts hA hK hX (Nat.le_trans (by decide) hRf) (Nat.le_trans (by decide) hRl) hP hD hS (c_X4_featureOf l g (a := a) (n := n) (tn := tn) (ge := ge) (t := o2 (q - 1)) (f := f) (by first | assumption | omega) (by first | assumption | omega)) wd_2_207 wd_2_208 wd_2_209 wd_1_5 wd_2_210 hdX4_featureOf [2, 3] rfl rfl 0 rfl rfl rfl hl.1 rfl (Nat.le_of_ble_eq_true rfl) dX7_sort_51 ⟨Nat.zero_le _, Nat.zero_le _⟩) hA hP hD hS [2, 3] [0, 1] rfl rfl rfl (by decide) (fun r w1 H locs hq_51 hP hD hS => ?_)
              obtain ⟨rfl, rfl⟩ := hq_51
              have hP : va_P g.1 classes [(a 16, .inr (7, [.ref (a 17), .ref (a 18), .ref (a 19), .ref (a 20), .ref (a 21), .ref (a 22), .ref (a 23), .int (nI bf), .int bn, .long (lN bt), .long (lN bb)])), (a 21, .inl (gI g, 40, .inl (nF o2))), (a 8, .inr (4, [.ref (a 9), .ref (a 10), .ref (a 11), .int (nI n), .ref (a 12), .ref (a 13), .int (nI tn)])), (a 13, .inl (gI g, 160, .inl ge))] H := hP
              have hD : va_D A [(a 16, .inr (7, [.ref (a 17), .ref (a 18), .ref (a 19), .ref (a 20), .ref (a 21), .ref (a 22), .ref (a 23), .int (nI bf), .int bn, .long (lN bt), .long (lN bb)])), (a 21, .inl (gI g, 40, .inl (nF o2))), (a 8, .inr (4, [.ref (a 9), .ref (a 10), .ref (a 11), .int (nI n), .ref (a 12), .ref (a 13), .int (nI tn)])), (a 13, .inl (gI g, 160, .inl ge))] := hD
              refine lv_iload (pc := 54) hx hb dX7_sort_54 (lv_at hl 7 rfl) ?_
              refine lv_icmp_le (tgt := 81) (pc := 56) hx hb dX7_sort_56 (by decide) (fun h_56 => ?_) (fun h_56 => ?_)
              · skip
                have eo : up o2 q (o1 i) = ins o1 q i := by rw [hsh]; rfl
                have hins := ins_same o1 x (y - x) (q := q) (i := i) (by omega) (by omega) (by omega)
                have hsrt : Srt (fun t => ge (40 * f + t)) (ins o1 q i) x (i + 1) := ins_srt (hr1 (by omega)) (by omega) (by omega) hgt (Or.inr (by show ge (40 * f + o1 (q - 1)) ≤ ge (40 * f + o1 i); rw [← ov h_37]; exact h_56))
                have hbd : ∀ j, x ≤ j → j < y → ins o1 q i j < 40 := fun j h1 h2 => by obtain ⟨z, z1, z2, z3⟩ := hins.mem h1 (show j < x + (y - x) by omega); rw [← z3]; exact ho1 z z1 (by omega)
                refine lv_aload_n (pc := 81) hx hb dX7_sort_81 rfl (lv_at hl 0 rfl) ?_
                refine va_get (D := g.1) (ci := 7) (v := .ref (a 21)) (C := RX7) (T := TX7) (N := 11) (index := 24) (pc := 82) hx hb hts inX7 hown hK hP 0 rfl rfl 4 (by decide) (hts _ wd_1_111) (fun _ h9 => h9) rfl dX7_sort_82 ?_
                refine lv_iload (pc := 85) hx hb dX7_sort_85 (lv_at hl 8 rfl) ?_
                refine lv_iload (pc := 87) hx hb dX7_sort_87 (lv_at hl 6 rfl) ?_
                refine w_iast (f := nF o2) (f' := nF (up o2 q (o1 i))) (k := q) (ws' := [(a 16, .inr (7, [.ref (a 17), .ref (a 18), .ref (a 19), .ref (a 20), .ref (a 21), .ref (a 22), .ref (a 23), .int (nI bf), .int bn, .long (lN bt), .long (lN bb)])), (a 21, .inl (gI g, 40, .inl (nF (up o2 q (o1 i))))), (a 8, .inr (4, [.ref (a 9), .ref (a 10), .ref (a 11), .int (nI n), .ref (a 12), .ref (a 13), .int (nI tn)])), (a 13, .inl (gI g, 160, .inl ge))]) (pc := 89) hx hb hK hP hD hS 1 rfl (by omega) (by first | decide | assumption) (nF_up _ _ _) rfl dX7_sort_89 (fun H locs hP hD hS => ?_)
                rw [eo] at hP hD
                refine lv_iinc (v := nI (i + 1)) (lv' := [(5, .int (nI (i + 1))), (0, .ref (a 16)), (1, .ref (a 8)), (2, .int (nI f)), (3, .int (nI x)), (4, .int (nI y)), (6, .int (nI (o1 i))), (7, .int (ge (40 * f + (o1 i)))), (8, .int (nI q))]) (pc := 90) hx hb dX7_sort_90 hl (k := 5) rfl (inc_n i 1) (by decide) rfl (fun ls hl => ?_)
                refine lv_goto (tgt := 5) (pc := 93) hx hb dX7_sort_93 (by decide) ?_
                exact ih5 (i + 1) (ins o1 q i) (by omega) (hs1.trans hins) (fun _ => hsrt) hbd (by have := hm5; omega) _ _ _ hP hD hS (lv_sub hl [1, 2, 3, 4, 5, 0] rfl)
              · skip
                refine lv_aload_n (pc := 59) hx hb dX7_sort_59 rfl (lv_at hl 0 rfl) ?_
                refine va_get (D := g.1) (ci := 7) (v := .ref (a 21)) (C := RX7) (T := TX7) (N := 11) (index := 24) (pc := 60) hx hb hts inX7 hown hK hP 0 rfl rfl 4 (by decide) (hts _ wd_1_111) (fun _ h9 => h9) rfl dX7_sort_60 ?_
                refine lv_iload (pc := 63) hx hb dX7_sort_63 (lv_at hl 8 rfl) ?_
                refine lv_aload_n (pc := 65) hx hb dX7_sort_65 rfl (lv_at hl 0 rfl) ?_
                refine va_get (D := g.1) (ci := 7) (v := .ref (a 21)) (C := RX7) (T := TX7) (N := 11) (index := 24) (pc := 66) hx hb hts inX7 hown hK hP 0 rfl rfl 4 (by decide) (hts _ wd_1_111) (fun _ h9 => h9) rfl dX7_sort_66 ?_
                refine lv_iload (pc := 69) hx hb dX7_sort_69 (lv_at hl 8 rfl) ?_
                refine lv_iconst (v := (1 : Int32)) (pc := 71) hx hb dX7_sort_71 (by decide) ?_
                refine w_isub (z := nI (q - 1)) (pc := 72) hx hb dX7_sort_72 (pk_sub (a := q) (b := 1) (by omega)) ?_
                refine w_iald (f := nF o2) (k := q - 1) (z := nI (o2 (q - 1))) (pc := 73) hx hb hK hP 1 rfl (by omega) (by first | decide | assumption) (rfl) dX7_sort_73 ?_
                refine w_iast (f := nF o2) (f' := nF (up o2 q (o2 (q - 1)))) (k := q) (ws' := [(a 16, .inr (7, [.ref (a 17), .ref (a 18), .ref (a 19), .ref (a 20), .ref (a 21), .ref (a 22), .ref (a 23), .int (nI bf), .int bn, .long (lN bt), .long (lN bb)])), (a 21, .inl (gI g, 40, .inl (nF (up o2 q (o2 (q - 1)))))), (a 8, .inr (4, [.ref (a 9), .ref (a 10), .ref (a 11), .int (nI n), .ref (a 12), .ref (a 13), .int (nI tn)])), (a 13, .inl (gI g, 160, .inl ge))]) (pc := 74) hx hb hK hP hD hS 1 rfl (by omega) (by first | decide | assumption) (nF_up _ _ _) rfl dX7_sort_74 (fun H locs hP hD hS => ?_)
                refine lv_iinc (v := nI (q - 1)) (lv' := [(8, .int (nI (q - 1))), (0, .ref (a 16)), (1, .ref (a 8)), (2, .int (nI f)), (3, .int (nI x)), (4, .int (nI y)), (5, .int (nI i)), (6, .int (nI (o1 i))), (7, .int (ge (40 * f + (o1 i))))]) (pc := 75) hx hb dX7_sort_75 hl (k := 8) rfl (dec_n (n := 1) (by omega)) (by decide) rfl (fun ls hl => ?_)
                refine lv_goto (tgt := 34) (pc := 78) hx hb dX7_sort_78 (by decide) ?_
                exact ih34 (q - 1) (up o2 q (o2 (q - 1))) (by omega) (by rw [hsh]; exact shf_s _ (by omega) (by omega)) (gt_step (V := fun t => ge (40 * f + t)) (o := o1) hgt (by show _ < ge (40 * f + o1 (q - 1)); rw [← ov h_37]; exact Int32.not_le.mp h_56)) (by have := hm34; omega) _ _ _ hP hD hS (lv_sub hl [1, 2, 3, 4, 5, 6, 7, 8, 0] rfl)
        exact L34 _ i o1 (by omega) (shf_0 _ _).symm (fun j h1 h2 => by omega) (Nat.lt_succ_self _) _ _ _ hP hD hS (lv_sub hl [3, 4, 5, 6, 7, 8, 2, 1, 0] rfl)
  exact L5 _ (x + 1) od (by omega) (SameSeg.refl _ _ _) (fun _ u v h1 h2 h3 => by rw [show u = v by omega]; exact Int32.le_refl _) ho (Nat.lt_succ_self _) _ _ _ hP hD hS (lv_sub hl [1, 2, 3, 4, 5, 0] rfl)

set_option maxHeartbeats 4000000 in
set_option maxRecDepth 100000 in
theorem c_X7_keepBetter (l : Launch) (g : Gx) (a : Nat → Nat) (bf bt bb : Nat) (bn : Int32) (f : Nat) (x : Int32) (tp bo : Nat) (h1 : tp * bb < 2 ^ 63) (h2 : bt * bo < 2 ^ 63) : Mv l g yX7_keepBetter cX7_keepBetter 7 (none) { frames := 0, cells := 0, slots := 0, locals := 0 } [.ref (a 16), .int (nI f), .int x, .long (lN tp), .long (lN bo)] [(a 16, .inr (7, [.ref (a 17), .ref (a 18), .ref (a 19), .ref (a 20), .ref (a 21), .ref (a 22), .ref (a 23), .int (nI bf), .int bn, .long (lN bt), .long (lN bb)]))] (fun wv_ => (wv_ = [(a 16, .inr (7, [.ref (a 17), .ref (a 18), .ref (a 19), .ref (a 20), .ref (a 21), .ref (a 22), .ref (a 23), .int (nI (if bt * bo < tp * bb then f else bf)), .int (if bt * bo < tp * bb then x else bn), .long (lN (if bt * bo < tp * bb then tp else bt)), .long (lN (if bt * bo < tp * bb then bo else bb))]))])) 0 0 := by
  refine Mv.opn (own := RX7) (lv := [(0, .ref (a 16)), (1, .int (nI f)), (2, .int x), (3, .long (lN tp)), (5, .long (lN bo))]) (plainFor_of_name (by decide)) rfl rfl (Nat.le_of_ble_eq_true rfl) ?_
  intro p e R s m args below meth c A Q hx hb hml hown hts hA hK hX hRf hRl hRet H locs ls hP hD hS hl
  refine lv_lload_n (pc := 0) hx hb dX7_keepBetter_0 rfl (lv_at hl 3 rfl) ?_
  refine lv_aload_n (pc := 1) hx hb dX7_keepBetter_1 rfl (lv_at hl 0 rfl) ?_
  refine va_get (D := g.1) (ci := 7) (v := .long (lN bb)) (C := RX7) (T := TX7) (N := 11) (index := 44) (pc := 2) hx hb hts inX7 hown hK hP 0 rfl rfl 10 (by decide) (hts _ wd_1_117) (fun _ h9 => h9) rfl dX7_keepBetter_2 ?_
  refine w_lmul (z := lN (tp * bb)) (pc := 5) hx hb dX7_keepBetter_5 (lN_mul tp bb) ?_
  refine lv_aload_n (pc := 6) hx hb dX7_keepBetter_6 rfl (lv_at hl 0 rfl) ?_
  refine va_get (D := g.1) (ci := 7) (v := .long (lN bt)) (C := RX7) (T := TX7) (N := 11) (index := 40) (pc := 7) hx hb hts inX7 hown hK hP 0 rfl rfl 9 (by decide) (hts _ wd_1_116) (fun _ h9 => h9) rfl dX7_keepBetter_7 ?_
  refine lv_lload (pc := 10) hx hb dX7_keepBetter_10 (lv_at hl 4 rfl) ?_
  refine w_lmul (z := lN (bt * bo)) (pc := 12) hx hb dX7_keepBetter_12 (lN_mul bt bo) ?_
  refine n_lcmp_le (tgt := 38) (pc := 13) hx hb (tp * bb) (bt * bo) h1 h2 dX7_keepBetter_13 dX7_keepBetter_14 (by decide) (fun h_13 => ?_) (fun h_13 => ?_)
  · skip
    exact hRet _ _ _ _ _ hP hD hS dX7_keepBetter_38 (by simp only [if_neg (Nat.not_lt.mpr h_13)])
  · skip
    refine lv_aload_n (pc := 17) hx hb dX7_keepBetter_17 rfl (lv_at hl 0 rfl) ?_
    refine lv_iload_n (pc := 18) hx hb dX7_keepBetter_18 rfl (lv_at hl 1 rfl) ?_
    refine w_put (ci := 7) (v := .int (nI f)) (ty := .int) (C := RX7) (T := TX7) (N := 11) (index := 33) (ws' := [(a 16, .inr (7, [.ref (a 17), .ref (a 18), .ref (a 19), .ref (a 20), .ref (a 21), .ref (a 22), .ref (a 23), .int (nI f), .int bn, .long (lN bt), .long (lN bb)]))]) (pc := 19) hx hb hts inX7 tyX7 tyX7_ok nmX7 hown hK hP hD hS 0 rfl rfl 7 (by decide) (hts _ wd_1_114) (fun _ h9 => h9) rfl (by decide +kernel) rfl rfl (Nat.le_of_ble_eq_true rfl) rfl dX7_keepBetter_19 (fun H locs hP hD hS => ?_)
    refine lv_aload_n (pc := 22) hx hb dX7_keepBetter_22 rfl (lv_at hl 0 rfl) ?_
    refine lv_iload_n (pc := 23) hx hb dX7_keepBetter_23 rfl (lv_at hl 2 rfl) ?_
    refine w_put (ci := 7) (v := .int x) (ty := .int) (C := RX7) (T := TX7) (N := 11) (index := 37) (ws' := [(a 16, .inr (7, [.ref (a 17), .ref (a 18), .ref (a 19), .ref (a 20), .ref (a 21), .ref (a 22), .ref (a 23), .int (nI f), .int x, .long (lN bt), .long (lN bb)]))]) (pc := 24) hx hb hts inX7 tyX7 tyX7_ok nmX7 hown hK hP hD hS 0 rfl rfl 8 (by decide) (hts _ wd_1_115) (fun _ h9 => h9) rfl (by decide +kernel) rfl rfl (Nat.le_of_ble_eq_true rfl) rfl dX7_keepBetter_24 (fun H locs hP hD hS => ?_)
    refine lv_aload_n (pc := 27) hx hb dX7_keepBetter_27 rfl (lv_at hl 0 rfl) ?_
    refine lv_lload_n (pc := 28) hx hb dX7_keepBetter_28 rfl (lv_at hl 3 rfl) ?_
    refine w_put (ci := 7) (v := .long (lN tp)) (ty := .long) (C := RX7) (T := TX7) (N := 11) (index := 40) (ws' := [(a 16, .inr (7, [.ref (a 17), .ref (a 18), .ref (a 19), .ref (a 20), .ref (a 21), .ref (a 22), .ref (a 23), .int (nI f), .int x, .long (lN tp), .long (lN bb)]))]) (pc := 29) hx hb hts inX7 tyX7 tyX7_ok nmX7 hown hK hP hD hS 0 rfl rfl 9 (by decide) (hts _ wd_1_116) (fun _ h9 => h9) rfl (by decide +kernel) rfl rfl (Nat.le_of_ble_eq_true rfl) rfl dX7_keepBetter_29 (fun H locs hP hD hS => ?_)
    refine lv_aload_n (pc := 32) hx hb dX7_keepBetter_32 rfl (lv_at hl 0 rfl) ?_
    refine lv_lload (pc := 33) hx hb dX7_keepBetter_33 (lv_at hl 4 rfl) ?_
    refine w_put (ci := 7) (v := .long (lN bo)) (ty := .long) (C := RX7) (T := TX7) (N := 11) (index := 44) (ws' := [(a 16, .inr (7, [.ref (a 17), .ref (a 18), .ref (a 19), .ref (a 20), .ref (a 21), .ref (a 22), .ref (a 23), .int (nI f), .int x, .long (lN tp), .long (lN bo)]))]) (pc := 35) hx hb hts inX7 tyX7 tyX7_ok nmX7 hown hK hP hD hS 0 rfl rfl 10 (by decide) (hts _ wd_1_117) (fun _ h9 => h9) rfl (by decide +kernel) rfl rfl (Nat.le_of_ble_eq_true rfl) rfl dX7_keepBetter_35 (fun H locs hP hD hS => ?_)
    exact hRet _ _ _ _ _ hP hD hS dX7_keepBetter_38 (by simp only [if_pos h_13])

set_option maxHeartbeats 4000000 in
set_option maxRecDepth 100000 in
theorem c_X7_sweep (l : Launch) (g : Gx) (a : Nat → Nat) (od fi se : Nat → Nat) (bf bt bb : Nat) (bn : Int32) (n tn : Nat) (kc : Nat → Nat) (ge : Nat → Int32) (f x y T : Nat) (P : Nat → Bool) (hf : f < 4) (hxy : x ≤ y) (hy : y ≤ 40) (hT : T ≤ 40) (hKc : ∀ s, s < T → kc s < 4) (hS0 : SegEq od x (y - x) T P) (hsr : Srt (fun t => ge (40 * f + t)) od x y) (hf0 : ∀ k, k < 4 → fi k = 0) (hs0 : ∀ k, k < 4 → se k = crn (fun j => kc (od j) == k) x (y - x)) (hB : BI T kc (fun t f => ge (40 * f + t)) P (fun f' _ => f' < f) bf bn bt bb) (hbt : bt ≤ 128000) (hbb : bb ≤ 1600) : Mv l g yX7_sweep cX7_sweep 18 (none) { frames := 1, cells := 0, slots := 0, locals := 26 } [.ref (a 16), .ref (a 8), .int (nI f), .int (nI x), .int (nI y)] [(a 16, .inr (7, [.ref (a 17), .ref (a 18), .ref (a 19), .ref (a 20), .ref (a 21), .ref (a 22), .ref (a 23), .int (nI bf), .int bn, .long (lN bt), .long (lN bb)])), (a 21, .inl (gI g, 40, .inl (nF od))), (a 22, .inl (gI g, 4, .inl (nF fi))), (a 23, .inl (gI g, 4, .inl (nF se))), (a 8, .inr (4, [.ref (a 9), .ref (a 10), .ref (a 11), .int (nI n), .ref (a 12), .ref (a 13), .int (nI tn)])), (a 12, .inl (gI g, 40, .inl (nF kc))), (a 13, .inl (gI g, 160, .inl ge))] (fun wv_ => ∃ bf2 : Nat, ∃ bn2 : Int32, ∃ bt2 : Nat, ∃ bb2 : Nat, ∃ fi2 : Nat → Nat, ∃ se2 : Nat → Nat, wv_ = [(a 16, .inr (7, [.ref (a 17), .ref (a 18), .ref (a 19), .ref (a 20), .ref (a 21), .ref (a 22), .ref (a 23), .int (nI bf2), .int bn2, .long (lN bt2), .long (lN bb2)])), (a 21, .inl (gI g, 40, .inl (nF od))), (a 22, .inl (gI g, 4, .inl (nF fi2))), (a 23, .inl (gI g, 4, .inl (nF se2))), (a 8, .inr (4, [.ref (a 9), .ref (a 10), .ref (a 11), .int (nI n), .ref (a 12), .ref (a 13), .int (nI tn)])), (a 12, .inl (gI g, 40, .inl (nF kc))), (a 13, .inl (gI g, 160, .inl ge))] ∧ BI T kc (fun t f => ge (40 * f + t)) P (fun f' _ => f' < f + 1) bf2 bn2 bt2 bb2 ∧ bt2 ≤ 128000 ∧ bb2 ≤ 1600) 0 0 := by
  refine Mv.opn (own := RX7) (lv := [(0, .ref (a 16)), (1, .ref (a 8)), (2, .int (nI f)), (3, .int (nI x)), (4, .int (nI y))]) (plainFor_of_name (by decide)) rfl rfl (Nat.le_of_ble_eq_true rfl) ?_
  intro p e R s m args below meth c A Q hx hb hml hown hts hA hK hX hRf hRl hRet H locs ls hP hD hS hl
  have hmem : ∀ j, x ≤ j → j < y → od j < T ∧ P (od j) = true := fun j h1 h2 => hS0.mem h1 (by omega)
  have hse : ∀ k, k < 4 → se k ≤ 40 := fun k hk => by have := crn_le (fun j => kc (od j) == k) x (y - x); rw [hs0 k hk]; omega
  refine lv_lconst (v := (0 : Int64)) (pc := 0) hx hb dX7_sweep_0 (by decide) ?_
  refine lv_lstore (lv' := [(5, .long (0 : Int64)), (0, .ref (a 16)), (1, .ref (a 8)), (2, .int (nI f)), (3, .int (nI x)), (4, .int (nI y))]) (pc := 1) hx hb dX7_sweep_1 hl (by decide) rfl (fun ls hl => ?_)
  refine lv_lconst (v := (0 : Int64)) (pc := 3) hx hb dX7_sweep_3 (by decide) ?_
  refine lv_lstore (lv' := [(7, .long (0 : Int64)), (5, .long (0 : Int64)), (0, .ref (a 16)), (1, .ref (a 8)), (2, .int (nI f)), (3, .int (nI x)), (4, .int (nI y))]) (pc := 4) hx hb dX7_sweep_4 hl (by decide) rfl (fun ls hl => ?_)
  refine lv_iconst (v := (0 : Int32)) (pc := 6) hx hb dX7_sweep_6 (by decide) ?_
  refine lv_istore (lv' := [(9, .int (0 : Int32)), (7, .long (0 : Int64)), (5, .long (0 : Int64)), (0, .ref (a 16)), (1, .ref (a 8)), (2, .int (nI f)), (3, .int (nI x)), (4, .int (nI y))]) (pc := 7) hx hb dX7_sweep_7 hl (by decide) rfl (fun ls hl => ?_)
  have L9 : ∀ (nn : Nat) (k : Nat) (q : Nat) (hk4 : k ≤ 4) (hq : q = sqp se k), 4 - k < nn → ∀ (H : Heap) (locs : List Loc) (ls : Array Slot), va_P g.1 classes [(a 16, .inr (7, [.ref (a 17), .ref (a 18), .ref (a 19), .ref (a 20), .ref (a 21), .ref (a 22), .ref (a 23), .int (nI bf), .int bn, .long (lN bt), .long (lN bb)])), (a 21, .inl (gI g, 40, .inl (nF od))), (a 22, .inl (gI g, 4, .inl (nF fi))), (a 23, .inl (gI g, 4, .inl (nF se))), (a 8, .inr (4, [.ref (a 9), .ref (a 10), .ref (a 11), .int (nI n), .ref (a 12), .ref (a 13), .int (nI tn)])), (a 12, .inl (gI g, 40, .inl (nF kc))), (a 13, .inl (gI g, 160, .inl ge))] H → va_D A [(a 16, .inr (7, [.ref (a 17), .ref (a 18), .ref (a 19), .ref (a 20), .ref (a 21), .ref (a 22), .ref (a 23), .int (nI bf), .int bn, .long (lN bt), .long (lN bb)])), (a 21, .inl (gI g, 40, .inl (nF od))), (a 22, .inl (gI g, 4, .inl (nF fi))), (a 23, .inl (gI g, 4, .inl (nF se))), (a 8, .inr (4, [.ref (a 9), .ref (a 10), .ref (a 11), .int (nI n), .ref (a 12), .ref (a 13), .int (nI tn)])), (a 12, .inl (gI g, 40, .inl (nF kc))), (a 13, .inl (gI g, 160, .inl ge))] → va_S A s.heap H locs → lv_has ls 18 [(0, .ref (a 16)), (1, .ref (a 8)), (2, .int (nI f)), (3, .int (nI x)), (4, .int (nI y)), (5, .long (0 : Int64)), (7, .long (lN q)), (9, .int (nI k))] → W p l e R s m args below meth c H locs 0 0 Q (F0 m 9 ls []) := by
    intro nn
    induction nn with
    | zero => exact fun k q hk4 hq hm => absurd hm (Nat.not_lt_zero _)
    | succ nn ih9 =>
      intro k q hk4 hq hm9 H locs ls hP hD hS hl
      refine lv_iload (pc := 9) hx hb dX7_sweep_9 (lv_at hl 7 rfl) ?_
      refine lv_iconst (v := (4 : Int32)) (pc := 11) hx hb dX7_sweep_11 (by decide) ?_
      refine n_icmp_ge (tgt := 42) (pc := 12) hx hb k 4 (by omega) (by omega) dX7_sweep_12 (by decide) (fun h_12 => ?_) (fun h_12 => ?_)
      · skip
        refine lv_iload_n (pc := 42) hx hb dX7_sweep_42 rfl (lv_at hl 3 rfl) ?_
        refine lv_istore (lv' := [(9, .int (nI x)), (0, .ref (a 16)), (1, .ref (a 8)), (2, .int (nI f)), (3, .int (nI x)), (4, .int (nI y)), (5, .long (0 : Int64)), (7, .long (lN q))]) (pc := 43) hx hb dX7_sweep_43 hl (by decide) rfl (fun ls hl => ?_)
        have L45 : ∀ (nn : Nat) (i : Nat) (fs : Nat) (ss : Nat) (f1 : Nat → Nat) (s1 : Nat → Nat) (bf1 : Nat) (bn1 : Int32) (bt1 : Nat) (bb1 : Nat) (hi0 : x ≤ i ∧ (i < y ∨ i = x)) (hf1 : ∀ k, k < 4 → f1 k = crn (fun j => kc (od j) == k) x (i - x)) (hs1 : ∀ k, k < 4 → s1 k = crn (fun j => kc (od j) == k) i (y - i)) (hfs : fs = sq4 f1) (hss : ss = sq4 s1) (hB1 : BI T kc (fun t f => ge (40 * f + t)) P (Vis (fun t f => ge (40 * f + t)) od f i) bf1 bn1 bt1 bb1) (hbt1 : bt1 ≤ 128000) (hbb1 : bb1 ≤ 1600), y - i < nn → ∀ (H : Heap) (locs : List Loc) (ls : Array Slot), va_P g.1 classes [(a 16, .inr (7, [.ref (a 17), .ref (a 18), .ref (a 19), .ref (a 20), .ref (a 21), .ref (a 22), .ref (a 23), .int (nI bf1), .int bn1, .long (lN bt1), .long (lN bb1)])), (a 21, .inl (gI g, 40, .inl (nF od))), (a 22, .inl (gI g, 4, .inl (nF f1))), (a 23, .inl (gI g, 4, .inl (nF s1))), (a 8, .inr (4, [.ref (a 9), .ref (a 10), .ref (a 11), .int (nI n), .ref (a 12), .ref (a 13), .int (nI tn)])), (a 12, .inl (gI g, 40, .inl (nF kc))), (a 13, .inl (gI g, 160, .inl ge))] H → va_D A [(a 16, .inr (7, [.ref (a 17), .ref (a 18), .ref (a 19), .ref (a 20), .ref (a 21), .ref (a 22), .ref (a 23), .int (nI bf1), .int bn1, .long (lN bt1), .long (lN bb1)])), (a 21, .inl (gI g, 40, .inl (nF od))), (a 22, .inl (gI g, 4, .inl (nF f1))), (a 23, .inl (gI g, 4, .inl (nF s1))), (a 8, .inr (4, [.ref (a 9), .ref (a 10), .ref (a 11), .int (nI n), .ref (a 12), .ref (a 13), .int (nI tn)])), (a 12, .inl (gI g, 40, .inl (nF kc))), (a 13, .inl (gI g, 160, .inl ge))] → va_S A s.heap H locs → lv_has ls 18 [(0, .ref (a 16)), (1, .ref (a 8)), (2, .int (nI f)), (3, .int (nI x)), (4, .int (nI y)), (5, .long (lN fs)), (7, .long (lN ss)), (9, .int (nI i))] → W p l e R s m args below meth c H locs 0 0 Q (F0 m 45 ls []) := by
          intro nn
          induction nn with
          | zero => exact fun i fs ss f1 s1 bf1 bn1 bt1 bb1 hi0 hf1 hs1 hfs hss hB1 hbt1 hbb1 hm => absurd hm (Nat.not_lt_zero _)
          | succ nn ih45 =>
            intro i fs ss f1 s1 bf1 bn1 bt1 bb1 hi0 hf1 hs1 hfs hss hB1 hbt1 hbb1 hm45 H locs ls hP hD hS hl
            refine lv_iload (pc := 45) hx hb dX7_sweep_45 (lv_at hl 7 rfl) ?_
            refine lv_iconst (v := (1 : Int32)) (pc := 47) hx hb dX7_sweep_47 (by decide) ?_
            refine w_iadd (z := nI (i + 1)) (pc := 48) hx hb dX7_sweep_48 (nI_add i 1) ?_
            refine lv_iload (pc := 49) hx hb dX7_sweep_49 (lv_at hl 4 rfl) ?_
            refine n_icmp_ge (tgt := 208) (pc := 51) hx hb (i + 1) y (by omega) (by omega) dX7_sweep_51 (by decide) (fun h_51 => ?_) (fun h_51 => ?_)
            · skip
              exact hRet _ _ _ _ _ hP hD hS dX7_sweep_208 ⟨_, _, _, _, f1, s1, rfl, (BI_mono hB1 (fun f3 t3 h3 hv => vis_fin hKc hS0 hsr hi0.1 (by omega) hi0.2 hv h3) (fun f3 t3 h3 _ => vis_lt h3)), hbt1, hbb1⟩
            · skip
              have hm := hmem i (by omega) (by omega)
              have hm2 := hmem (i + 1) (by omega) (by omega)
              have hk4 : kc (od i) < 4 := hKc _ hm.1
              have es1 := hs1 (kc (od i)) hk4
              have hpos : 0 < s1 (kc (od i)) := by rw [es1]; exact fb_ct_pos.mpr ⟨0, by omega, by simp⟩
              have hle1 : ∀ k, k < 4 → f1 k ≤ 40 := fun k hk => by have := crn_le (fun j => kc (od j) == k) x (i - x); rw [hf1 k hk]; omega
              have hle2 : ∀ k, k < 4 → s1 k ≤ 40 := fun k hk => by have := crn_le (fun j => kc (od j) == k) i (y - i); rw [hs1 k hk]; omega
              have hle3 := hle1 _ hk4
              have hle4 := hle2 _ hk4
              have hsd := sq4_dec hk4 hpos
              have hf1n : ∀ k, k < 4 → up f1 (kc (od i)) (f1 (kc (od i)) + 1) k = crn (fun j => kc (od j) == k) x (i + 1 - x) := cnt_up hi0.1 hf1
              have hs1n : ∀ k, k < 4 → up s1 (kc (od i)) (s1 (kc (od i)) - 1) k = crn (fun j => kc (od j) == k) (i + 1) (y - (i + 1)) := cnt_dn (by omega) hs1
              refine lv_aload_n (pc := 54) hx hb dX7_sweep_54 rfl (lv_at hl 1 rfl) ?_
              refine lv_aload_n (pc := 55) hx hb dX7_sweep_55 rfl (lv_at hl 0 rfl) ?_
              refine va_get (D := g.1) (ci := 7) (v := .ref (a 21)) (C := RX7) (T := TX7) (N := 11) (index := 24) (pc := 56) hx hb hts inX7 hown hK hP 0 rfl rfl 4 (by decide) (hts _ wd_1_111) (fun _ h9 => h9) rfl dX7_sweep_56 ?_
              refine lv_iload (pc := 59) hx hb dX7_sweep_59 (lv_at hl 7 rfl) ?_
              refine w_iald (f := nF od) (k := i) (z := nI (od i)) (pc := 61) hx hb hK hP 1 rfl (by omega) (by first | decide | assumption) (rfl) dX7_sweep_61 ?_
              refine call_i (wr := [(a 16, .inr (7, [.ref (a 17), .ref (a 18), .ref (a 19), .ref (a 20), .ref (a 21), .ref (a 22), .ref (a 23), .int (nI bf1), .int bn1, .long (lN bt1), .long (lN bb1)])), (a 21, .inl (gI g, 40, .inl (nF od))), (a 22, .inl (gI g, 4, .inl (nF f1))), (a 23, .inl (gI g, 4, .inl (nF s1))), (a 13, .inl (gI g, 160, .inl ge))]) (pc := 62) (run_V (wc := [(a 8, .inr (4, [.ref (a 9), .ref (a 10), .ref (a 11), .int (nI n), .ref (a 12), .ref (a 13), .int (nI tn)])), (a 12, .inl (gI g, 40, .inl (nF kc)))]) (As := [.int (nI (od i))]) (rest := []) (pc := 62) hx hb hml hown hts hA hK hX (Nat.le_trans (by decide) hRf) (Nat.le_trans (by decide) hRl) hP hD hS (c_X4_classOf l g (a := a) (n := n) (tn := tn) (kc := kc) (t := od i) (by omega)) wd_2_195 wd_2_196 wd_2_197 wd_1_5 wd_2_198 hdX4_classOf [4, 5] rfl rfl 0 rfl rfl rfl hl.1 rfl (Nat.le_of_ble_eq_true rfl) dX7_sweep_62 ⟨Nat.zero_le _, Nat.zero_le _⟩) hA hP hD hS [4, 5] [0, 1, 2, 3, 6] rfl rfl rfl (by decide) (fun r w1 H locs hq_62 hP hD hS => ?_)
              obtain ⟨rfl, rfl⟩ := hq_62
              have hP : va_P g.1 classes [(a 16, .inr (7, [.ref (a 17), .ref (a 18), .ref (a 19), .ref (a 20), .ref (a 21), .ref (a 22), .ref (a 23), .int (nI bf1), .int bn1, .long (lN bt1), .long (lN bb1)])), (a 21, .inl (gI g, 40, .inl (nF od))), (a 22, .inl (gI g, 4, .inl (nF f1))), (a 23, .inl (gI g, 4, .inl (nF s1))), (a 13, .inl (gI g, 160, .inl ge)), (a 8, .inr (4, [.ref (a 9), .ref (a 10), .ref (a 11), .int (nI n), .ref (a 12), .ref (a 13), .int (nI tn)])), (a 12, .inl (gI g, 40, .inl (nF kc)))] H := hP
              have hD : va_D A [(a 16, .inr (7, [.ref (a 17), .ref (a 18), .ref (a 19), .ref (a 20), .ref (a 21), .ref (a 22), .ref (a 23), .int (nI bf1), .int bn1, .long (lN bt1), .long (lN bb1)])), (a 21, .inl (gI g, 40, .inl (nF od))), (a 22, .inl (gI g, 4, .inl (nF f1))), (a 23, .inl (gI g, 4, .inl (nF s1))), (a 13, .inl (gI g, 160, .inl ge)), (a 8, .inr (4, [.ref (a 9), .ref (a 10), .ref (a 11), .int (nI n), .ref (a 12), .ref (a 13), .int (nI tn)])), (a 12, .inl (gI g, 40, .inl (nF kc)))] := hD
              refine lv_istore (lv' := [(10, .int (nI (kc (od i)))), (0, .ref (a 16)), (1, .ref (a 8)), (2, .int (nI f)), (3, .int (nI x)), (4, .int (nI y)), (5, .long (lN fs)), (7, .long (lN ss)), (9, .int (nI i))]) (pc := 65) hx hb dX7_sweep_65 hl (by decide) rfl (fun ls hl => ?_)
              refine lv_lload (pc := 67) hx hb dX7_sweep_67 (lv_at hl 6 rfl) ?_
              refine lv_iconst (v := (2 : Int32)) (pc := 69) hx hb dX7_sweep_69 (by decide) ?_
              refine lv_aload_n (pc := 70) hx hb dX7_sweep_70 rfl (lv_at hl 1 rfl) ?_
              refine va_get (D := g.1) (ci := 7) (v := .ref (a 22)) (C := RX7) (T := TX7) (N := 11) (index := 27) (pc := 71) hx hb hts inX7 hown hK hP 0 rfl rfl 5 (by decide) (hts _ wd_1_112) (fun _ h9 => h9) rfl dX7_sweep_71 ?_
              refine lv_iload (pc := 74) hx hb dX7_sweep_74 (lv_at hl 0 rfl) ?_
              refine w_iald (f := nF f1) (k := kc (od i)) (z := nI (f1 (kc (od i)))) (pc := 76) hx hb hK hP 2 rfl (by omega) (by first | decide | assumption) (rfl) dX7_sweep_76 ?_
              refine w_imul (z := nI (2 * (f1 (kc (od i))))) (pc := 77) hx hb dX7_sweep_77 (pk_mul 2 (f1 (kc (od i)))) ?_
              refine lv_iconst (v := (1 : Int32)) (pc := 78) hx hb dX7_sweep_78 (by decide) ?_
              refine w_iadd (z := nI ((2 * (f1 (kc (od i)))) + 1)) (pc := 79) hx hb dX7_sweep_79 (nI_add (2 * (f1 (kc (od i)))) 1) ?_
              refine lv_i2l (v := lN ((2 * (f1 (kc (od i)))) + 1)) (pc := 80) hx hb dX7_sweep_80 (nI_l (by omega)) ?_
              refine w_ladd (z := lN (fs + ((2 * (f1 (kc (od i)))) + 1))) (pc := 81) hx hb dX7_sweep_81 (lN_add fs ((2 * (f1 (kc (od i)))) + 1)) ?_
              refine lv_lstore (lv' := [(5, .long (lN (fs + ((2 * (f1 (kc (od i)))) + 1)))), (10, .int (nI (kc (od i)))), (0, .ref (a 16)), (1, .ref (a 8)), (2, .int (nI f)), (3, .int (nI x)), (4, .int (nI y)), (7, .long (lN ss)), (9, .int (nI i))]) (pc := 82) hx hb dX7_sweep_82 hl (by decide) rfl (fun ls hl => ?_)
              refine lv_lload (pc := 84) hx hb dX7_sweep_84 (lv_at hl 7 rfl) ?_
              refine lv_iconst (v := (2 : Int32)) (pc := 86) hx hb dX7_sweep_86 (by decide) ?_
              refine lv_aload_n (pc := 87) hx hb dX7_sweep_87 rfl (lv_at hl 2 rfl) ?_
              refine va_get (D := g.1) (ci := 7) (v := .ref (a 23)) (C := RX7) (T := TX7) (N := 11) (index := 30) (pc := 88) hx hb hts inX7 hown hK hP 0 rfl rfl 6 (by decide) (hts _ wd_1_113) (fun _ h9 => h9) rfl dX7_sweep_88 ?_
              refine lv_iload (pc := 91) hx hb dX7_sweep_91 (lv_at hl 1 rfl) ?_
              refine w_iald (f := nF s1) (k := kc (od i)) (z := nI (s1 (kc (od i)))) (pc := 93) hx hb hK hP 3 rfl (by omega) (by first | decide | assumption) (rfl) dX7_sweep_93 ?_
              refine w_imul (z := nI (2 * (s1 (kc (od i))))) (pc := 94) hx hb dX7_sweep_94 (pk_mul 2 (s1 (kc (od i)))) ?_
              refine lv_iconst (v := (1 : Int32)) (pc := 95) hx hb dX7_sweep_95 (by decide) ?_
              refine w_isub (z := nI ((2 * (s1 (kc (od i)))) - 1)) (pc := 96) hx hb dX7_sweep_96 (pk_sub (a := 2 * (s1 (kc (od i)))) (b := 1) (by omega)) ?_
              refine lv_i2l (v := lN ((2 * (s1 (kc (od i)))) - 1)) (pc := 97) hx hb dX7_sweep_97 (nI_l (by omega)) ?_
              refine w_lsub (z := lN (ss - ((2 * (s1 (kc (od i)))) - 1))) (pc := 98) hx hb dX7_sweep_98 (lN_sub (by omega)) ?_
              refine lv_lstore (lv' := [(7, .long (lN (ss - ((2 * (s1 (kc (od i)))) - 1)))), (5, .long (lN (fs + ((2 * (f1 (kc (od i)))) + 1)))), (10, .int (nI (kc (od i)))), (0, .ref (a 16)), (1, .ref (a 8)), (2, .int (nI f)), (3, .int (nI x)), (4, .int (nI y)), (9, .int (nI i))]) (pc := 99) hx hb dX7_sweep_99 hl (by decide) rfl (fun ls hl => ?_)
              refine lv_aload_n (pc := 101) hx hb dX7_sweep_101 rfl (lv_at hl 3 rfl) ?_
              refine va_get (D := g.1) (ci := 7) (v := .ref (a 22)) (C := RX7) (T := TX7) (N := 11) (index := 27) (pc := 102) hx hb hts inX7 hown hK hP 0 rfl rfl 5 (by decide) (hts _ wd_1_112) (fun _ h9 => h9) rfl dX7_sweep_102 ?_
              refine lv_iload (pc := 105) hx hb dX7_sweep_105 (lv_at hl 2 rfl) ?_
              refine lv_dup2_11 (pc := 107) hx hb dX7_sweep_107 rfl rfl ?_
              refine w_iald (f := nF f1) (k := kc (od i)) (z := nI (f1 (kc (od i)))) (pc := 108) hx hb hK hP 2 rfl (by omega) (by first | decide | assumption) (rfl) dX7_sweep_108 ?_
              refine lv_iconst (v := (1 : Int32)) (pc := 109) hx hb dX7_sweep_109 (by decide) ?_
              refine w_iadd (z := nI ((f1 (kc (od i))) + 1)) (pc := 110) hx hb dX7_sweep_110 (nI_add (f1 (kc (od i))) 1) ?_
              refine w_iast (f := nF f1) (f' := nF (up f1 (kc (od i)) ((f1 (kc (od i))) + 1))) (k := kc (od i)) (ws' := [(a 16, .inr (7, [.ref (a 17), .ref (a 18), .ref (a 19), .ref (a 20), .ref (a 21), .ref (a 22), .ref (a 23), .int (nI bf1), .int bn1, .long (lN bt1), .long (lN bb1)])), (a 21, .inl (gI g, 40, .inl (nF od))), (a 22, .inl (gI g, 4, .inl (nF (up f1 (kc (od i)) ((f1 (kc (od i))) + 1))))), (a 23, .inl (gI g, 4, .inl (nF s1))), (a 13, .inl (gI g, 160, .inl ge)), (a 8, .inr (4, [.ref (a 9), .ref (a 10), .ref (a 11), .int (nI n), .ref (a 12), .ref (a 13), .int (nI tn)])), (a 12, .inl (gI g, 40, .inl (nF kc)))]) (pc := 111) hx hb hK hP hD hS 2 rfl (by omega) (by first | decide | assumption) (nF_up _ _ _) rfl dX7_sweep_111 (fun H locs hP hD hS => ?_)
              refine lv_aload_n (pc := 112) hx hb dX7_sweep_112 rfl (lv_at hl 3 rfl) ?_
              refine va_get (D := g.1) (ci := 7) (v := .ref (a 23)) (C := RX7) (T := TX7) (N := 11) (index := 30) (pc := 113) hx hb hts inX7 hown hK hP 0 rfl rfl 6 (by decide) (hts _ wd_1_113) (fun _ h9 => h9) rfl dX7_sweep_113 ?_
              refine lv_iload (pc := 116) hx hb dX7_sweep_116 (lv_at hl 2 rfl) ?_
              refine lv_dup2_11 (pc := 118) hx hb dX7_sweep_118 rfl rfl ?_
              refine w_iald (f := nF s1) (k := kc (od i)) (z := nI (s1 (kc (od i)))) (pc := 119) hx hb hK hP 3 rfl (by omega) (by first | decide | assumption) (rfl) dX7_sweep_119 ?_
              refine lv_iconst (v := (1 : Int32)) (pc := 120) hx hb dX7_sweep_120 (by decide) ?_
              refine w_isub (z := nI ((s1 (kc (od i))) - 1)) (pc := 121) hx hb dX7_sweep_121 (pk_sub (a := s1 (kc (od i))) (b := 1) (by omega)) ?_
              refine w_iast (f := nF s1) (f' := nF (up s1 (kc (od i)) ((s1 (kc (od i))) - 1))) (k := kc (od i)) (ws' := [(a 16, .inr (7, [.ref (a 17), .ref (a 18), .ref (a 19), .ref (a 20), .ref (a 21), .ref (a 22), .ref (a 23), .int (nI bf1), .int bn1, .long (lN bt1), .long (lN bb1)])), (a 21, .inl (gI g, 40, .inl (nF od))), (a 22, .inl (gI g, 4, .inl (nF (up f1 (kc (od i)) ((f1 (kc (od i))) + 1))))), (a 23, .inl (gI g, 4, .inl (nF (up s1 (kc (od i)) ((s1 (kc (od i))) - 1))))), (a 13, .inl (gI g, 160, .inl ge)), (a 8, .inr (4, [.ref (a 9), .ref (a 10), .ref (a 11), .int (nI n), .ref (a 12), .ref (a 13), .int (nI tn)])), (a 12, .inl (gI g, 40, .inl (nF kc)))]) (pc := 122) hx hb hK hP hD hS 3 rfl (by omega) (by first | decide | assumption) (nF_up _ _ _) rfl dX7_sweep_122 (fun H locs hP hD hS => ?_)
              refine lv_aload_n (pc := 123) hx hb dX7_sweep_123 rfl (lv_at hl 4 rfl) ?_
              refine lv_aload_n (pc := 124) hx hb dX7_sweep_124 rfl (lv_at hl 3 rfl) ?_
              refine va_get (D := g.1) (ci := 7) (v := .ref (a 21)) (C := RX7) (T := TX7) (N := 11) (index := 24) (pc := 125) hx hb hts inX7 hown hK hP 0 rfl rfl 4 (by decide) (hts _ wd_1_111) (fun _ h9 => h9) rfl dX7_sweep_125 ?_
              refine lv_iload (pc := 128) hx hb dX7_sweep_128 (lv_at hl 8 rfl) ?_
              refine w_iald (f := nF od) (k := i) (z := nI (od i)) (pc := 130) hx hb hK hP 1 rfl (by omega) (by first | decide | assumption) (rfl) dX7_sweep_130 ?_
              refine lv_iload_n (pc := 131) hx hb dX7_sweep_131 rfl (lv_at hl 5 rfl) ?_
              refine call_i (wr := [(a 16, .inr (7, [.ref (a 17), .ref (a 18), .ref (a 19), .ref (a 20), .ref (a 21), .ref (a 22), .ref (a 23), .int (nI bf1), .int bn1, .long (lN bt1), .long (lN bb1)])), (a 21, .inl (gI g, 40, .inl (nF od))), (a 22, .inl (gI g, 4, .inl (nF (up f1 (kc (od i)) ((f1 (kc (od i))) + 1))))), (a 23, .inl (gI g, 4, .inl (nF (up s1 (kc (od i)) ((s1 (kc (od i))) - 1))))), (a 12, .inl (gI g, 40, .inl (nF kc)))]) (pc := 132) (run_V (wc := [(a 8, .inr (4, [.ref (a 9), .ref (a 10), .ref (a 11), .int (nI n), .ref (a 12), .ref (a 13), .int (nI tn)])), (a 13, .inl (gI g, 160, .inl ge))]) (As := [.int (nI (od i)), .int (nI f)]) (rest := []) (pc := 132) hx hb hml hown hts hA hK hX (Nat.le_trans (by decide) hRf) (Nat.le_trans (by decide) hRl) hP hD hS (c_X4_featureOf l g (a := a) (n := n) (tn := tn) (ge := ge) (t := od i) (f := f) (by omega) (by first | assumption | omega)) wd_2_207 wd_2_208 wd_2_209 wd_1_5 wd_2_210 hdX4_featureOf [5, 4] rfl rfl 0 rfl rfl rfl hl.1 rfl (Nat.le_of_ble_eq_true rfl) dX7_sweep_132 ⟨Nat.zero_le _, Nat.zero_le _⟩) hA hP hD hS [5, 4] [0, 1, 2, 3, 6] rfl rfl rfl (by decide) (fun r w1 H locs hq_132 hP hD hS => ?_)
              obtain ⟨rfl, rfl⟩ := hq_132
              have hP : va_P g.1 classes [(a 16, .inr (7, [.ref (a 17), .ref (a 18), .ref (a 19), .ref (a 20), .ref (a 21), .ref (a 22), .ref (a 23), .int (nI bf1), .int bn1, .long (lN bt1), .long (lN bb1)])), (a 21, .inl (gI g, 40, .inl (nF od))), (a 22, .inl (gI g, 4, .inl (nF (up f1 (kc (od i)) ((f1 (kc (od i))) + 1))))), (a 23, .inl (gI g, 4, .inl (nF (up s1 (kc (od i)) ((s1 (kc (od i))) - 1))))), (a 12, .inl (gI g, 40, .inl (nF kc))), (a 8, .inr (4, [.ref (a 9), .ref (a 10), .ref (a 11), .int (nI n), .ref (a 12), .ref (a 13), .int (nI tn)])), (a 13, .inl (gI g, 160, .inl ge))] H := hP
              have hD : va_D A [(a 16, .inr (7, [.ref (a 17), .ref (a 18), .ref (a 19), .ref (a 20), .ref (a 21), .ref (a 22), .ref (a 23), .int (nI bf1), .int bn1, .long (lN bt1), .long (lN bb1)])), (a 21, .inl (gI g, 40, .inl (nF od))), (a 22, .inl (gI g, 4, .inl (nF (up f1 (kc (od i)) ((f1 (kc (od i))) + 1))))), (a 23, .inl (gI g, 4, .inl (nF (up s1 (kc (od i)) ((s1 (kc (od i))) - 1))))), (a 12, .inl (gI g, 40, .inl (nF kc))), (a 8, .inr (4, [.ref (a 9), .ref (a 10), .ref (a 11), .int (nI n), .ref (a 12), .ref (a 13), .int (nI tn)])), (a 13, .inl (gI g, 160, .inl ge))] := hD
              refine lv_istore (lv' := [(11, .int (ge (40 * f + (od i)))), (7, .long (lN (ss - ((2 * (s1 (kc (od i)))) - 1)))), (5, .long (lN (fs + ((2 * (f1 (kc (od i)))) + 1)))), (10, .int (nI (kc (od i)))), (0, .ref (a 16)), (1, .ref (a 8)), (2, .int (nI f)), (3, .int (nI x)), (4, .int (nI y)), (9, .int (nI i))]) (pc := 135) hx hb dX7_sweep_135 hl (by decide) rfl (fun ls hl => ?_)
              refine lv_iload (pc := 137) hx hb dX7_sweep_137 (lv_at hl 0 rfl) ?_
              refine lv_aload_n (pc := 139) hx hb dX7_sweep_139 rfl (lv_at hl 5 rfl) ?_
              refine lv_aload_n (pc := 140) hx hb dX7_sweep_140 rfl (lv_at hl 4 rfl) ?_
              refine va_get (D := g.1) (ci := 7) (v := .ref (a 21)) (C := RX7) (T := TX7) (N := 11) (index := 24) (pc := 141) hx hb hts inX7 hown hK hP 0 rfl rfl 4 (by decide) (hts _ wd_1_111) (fun _ h9 => h9) rfl dX7_sweep_141 ?_
              refine lv_iload (pc := 144) hx hb dX7_sweep_144 (lv_at hl 9 rfl) ?_
              refine lv_iconst (v := (1 : Int32)) (pc := 146) hx hb dX7_sweep_146 (by decide) ?_
              refine w_iadd (z := nI (i + 1)) (pc := 147) hx hb dX7_sweep_147 (nI_add i 1) ?_
              refine w_iald (f := nF od) (k := i + 1) (z := nI (od (i + 1))) (pc := 148) hx hb hK hP 1 rfl (by omega) (by first | decide | assumption) (rfl) dX7_sweep_148 ?_
              refine lv_iload_n (pc := 149) hx hb dX7_sweep_149 rfl (lv_at hl 6 rfl) ?_
              refine call_i (wr := [(a 16, .inr (7, [.ref (a 17), .ref (a 18), .ref (a 19), .ref (a 20), .ref (a 21), .ref (a 22), .ref (a 23), .int (nI bf1), .int bn1, .long (lN bt1), .long (lN bb1)])), (a 21, .inl (gI g, 40, .inl (nF od))), (a 22, .inl (gI g, 4, .inl (nF (up f1 (kc (od i)) ((f1 (kc (od i))) + 1))))), (a 23, .inl (gI g, 4, .inl (nF (up s1 (kc (od i)) ((s1 (kc (od i))) - 1))))), (a 12, .inl (gI g, 40, .inl (nF kc)))]) (pc := 150) (run_V (wc := [(a 8, .inr (4, [.ref (a 9), .ref (a 10), .ref (a 11), .int (nI n), .ref (a 12), .ref (a 13), .int (nI tn)])), (a 13, .inl (gI g, 160, .inl ge))]) (As := [.int (nI (od (i + 1))), .int (nI f)]) (rest := [.int (ge (40 * f + (od i)))]) (pc := 150) hx hb hml hown hts hA hK hX (Nat.le_trans (by decide) hRf) (Nat.le_trans (by decide) hRl) hP hD hS (c_X4_featureOf l g (a := a) (n := n) (tn := tn) (ge := ge) (t := od (i + 1)) (f := f) (by omega) (by first | assumption | omega)) wd_2_207 wd_2_208 wd_2_209 wd_1_5 wd_2_210 hdX4_featureOf [5, 6] rfl rfl 0 rfl rfl rfl hl.1 rfl (Nat.le_of_ble_eq_true rfl) dX7_sweep_150 ⟨Nat.zero_le _, Nat.zero_le _⟩) hA hP hD hS [5, 6] [0, 1, 2, 3, 4] rfl rfl rfl (by decide) (fun r w1 H locs hq_150 hP hD hS => ?_)
              obtain ⟨rfl, rfl⟩ := hq_150
              have hP : va_P g.1 classes [(a 16, .inr (7, [.ref (a 17), .ref (a 18), .ref (a 19), .ref (a 20), .ref (a 21), .ref (a 22), .ref (a 23), .int (nI bf1), .int bn1, .long (lN bt1), .long (lN bb1)])), (a 21, .inl (gI g, 40, .inl (nF od))), (a 22, .inl (gI g, 4, .inl (nF (up f1 (kc (od i)) ((f1 (kc (od i))) + 1))))), (a 23, .inl (gI g, 4, .inl (nF (up s1 (kc (od i)) ((s1 (kc (od i))) - 1))))), (a 12, .inl (gI g, 40, .inl (nF kc))), (a 8, .inr (4, [.ref (a 9), .ref (a 10), .ref (a 11), .int (nI n), .ref (a 12), .ref (a 13), .int (nI tn)])), (a 13, .inl (gI g, 160, .inl ge))] H := hP
              have hD : va_D A [(a 16, .inr (7, [.ref (a 17), .ref (a 18), .ref (a 19), .ref (a 20), .ref (a 21), .ref (a 22), .ref (a 23), .int (nI bf1), .int bn1, .long (lN bt1), .long (lN bb1)])), (a 21, .inl (gI g, 40, .inl (nF od))), (a 22, .inl (gI g, 4, .inl (nF (up f1 (kc (od i)) ((f1 (kc (od i))) + 1))))), (a 23, .inl (gI g, 4, .inl (nF (up s1 (kc (od i)) ((s1 (kc (od i))) - 1))))), (a 12, .inl (gI g, 40, .inl (nF kc))), (a 8, .inr (4, [.ref (a 9), .ref (a 10), .ref (a 11), .int (nI n), .ref (a 12), .ref (a 13), .int (nI tn)])), (a 13, .inl (gI g, 160, .inl ge))] := hD
              refine lv_icmp_ge (tgt := 202) (pc := 153) hx hb dX7_sweep_153 (by decide) (fun h_153 => ?_) (fun h_153 => ?_)
              · skip
                refine lv_iinc (v := nI (i + 1)) (lv' := [(9, .int (nI (i + 1))), (11, .int (ge (40 * f + (od i)))), (7, .long (lN (ss - ((2 * (s1 (kc (od i)))) - 1)))), (5, .long (lN (fs + ((2 * (f1 (kc (od i)))) + 1)))), (10, .int (nI (kc (od i)))), (0, .ref (a 16)), (1, .ref (a 8)), (2, .int (nI f)), (3, .int (nI x)), (4, .int (nI y))]) (pc := 202) hx hb dX7_sweep_202 hl (k := 9) rfl (inc_n i 1) (by decide) rfl (fun ls hl => ?_)
                refine lv_goto (tgt := 45) (pc := 205) hx hb dX7_sweep_205 (by decide) ?_
                have hP : va_P g.1 classes [(a 16, .inr (7, [.ref (a 17), .ref (a 18), .ref (a 19), .ref (a 20), .ref (a 21), .ref (a 22), .ref (a 23), .int (nI bf1), .int bn1, .long (lN bt1), .long (lN bb1)])), (a 21, .inl (gI g, 40, .inl (nF od))), (a 22, .inl (gI g, 4, .inl (nF (up f1 (kc (od i)) ((f1 (kc (od i))) + 1))))), (a 23, .inl (gI g, 4, .inl (nF (up s1 (kc (od i)) ((s1 (kc (od i))) - 1))))), (a 8, .inr (4, [.ref (a 9), .ref (a 10), .ref (a 11), .int (nI n), .ref (a 12), .ref (a 13), .int (nI tn)])), (a 12, .inl (gI g, 40, .inl (nF kc))), (a 13, .inl (gI g, 160, .inl ge))] H := hP.sub [0, 1, 2, 3, 5, 4, 6] rfl
                have hD : va_D A [(a 16, .inr (7, [.ref (a 17), .ref (a 18), .ref (a 19), .ref (a 20), .ref (a 21), .ref (a 22), .ref (a 23), .int (nI bf1), .int bn1, .long (lN bt1), .long (lN bb1)])), (a 21, .inl (gI g, 40, .inl (nF od))), (a 22, .inl (gI g, 4, .inl (nF (up f1 (kc (od i)) ((f1 (kc (od i))) + 1))))), (a 23, .inl (gI g, 4, .inl (nF (up s1 (kc (od i)) ((s1 (kc (od i))) - 1))))), (a 8, .inr (4, [.ref (a 9), .ref (a 10), .ref (a 11), .int (nI n), .ref (a 12), .ref (a 13), .int (nI tn)])), (a 12, .inl (gI g, 40, .inl (nF kc))), (a 13, .inl (gI g, 160, .inl ge))] := hD.sub [0, 1, 2, 3, 5, 4, 6] rfl rfl
                exact ih45 (i + 1) (fs + ((2 * (f1 (kc (od i)))) + 1)) (ss - ((2 * (s1 (kc (od i)))) - 1)) (up f1 (kc (od i)) ((f1 (kc (od i))) + 1)) (up s1 (kc (od i)) ((s1 (kc (od i))) - 1)) bf1 bn1 bt1 bb1 (by omega) hf1n hs1n (by rw [sq4_inc hk4, hfs]) (by have := sq4_dec hk4 hpos; omega) (BI_mono hB1 (fun f3 t3 h3 hv => vis_same (h_153) h3) (fun f3 t3 h3 _ => vis_up hsr hi0.1 (by omega) h3)) hbt1 hbb1 (by have := hm45; omega) _ _ _ hP hD hS (lv_sub hl [5, 6, 7, 8, 9, 3, 2, 0] rfl)
              · skip
                have hlt : ge (40 * f + od i) < ge (40 * f + od (i + 1)) := Int32.not_le.mp h_153
                have hv := swp_vld (F := fun t f => ge (40 * f + t)) hKc hf hS0 hsr hi0.1 (by omega) hlt
                have hov := swp_ovr (F := fun t f => ge (40 * f + t)) hKc hS0 hsr hi0.1 (show i + 1 < y by omega) hlt hf1n hs1n
                have hfs2 : fs + (2 * f1 (kc (od i)) + 1) = sq4 (up f1 (kc (od i)) (f1 (kc (od i)) + 1)) := by rw [sq4_inc hk4, hfs]
                have hss2 : ss - (2 * s1 (kc (od i)) - 1) = sq4 (up s1 (kc (od i)) (s1 (kc (od i)) - 1)) := by omega
                have etp : (fs + (2 * f1 (kc (od i)) + 1)) * (y - i - 1) + (ss - (2 * s1 (kc (od i)) - 1)) * (i + 1 - x) = ovr T kc (fun t f => ge (40 * f + t)) P f (ge (40 * f + od i)) := by rw [hfs2, hss2]; exact hov.1
                have ebo : (i + 1 - x) * (y - i - 1) = und T kc (fun t f => ge (40 * f + t)) P f (ge (40 * f + od i)) := hov.2
                have htp := ovr_le (F := fun t f => ge (40 * f + t)) (P := P) (f := f) (t := ge (40 * f + od i)) hKc hT
                have hbo := und_le (F := fun t f => ge (40 * f + t)) (P := P) (f := f) (t := ge (40 * f + od i)) hKc hT
                have hBn := BI_next hKc hB1 hv (V' := Vis (fun t f => ge (40 * f + t)) od f (i + 1)) (Or.inr ⟨rfl, hlt⟩) (fun f3 t3 h3 => vis_up hsr hi0.1 (by omega) h3) (fun f3 t3 h3 hv3 => vis_new hS0 hsr hi0.1 (by omega) h3 hv3) (fun z => z.elim Or.inl (fun z => Or.inr ⟨z.1, Int32.le_of_lt z.2⟩))
                rw [← etp, ← ebo] at hBn
                have hm1 := Nat.mul_le_mul htp hbb1
                have hm3 := Nat.mul_le_mul hbt1 hbo
                rw [← etp] at htp
                rw [← ebo] at hbo
                rw [← etp] at hm1
                rw [← ebo] at hm3
                refine lv_iload (pc := 156) hx hb dX7_sweep_156 (lv_at hl 9 rfl) ?_
                refine lv_iconst (v := (1 : Int32)) (pc := 158) hx hb dX7_sweep_158 (by decide) ?_
                refine w_iadd (z := nI (i + 1)) (pc := 159) hx hb dX7_sweep_159 (nI_add i 1) ?_
                refine lv_iload_n (pc := 160) hx hb dX7_sweep_160 rfl (lv_at hl 7 rfl) ?_
                refine w_isub (z := nI ((i + 1) - x)) (pc := 161) hx hb dX7_sweep_161 (pk_sub (a := i + 1) (b := x) (by omega)) ?_
                refine lv_i2l (v := lN ((i + 1) - x)) (pc := 162) hx hb dX7_sweep_162 (nI_l (by omega)) ?_
                refine lv_lstore (lv' := [(12, .long (lN ((i + 1) - x))), (11, .int (ge (40 * f + (od i)))), (7, .long (lN (ss - ((2 * (s1 (kc (od i)))) - 1)))), (5, .long (lN (fs + ((2 * (f1 (kc (od i)))) + 1)))), (10, .int (nI (kc (od i)))), (0, .ref (a 16)), (1, .ref (a 8)), (2, .int (nI f)), (3, .int (nI x)), (4, .int (nI y)), (9, .int (nI i))]) (pc := 163) hx hb dX7_sweep_163 hl (by decide) rfl (fun ls hl => ?_)
                refine lv_iload (pc := 165) hx hb dX7_sweep_165 (lv_at hl 9 rfl) ?_
                refine lv_iload (pc := 167) hx hb dX7_sweep_167 (lv_at hl 10 rfl) ?_
                refine w_isub (z := nI (y - i)) (pc := 169) hx hb dX7_sweep_169 (pk_sub (a := y) (b := i) (by omega)) ?_
                refine lv_iconst (v := (1 : Int32)) (pc := 170) hx hb dX7_sweep_170 (by decide) ?_
                refine w_isub (z := nI ((y - i) - 1)) (pc := 171) hx hb dX7_sweep_171 (pk_sub (a := y - i) (b := 1) (by omega)) ?_
                refine lv_i2l (v := lN ((y - i) - 1)) (pc := 172) hx hb dX7_sweep_172 (nI_l (by omega)) ?_
                refine lv_lstore (lv' := [(14, .long (lN ((y - i) - 1))), (12, .long (lN ((i + 1) - x))), (11, .int (ge (40 * f + (od i)))), (7, .long (lN (ss - ((2 * (s1 (kc (od i)))) - 1)))), (5, .long (lN (fs + ((2 * (f1 (kc (od i)))) + 1)))), (10, .int (nI (kc (od i)))), (0, .ref (a 16)), (1, .ref (a 8)), (2, .int (nI f)), (3, .int (nI x)), (4, .int (nI y)), (9, .int (nI i))]) (pc := 173) hx hb dX7_sweep_173 hl (by decide) rfl (fun ls hl => ?_)
                refine lv_lload (pc := 175) hx hb dX7_sweep_175 (lv_at hl 4 rfl) ?_
                refine lv_lload (pc := 177) hx hb dX7_sweep_177 (lv_at hl 0 rfl) ?_
                refine w_lmul (z := lN ((fs + ((2 * (f1 (kc (od i)))) + 1)) * ((y - i) - 1))) (pc := 179) hx hb dX7_sweep_179 (lN_mul (fs + ((2 * (f1 (kc (od i)))) + 1)) ((y - i) - 1)) ?_
                refine lv_lload (pc := 180) hx hb dX7_sweep_180 (lv_at hl 3 rfl) ?_
                refine lv_lload (pc := 182) hx hb dX7_sweep_182 (lv_at hl 1 rfl) ?_
                refine w_lmul (z := lN ((ss - ((2 * (s1 (kc (od i)))) - 1)) * ((i + 1) - x))) (pc := 184) hx hb dX7_sweep_184 (lN_mul (ss - ((2 * (s1 (kc (od i)))) - 1)) ((i + 1) - x)) ?_
                refine w_ladd (z := lN (((fs + ((2 * (f1 (kc (od i)))) + 1)) * ((y - i) - 1)) + ((ss - ((2 * (s1 (kc (od i)))) - 1)) * ((i + 1) - x)))) (pc := 185) hx hb dX7_sweep_185 (lN_add ((fs + ((2 * (f1 (kc (od i)))) + 1)) * ((y - i) - 1)) ((ss - ((2 * (s1 (kc (od i)))) - 1)) * ((i + 1) - x))) ?_
                refine lv_lstore (lv' := [(16, .long (lN (((fs + ((2 * (f1 (kc (od i)))) + 1)) * ((y - i) - 1)) + ((ss - ((2 * (s1 (kc (od i)))) - 1)) * ((i + 1) - x))))), (14, .long (lN ((y - i) - 1))), (12, .long (lN ((i + 1) - x))), (11, .int (ge (40 * f + (od i)))), (7, .long (lN (ss - ((2 * (s1 (kc (od i)))) - 1)))), (5, .long (lN (fs + ((2 * (f1 (kc (od i)))) + 1)))), (10, .int (nI (kc (od i)))), (0, .ref (a 16)), (1, .ref (a 8)), (2, .int (nI f)), (3, .int (nI x)), (4, .int (nI y)), (9, .int (nI i))]) (pc := 186) hx hb dX7_sweep_186 hl (by decide) rfl (fun ls hl => ?_)
                refine lv_aload_n (pc := 188) hx hb dX7_sweep_188 rfl (lv_at hl 7 rfl) ?_
                refine lv_iload_n (pc := 189) hx hb dX7_sweep_189 rfl (lv_at hl 9 rfl) ?_
                refine lv_iload (pc := 190) hx hb dX7_sweep_190 (lv_at hl 3 rfl) ?_
                refine lv_lload (pc := 192) hx hb dX7_sweep_192 (lv_at hl 0 rfl) ?_
                refine lv_lload (pc := 194) hx hb dX7_sweep_194 (lv_at hl 2 rfl) ?_
                refine lv_lload (pc := 196) hx hb dX7_sweep_196 (lv_at hl 1 rfl) ?_
                refine w_lmul (z := lN (((i + 1) - x) * ((y - i) - 1))) (pc := 198) hx hb dX7_sweep_198 (lN_mul ((i + 1) - x) ((y - i) - 1)) ?_
                refine call_v (wr := [(a 21, .inl (gI g, 40, .inl (nF od))), (a 22, .inl (gI g, 4, .inl (nF (up f1 (kc (od i)) ((f1 (kc (od i))) + 1))))), (a 23, .inl (gI g, 4, .inl (nF (up s1 (kc (od i)) ((s1 (kc (od i))) - 1))))), (a 12, .inl (gI g, 40, .inl (nF kc))), (a 8, .inr (4, [.ref (a 9), .ref (a 10), .ref (a 11), .int (nI n), .ref (a 12), .ref (a 13), .int (nI tn)])), (a 13, .inl (gI g, 160, .inl ge))]) (pc := 199) (run_V (wc := [(a 16, .inr (7, [.ref (a 17), .ref (a 18), .ref (a 19), .ref (a 20), .ref (a 21), .ref (a 22), .ref (a 23), .int (nI bf1), .int bn1, .long (lN bt1), .long (lN bb1)]))]) (As := [.int (nI f), .int (ge (40 * f + (od i))), .long (lN (((fs + ((2 * (f1 (kc (od i)))) + 1)) * ((y - i) - 1)) + ((ss - ((2 * (s1 (kc (od i)))) - 1)) * ((i + 1) - x)))), .long (lN (((i + 1) - x) * ((y - i) - 1)))]) (rest := []) (pc := 199) hx hb hml hown hts hA hK hX (Nat.le_trans (by decide) hRf) (Nat.le_trans (by decide) hRl) hP hD hS (c_X7_keepBetter l g (a := a) (bf := bf1) (bt := bt1) (bb := bb1) (bn := bn1) (f := f) (x := ge (40 * f + (od i))) (tp := ((fs + ((2 * (f1 (kc (od i)))) + 1)) * ((y - i) - 1)) + ((ss - ((2 * (s1 (kc (od i)))) - 1)) * ((i + 1) - x))) (bo := ((i + 1) - x) * ((y - i) - 1)) (by omega) (by omega)) wd_2_215 wd_2_217 wd_0_8 wd_1_7 wd_2_218 hdX7_keepBetter [0] rfl rfl 0 rfl rfl rfl hl.1 rfl (Nat.le_of_ble_eq_true rfl) dX7_sweep_199 ⟨Nat.zero_le _, Nat.zero_le _⟩) hA hP hD hS [0] [1, 2, 3, 4, 5, 6] rfl rfl rfl (by decide) (fun w1 H locs hq_199 hP hD hS => ?_)
                obtain rfl := hq_199
                have hP : va_P g.1 classes [(a 21, .inl (gI g, 40, .inl (nF od))), (a 22, .inl (gI g, 4, .inl (nF (up f1 (kc (od i)) ((f1 (kc (od i))) + 1))))), (a 23, .inl (gI g, 4, .inl (nF (up s1 (kc (od i)) ((s1 (kc (od i))) - 1))))), (a 12, .inl (gI g, 40, .inl (nF kc))), (a 8, .inr (4, [.ref (a 9), .ref (a 10), .ref (a 11), .int (nI n), .ref (a 12), .ref (a 13), .int (nI tn)])), (a 13, .inl (gI g, 160, .inl ge)), (a 16, .inr (7, [.ref (a 17), .ref (a 18), .ref (a 19), .ref (a 20), .ref (a 21), .ref (a 22), .ref (a 23), .int (nI (if bt1 * (((i + 1) - x) * ((y - i) - 1)) < (((fs + ((2 * (f1 (kc (od i)))) + 1)) * ((y - i) - 1)) + ((ss - ((2 * (s1 (kc (od i)))) - 1)) * ((i + 1) - x))) * bb1 then f else bf1)), .int (if bt1 * (((i + 1) - x) * ((y - i) - 1)) < (((fs + ((2 * (f1 (kc (od i)))) + 1)) * ((y - i) - 1)) + ((ss - ((2 * (s1 (kc (od i)))) - 1)) * ((i + 1) - x))) * bb1 then (ge (40 * f + (od i))) else bn1), .long (lN (if bt1 * (((i + 1) - x) * ((y - i) - 1)) < (((fs + ((2 * (f1 (kc (od i)))) + 1)) * ((y - i) - 1)) + ((ss - ((2 * (s1 (kc (od i)))) - 1)) * ((i + 1) - x))) * bb1 then (((fs + ((2 * (f1 (kc (od i)))) + 1)) * ((y - i) - 1)) + ((ss - ((2 * (s1 (kc (od i)))) - 1)) * ((i + 1) - x))) else bt1)), .long (lN (if bt1 * (((i + 1) - x) * ((y - i) - 1)) < (((fs + ((2 * (f1 (kc (od i)))) + 1)) * ((y - i) - 1)) + ((ss - ((2 * (s1 (kc (od i)))) - 1)) * ((i + 1) - x))) * bb1 then (((i + 1) - x) * ((y - i) - 1)) else bb1))]))] H := hP
                have hD : va_D A [(a 21, .inl (gI g, 40, .inl (nF od))), (a 22, .inl (gI g, 4, .inl (nF (up f1 (kc (od i)) ((f1 (kc (od i))) + 1))))), (a 23, .inl (gI g, 4, .inl (nF (up s1 (kc (od i)) ((s1 (kc (od i))) - 1))))), (a 12, .inl (gI g, 40, .inl (nF kc))), (a 8, .inr (4, [.ref (a 9), .ref (a 10), .ref (a 11), .int (nI n), .ref (a 12), .ref (a 13), .int (nI tn)])), (a 13, .inl (gI g, 160, .inl ge)), (a 16, .inr (7, [.ref (a 17), .ref (a 18), .ref (a 19), .ref (a 20), .ref (a 21), .ref (a 22), .ref (a 23), .int (nI (if bt1 * (((i + 1) - x) * ((y - i) - 1)) < (((fs + ((2 * (f1 (kc (od i)))) + 1)) * ((y - i) - 1)) + ((ss - ((2 * (s1 (kc (od i)))) - 1)) * ((i + 1) - x))) * bb1 then f else bf1)), .int (if bt1 * (((i + 1) - x) * ((y - i) - 1)) < (((fs + ((2 * (f1 (kc (od i)))) + 1)) * ((y - i) - 1)) + ((ss - ((2 * (s1 (kc (od i)))) - 1)) * ((i + 1) - x))) * bb1 then (ge (40 * f + (od i))) else bn1), .long (lN (if bt1 * (((i + 1) - x) * ((y - i) - 1)) < (((fs + ((2 * (f1 (kc (od i)))) + 1)) * ((y - i) - 1)) + ((ss - ((2 * (s1 (kc (od i)))) - 1)) * ((i + 1) - x))) * bb1 then (((fs + ((2 * (f1 (kc (od i)))) + 1)) * ((y - i) - 1)) + ((ss - ((2 * (s1 (kc (od i)))) - 1)) * ((i + 1) - x))) else bt1)), .long (lN (if bt1 * (((i + 1) - x) * ((y - i) - 1)) < (((fs + ((2 * (f1 (kc (od i)))) + 1)) * ((y - i) - 1)) + ((ss - ((2 * (s1 (kc (od i)))) - 1)) * ((i + 1) - x))) * bb1 then (((i + 1) - x) * ((y - i) - 1)) else bb1))]))] := hD
                refine lv_iinc (v := nI (i + 1)) (lv' := [(9, .int (nI (i + 1))), (16, .long (lN (((fs + ((2 * (f1 (kc (od i)))) + 1)) * ((y - i) - 1)) + ((ss - ((2 * (s1 (kc (od i)))) - 1)) * ((i + 1) - x))))), (14, .long (lN ((y - i) - 1))), (12, .long (lN ((i + 1) - x))), (11, .int (ge (40 * f + (od i)))), (7, .long (lN (ss - ((2 * (s1 (kc (od i)))) - 1)))), (5, .long (lN (fs + ((2 * (f1 (kc (od i)))) + 1)))), (10, .int (nI (kc (od i)))), (0, .ref (a 16)), (1, .ref (a 8)), (2, .int (nI f)), (3, .int (nI x)), (4, .int (nI y))]) (pc := 202) hx hb dX7_sweep_202 hl (k := 12) rfl (inc_n i 1) (by decide) rfl (fun ls hl => ?_)
                refine lv_goto (tgt := 45) (pc := 205) hx hb dX7_sweep_205 (by decide) ?_
                have hP : va_P g.1 classes [(a 16, .inr (7, [.ref (a 17), .ref (a 18), .ref (a 19), .ref (a 20), .ref (a 21), .ref (a 22), .ref (a 23), .int (nI (if bt1 * (((i + 1) - x) * ((y - i) - 1)) < (((fs + ((2 * (f1 (kc (od i)))) + 1)) * ((y - i) - 1)) + ((ss - ((2 * (s1 (kc (od i)))) - 1)) * ((i + 1) - x))) * bb1 then f else bf1)), .int (if bt1 * (((i + 1) - x) * ((y - i) - 1)) < (((fs + ((2 * (f1 (kc (od i)))) + 1)) * ((y - i) - 1)) + ((ss - ((2 * (s1 (kc (od i)))) - 1)) * ((i + 1) - x))) * bb1 then (ge (40 * f + (od i))) else bn1), .long (lN (if bt1 * (((i + 1) - x) * ((y - i) - 1)) < (((fs + ((2 * (f1 (kc (od i)))) + 1)) * ((y - i) - 1)) + ((ss - ((2 * (s1 (kc (od i)))) - 1)) * ((i + 1) - x))) * bb1 then (((fs + ((2 * (f1 (kc (od i)))) + 1)) * ((y - i) - 1)) + ((ss - ((2 * (s1 (kc (od i)))) - 1)) * ((i + 1) - x))) else bt1)), .long (lN (if bt1 * (((i + 1) - x) * ((y - i) - 1)) < (((fs + ((2 * (f1 (kc (od i)))) + 1)) * ((y - i) - 1)) + ((ss - ((2 * (s1 (kc (od i)))) - 1)) * ((i + 1) - x))) * bb1 then (((i + 1) - x) * ((y - i) - 1)) else bb1))])), (a 21, .inl (gI g, 40, .inl (nF od))), (a 22, .inl (gI g, 4, .inl (nF (up f1 (kc (od i)) ((f1 (kc (od i))) + 1))))), (a 23, .inl (gI g, 4, .inl (nF (up s1 (kc (od i)) ((s1 (kc (od i))) - 1))))), (a 8, .inr (4, [.ref (a 9), .ref (a 10), .ref (a 11), .int (nI n), .ref (a 12), .ref (a 13), .int (nI tn)])), (a 12, .inl (gI g, 40, .inl (nF kc))), (a 13, .inl (gI g, 160, .inl ge))] H := hP.sub [6, 0, 1, 2, 4, 3, 5] rfl
                have hD : va_D A [(a 16, .inr (7, [.ref (a 17), .ref (a 18), .ref (a 19), .ref (a 20), .ref (a 21), .ref (a 22), .ref (a 23), .int (nI (if bt1 * (((i + 1) - x) * ((y - i) - 1)) < (((fs + ((2 * (f1 (kc (od i)))) + 1)) * ((y - i) - 1)) + ((ss - ((2 * (s1 (kc (od i)))) - 1)) * ((i + 1) - x))) * bb1 then f else bf1)), .int (if bt1 * (((i + 1) - x) * ((y - i) - 1)) < (((fs + ((2 * (f1 (kc (od i)))) + 1)) * ((y - i) - 1)) + ((ss - ((2 * (s1 (kc (od i)))) - 1)) * ((i + 1) - x))) * bb1 then (ge (40 * f + (od i))) else bn1), .long (lN (if bt1 * (((i + 1) - x) * ((y - i) - 1)) < (((fs + ((2 * (f1 (kc (od i)))) + 1)) * ((y - i) - 1)) + ((ss - ((2 * (s1 (kc (od i)))) - 1)) * ((i + 1) - x))) * bb1 then (((fs + ((2 * (f1 (kc (od i)))) + 1)) * ((y - i) - 1)) + ((ss - ((2 * (s1 (kc (od i)))) - 1)) * ((i + 1) - x))) else bt1)), .long (lN (if bt1 * (((i + 1) - x) * ((y - i) - 1)) < (((fs + ((2 * (f1 (kc (od i)))) + 1)) * ((y - i) - 1)) + ((ss - ((2 * (s1 (kc (od i)))) - 1)) * ((i + 1) - x))) * bb1 then (((i + 1) - x) * ((y - i) - 1)) else bb1))])), (a 21, .inl (gI g, 40, .inl (nF od))), (a 22, .inl (gI g, 4, .inl (nF (up f1 (kc (od i)) ((f1 (kc (od i))) + 1))))), (a 23, .inl (gI g, 4, .inl (nF (up s1 (kc (od i)) ((s1 (kc (od i))) - 1))))), (a 8, .inr (4, [.ref (a 9), .ref (a 10), .ref (a 11), .int (nI n), .ref (a 12), .ref (a 13), .int (nI tn)])), (a 12, .inl (gI g, 40, .inl (nF kc))), (a 13, .inl (gI g, 160, .inl ge))] := hD.sub [6, 0, 1, 2, 4, 3, 5] rfl rfl
                exact ih45 (i + 1) (fs + ((2 * (f1 (kc (od i)))) + 1)) (ss - ((2 * (s1 (kc (od i)))) - 1)) (up f1 (kc (od i)) ((f1 (kc (od i))) + 1)) (up s1 (kc (od i)) ((s1 (kc (od i))) - 1)) (if bt1 * (((i + 1) - x) * ((y - i) - 1)) < (((fs + ((2 * (f1 (kc (od i)))) + 1)) * ((y - i) - 1)) + ((ss - ((2 * (s1 (kc (od i)))) - 1)) * ((i + 1) - x))) * bb1 then f else bf1) (if bt1 * (((i + 1) - x) * ((y - i) - 1)) < (((fs + ((2 * (f1 (kc (od i)))) + 1)) * ((y - i) - 1)) + ((ss - ((2 * (s1 (kc (od i)))) - 1)) * ((i + 1) - x))) * bb1 then (ge (40 * f + (od i))) else bn1) (if bt1 * (((i + 1) - x) * ((y - i) - 1)) < (((fs + ((2 * (f1 (kc (od i)))) + 1)) * ((y - i) - 1)) + ((ss - ((2 * (s1 (kc (od i)))) - 1)) * ((i + 1) - x))) * bb1 then (((fs + ((2 * (f1 (kc (od i)))) + 1)) * ((y - i) - 1)) + ((ss - ((2 * (s1 (kc (od i)))) - 1)) * ((i + 1) - x))) else bt1) (if bt1 * (((i + 1) - x) * ((y - i) - 1)) < (((fs + ((2 * (f1 (kc (od i)))) + 1)) * ((y - i) - 1)) + ((ss - ((2 * (s1 (kc (od i)))) - 1)) * ((i + 1) - x))) * bb1 then (((i + 1) - x) * ((y - i) - 1)) else bb1) (by omega) hf1n hs1n (by rw [sq4_inc hk4, hfs]) (by have := sq4_dec hk4 hpos; omega) hBn (ite_le htp hbt1) (ite_le hbo hbb1) (by have := hm45; omega) _ _ _ hP hD hS (lv_sub hl [8, 9, 10, 11, 12, 6, 5, 0] rfl)
        exact L45 _ x 0 q fi se bf bn bt bb ⟨Nat.le_refl _, Or.inr rfl⟩ (fun k hk => by rw [hf0 k hk, Nat.sub_self]; rfl) hs0 (by unfold sq4; rw [hf0 0 (by decide), hf0 1 (by decide), hf0 2 (by decide), hf0 3 (by decide)]) (by rw [hq, show k = 4 by omega]; exact sqp_4 _) (BI_mono hB (fun f3 t3 h3 hv => vis_0 hKc hS0 hsr hv h3) (fun f3 t3 h3 _ => Or.inl h3)) hbt hbb (Nat.lt_succ_self _) _ _ _ hP hD hS (lv_sub hl [1, 2, 3, 4, 5, 6, 7, 0] rfl)
      · skip
        refine lv_lload (pc := 15) hx hb dX7_sweep_15 (lv_at hl 6 rfl) ?_
        refine lv_aload_n (pc := 17) hx hb dX7_sweep_17 rfl (lv_at hl 0 rfl) ?_
        refine va_get (D := g.1) (ci := 7) (v := .ref (a 23)) (C := RX7) (T := TX7) (N := 11) (index := 30) (pc := 18) hx hb hts inX7 hown hK hP 0 rfl rfl 6 (by decide) (hts _ wd_1_113) (fun _ h9 => h9) rfl dX7_sweep_18 ?_
        refine lv_iload (pc := 21) hx hb dX7_sweep_21 (lv_at hl 7 rfl) ?_
        refine w_iald (f := nF se) (k := k) (z := nI (se k)) (pc := 23) hx hb hK hP 3 rfl h_12 (by first | decide | assumption) (rfl) dX7_sweep_23 ?_
        refine lv_aload_n (pc := 24) hx hb dX7_sweep_24 rfl (lv_at hl 0 rfl) ?_
        refine va_get (D := g.1) (ci := 7) (v := .ref (a 23)) (C := RX7) (T := TX7) (N := 11) (index := 30) (pc := 25) hx hb hts inX7 hown hK hP 0 rfl rfl 6 (by decide) (hts _ wd_1_113) (fun _ h9 => h9) rfl dX7_sweep_25 ?_
        refine lv_iload (pc := 28) hx hb dX7_sweep_28 (lv_at hl 7 rfl) ?_
        refine w_iald (f := nF se) (k := k) (z := nI (se k)) (pc := 30) hx hb hK hP 3 rfl h_12 (by first | decide | assumption) (rfl) dX7_sweep_30 ?_
        refine w_imul (z := nI ((se k) * (se k))) (pc := 31) hx hb dX7_sweep_31 (pk_mul (se k) (se k)) ?_
        refine lv_i2l (v := lN ((se k) * (se k))) (pc := 32) hx hb dX7_sweep_32 (nI_l (by have := Nat.mul_le_mul (hse k h_12) (hse k h_12); omega)) ?_
        refine w_ladd (z := lN (q + ((se k) * (se k)))) (pc := 33) hx hb dX7_sweep_33 (lN_add q ((se k) * (se k))) ?_
        refine lv_lstore (lv' := [(7, .long (lN (q + ((se k) * (se k))))), (0, .ref (a 16)), (1, .ref (a 8)), (2, .int (nI f)), (3, .int (nI x)), (4, .int (nI y)), (5, .long (0 : Int64)), (9, .int (nI k))]) (pc := 34) hx hb dX7_sweep_34 hl (by decide) rfl (fun ls hl => ?_)
        refine lv_iinc (v := nI (k + 1)) (lv' := [(9, .int (nI (k + 1))), (7, .long (lN (q + ((se k) * (se k))))), (0, .ref (a 16)), (1, .ref (a 8)), (2, .int (nI f)), (3, .int (nI x)), (4, .int (nI y)), (5, .long (0 : Int64))]) (pc := 36) hx hb dX7_sweep_36 hl (k := 7) rfl (inc_n k 1) (by decide) rfl (fun ls hl => ?_)
        refine lv_goto (tgt := 9) (pc := 39) hx hb dX7_sweep_39 (by decide) ?_
        exact ih9 (k + 1) (q + ((se k) * (se k))) (by omega) (by rw [hq]; rfl) (by have := hm9; omega) _ _ _ hP hD hS (lv_sub hl [2, 3, 4, 5, 6, 7, 1, 0] rfl)
  exact L9 _ 0 0 (by decide) rfl (Nat.lt_succ_self _) _ _ _ hP hD hS (lv_sub hl [3, 4, 5, 6, 7, 2, 1, 0] rfl)
