/-! the tree as it grows: the pure steps, and the class's rows against them -/
abbrev TS : Type := (Nat → Bool) × (Nat → Nat → Bool) × (Nat → Nat) × (Nat → Int32)
section TST
variable (T : Nat) (K : Nat → Nat) (F : Nat → Nat → Int32) (dp : Nat)
noncomputable def stepT (n : Nat) (S : TS) : TS :=
  if S.1 n = true then
    (if ¬ lvN n < dp ∨ cntC T K (S.2.1 n) (mostC (cntC T K (S.2.1 n)) 3) = fb_ct (S.2.1 n) T then (S.1, S.2.1, up S.2.2.1 n 4, up S.2.2.2 n (nI (mostC (cntC T K (S.2.1 n)) 3)))
     else match bst T K F (S.2.1 n) with
       | none => (S.1, S.2.1, up S.2.2.1 n 4, up S.2.2.2 n (nI (mostC (cntC T K (S.2.1 n)) 3)))
       | some q => (up (up S.1 (2 * n + 1) true) (2 * n + 2) true, up (up S.2.1 (2 * n + 1) (fun s => S.2.1 n s && decide (F s q.1 ≤ q.2))) (2 * n + 2) (fun s => S.2.1 n s && !decide (F s q.1 ≤ q.2)), up S.2.2.1 n q.1, up S.2.2.2 n q.2))
  else S
noncomputable def growT : Nat → TS
  | 0 => (up (fun _ => false) 0 true, fun _ _ => true, fun _ => 4, fun _ => 0)
  | n + 1 => stepT T K F dp n (growT n)
/-- what is so of every state of the growing -/
def TI (n : Nat) (S : TS) : Prop := S.1 0 = true ∧ (∀ j, S.1 j = true → j < 15 ∧ lvN j ≤ dp) ∧ ∀ j, S.1 j = true → j < n → S.2.2.1 j = 4 ∨ (S.2.2.1 j < 4 ∧ S.1 (2 * j + 1) = true ∧ S.1 (2 * j + 2) = true)
/-- the class's rows before node n is settled -/
def CI (n : Nat) (sp nu : Nat → Int32) (st en od : Nat → Nat) : Prop :=
  (∀ j, j < 15 → (growT T K F dp n).1 j = false → sp j = -1) ∧
  (∀ j, (growT T K F dp n).1 j = true → (j < n → sp j = nI ((growT T K F dp n).2.2.1 j) ∧ nu j = (growT T K F dp n).2.2.2 j) ∧ (n ≤ j → sp j = 4) ∧ st j ≤ en j ∧ en j ≤ T ∧ en j - st j = fb_ct ((growT T K F dp n).2.1 j) T ∧ (n ≤ j → SegEq od (st j) (en j - st j) T ((growT T K F dp n).2.1 j))) ∧
  (∀ i j, (growT T K F dp n).1 i = true → (growT T K F dp n).1 j = true → n ≤ i → n ≤ j → i ≠ j → en i ≤ st j ∨ en j ≤ st i)
end TST
theorem lvN_ch {n dp : Nat} (h : lvN n < dp) (hd : dp ≤ 3) : n < 7 ∧ lvN (2 * n + 1) ≤ dp ∧ lvN (2 * n + 2) ≤ dp := by
  unfold lvN at *
  by_cases c0 : n = 0
  · subst c0; simp at h ⊢; omega
  · rw [if_neg c0] at h
    by_cases c1 : n < 3
    · rw [if_pos c1] at h
      have : n = 1 ∨ n = 2 := by omega
      rcases this with rfl | rfl <;> simp <;> omega
    · rw [if_neg c1] at h
      by_cases c2 : n < 7
      · rw [if_pos c2] at h
        have : n = 3 ∨ n = 4 ∨ n = 5 ∨ n = 6 := by omega
        rcases this with rfl | rfl | rfl | rfl <;> simp <;> omega
      · rw [if_neg c2] at h; omega
section TSU
variable {T : Nat} {K : Nat → Nat} {F : Nat → Nat → Int32} {dp n : Nat}
theorem stepT_no {S : TS} (h : S.1 n = false) : stepT T K F dp n S = S := by
  unfold stepT; rw [if_neg (by rw [h]; decide)]
theorem stepT_leaf {S : TS} (h : S.1 n = true) (hl : ¬ lvN n < dp ∨ cntC T K (S.2.1 n) (mostC (cntC T K (S.2.1 n)) 3) = fb_ct (S.2.1 n) T) : stepT T K F dp n S = (S.1, S.2.1, up S.2.2.1 n 4, up S.2.2.2 n (nI (mostC (cntC T K (S.2.1 n)) 3))) := by
  unfold stepT; rw [if_pos h, if_pos hl]
theorem stepT_none {S : TS} (h : S.1 n = true) (hb : bst T K F (S.2.1 n) = none) : stepT T K F dp n S = (S.1, S.2.1, up S.2.2.1 n 4, up S.2.2.2 n (nI (mostC (cntC T K (S.2.1 n)) 3))) := by
  unfold stepT; rw [if_pos h]
  split
  · rfl
  · rw [hb]
theorem stepT_some {S : TS} (h : S.1 n = true) (hl : ¬ (¬ lvN n < dp ∨ cntC T K (S.2.1 n) (mostC (cntC T K (S.2.1 n)) 3) = fb_ct (S.2.1 n) T)) {f : Nat} {t : Int32} (hb : bst T K F (S.2.1 n) = some (f, t)) : stepT T K F dp n S = (up (up S.1 (2 * n + 1) true) (2 * n + 2) true, up (up S.2.1 (2 * n + 1) (fun s => S.2.1 n s && decide (F s f ≤ t))) (2 * n + 2) (fun s => S.2.1 n s && !decide (F s f ≤ t)), up S.2.2.1 n f, up S.2.2.2 n t) := by
  unfold stepT; rw [if_pos h, if_neg hl, hb]
theorem up_true {pr : Nat → Bool} {k j : Nat} (h : up pr k true j = true) : j = k ∨ pr j = true := by
  unfold up at h
  by_cases c : j = k
  · exact Or.inl c
  · rw [if_neg c] at h; exact Or.inr h
theorem up_tt {pr : Nat → Bool} {k j : Nat} (h : pr j = true) : up pr k true j = true := by
  unfold up; split
  · rfl
  · exact h
theorem TI_step (hd : dp ≤ 3) {S : TS} (h : TI dp n S) : TI dp (n + 1) (stepT T K F dp n S) := by
  obtain ⟨h0, h1, h2⟩ := h
  have keep : ∀ (x : Nat) (y : Int32), x = 4 → TI dp (n + 1) (S.1, S.2.1, up S.2.2.1 n x, up S.2.2.2 n y) := by
    intro x y hx
    unfold TI
    dsimp only
    refine ⟨h0, h1, fun j hj hjn => ?_⟩
    by_cases c : j = n
    · left; rw [c, up_same]; exact hx
    · rw [up_ne _ _ c]; exact h2 j hj (by omega)
  by_cases hp : S.1 n = true
  · by_cases hl : ¬ lvN n < dp ∨ cntC T K (S.2.1 n) (mostC (cntC T K (S.2.1 n)) 3) = fb_ct (S.2.1 n) T
    · rw [stepT_leaf hp hl]; exact keep _ _ rfl
    · cases hb : bst T K F (S.2.1 n) with
      | none => rw [stepT_none hp hb]; exact keep _ _ rfl
      | some q =>
        obtain ⟨f, t⟩ := q
        rw [stepT_some hp hl hb]
        unfold TI
        dsimp only
        have hv := bst_spec hb
        have hch := lvN_ch (Classical.byContradiction fun z => hl (Or.inl z)) hd
        refine ⟨up_tt (up_tt h0), fun j hj => ?_, fun j hj hjn => ?_⟩
        · rcases up_true hj with c | c
          · subst c; exact ⟨by omega, hch.2.2⟩
          · rcases up_true c with c | c
            · subst c; exact ⟨by omega, hch.2.1⟩
            · exact h1 j c
        · show up S.2.2.1 n f j = 4 ∨ (up S.2.2.1 n f j < 4 ∧ up (up S.1 (2 * n + 1) true) (2 * n + 2) true (2 * j + 1) = true ∧ up (up S.1 (2 * n + 1) true) (2 * n + 2) true (2 * j + 2) = true)
          by_cases c : j = n
          · right
            subst c
            rw [up_same]
            exact ⟨hv.1.1, by rw [up_ne _ _ (by omega)]; exact up_same _ _ _, up_same _ _ _⟩
          · rw [up_ne _ _ c]
            have hj' : S.1 j = true := by
              rcases up_true hj with c | c
              · omega
              · rcases up_true c with c | c
                · omega
                · exact c
            rcases h2 j hj' (by omega) with q | ⟨q1, q2, q3⟩
            · exact Or.inl q
            · exact Or.inr ⟨q1, up_tt (up_tt q2), up_tt (up_tt q3)⟩
  · rw [stepT_no (by simpa using hp)]
    refine ⟨h0, h1, fun j hj hjn => ?_⟩
    have : j ≠ n := fun z => hp (z ▸ hj)
    exact h2 j hj (by omega)
theorem grow0 : (growT T K F dp 0).1 = up (fun _ => false) 0 true ∧ (growT T K F dp 0).2.1 = fun _ _ => true := ⟨rfl, rfl⟩
theorem TI_all (hd : dp ≤ 3) : ∀ n, TI dp n (growT T K F dp n)
  | 0 => by
    unfold TI
    rw [grow0.1]
    refine ⟨up_same _ _ _, fun j hj => ?_, fun j _ h => absurd h (Nat.not_lt_zero _)⟩
    rcases up_true hj with c | c
    · subst c; exact ⟨by decide, by show lvN 0 ≤ dp; exact Nat.zero_le _⟩
    · cases c
  | n + 1 => TI_step hd (TI_all hd n)
theorem CI_no {sp nu : Nat → Int32} {st en od : Nat → Nat} (h : CI T K F dp n sp nu st en od) (hp : (growT T K F dp n).1 n = false) : CI T K F dp (n + 1) sp nu st en od := by
  have e : growT T K F dp (n + 1) = growT T K F dp n := stepT_no hp
  obtain ⟨h1, h2, h3⟩ := h
  unfold CI
  rw [e]
  try dsimp only
  refine ⟨h1, fun j hj => ?_, fun i j hi hj h4 h5 => h3 i j hi hj (by omega) (by omega)⟩
  have hne : j ≠ n := fun z => by rw [z, hp] at hj; cases hj
  obtain ⟨q1, q2, q3, q4, q5, q6⟩ := h2 j hj
  exact ⟨fun z => q1 (by omega), fun z => q2 (by omega), q3, q4, q5, fun z => q6 (by omega)⟩
theorem CI_leaf {sp nu : Nat → Int32} {st en od od' : Nat → Nat} (h : CI T K F dp n sp nu st en od) (hp : (growT T K F dp n).1 n = true) (hod : SameSeg od od' (st n) (en n - st n))
    (he : stepT T K F dp n (growT T K F dp n) = ((growT T K F dp n).1, (growT T K F dp n).2.1, up (growT T K F dp n).2.2.1 n 4, up (growT T K F dp n).2.2.2 n (nI (mostC (cntC T K ((growT T K F dp n).2.1 n)) 3)))) : CI T K F dp (n + 1) sp (up nu n (nI (mostC (cntC T K ((growT T K F dp n).2.1 n)) 3))) st en od' := by
  have e : growT T K F dp (n + 1) = _ := he
  obtain ⟨h1, h2, h3⟩ := h
  unfold CI
  rw [e]
  try dsimp only
  refine ⟨h1, fun j hj => ?_, fun i j hi hj h4 h5 => h3 i j hi hj (by omega) (by omega)⟩
  obtain ⟨q1, q2, q3, q4, q5, q6⟩ := h2 j hj
  refine ⟨fun z => ?_, fun z => q2 (by omega), q3, q4, q5, fun z => ?_⟩
  · show sp j = nI (up (growT T K F dp n).2.2.1 n 4 j) ∧ up nu n _ j = up (growT T K F dp n).2.2.2 n _ j
    by_cases c : j = n
    · rw [c, up_same, up_same, up_same]
      exact ⟨by rw [← c]; exact q2 (by omega), rfl⟩
    · rw [up_ne _ _ c, up_ne _ _ c, up_ne _ _ c]
      exact q1 (by omega)
  · have hd := h3 j n hj hp (by omega) (Nat.le_refl _) (by omega)
    obtain ⟨-, -, p3, -, -, -⟩ := h2 n hp
    exact (q6 (by omega)).apart hod (by omega)
theorem seg_le {od : Nat → Nat} {a b m f : Nat} {t : Int32} {P : Nat → Bool} (hS : SegEq od a (b - a) T P) (ham : a ≤ m) (hmb : m ≤ b) (h1 : ∀ i, a ≤ i → i < m → F (od i) f ≤ t) (h2 : ∀ i, m ≤ i → i < b → ¬ F (od i) f ≤ t) :
    SegEq od a (m - a) T (fun s => P s && decide (F s f ≤ t)) ∧ SegEq od m (b - m) T (fun s => P s && !decide (F s f ≤ t)) := by
  constructor
  · intro p
    have h := hS (fun s => decide (F s f ≤ t) && p s)
    rw [show b - a = (m - a) + (b - m) by omega, crn_split, show a + (m - a) = m by omega, crn_false (a := m) (n := b - m) (fun i q1 q2 => by simp [h2 i q1 (by omega)]), Nat.add_zero] at h
    have e : fb_ct (fun t_1 => (P t_1 && decide (F t_1 f ≤ t)) && p t_1) T = fb_ct (fun s => P s && (decide (F s f ≤ t) && p s)) T := fb_ct_cong (fun s _ => Bool.and_assoc _ _ _)
    rw [e, ← h]
    exact crn_cong (fun i q1 q2 => by simp [h1 i q1 (by omega)])
  · intro p
    have h := hS (fun s => (!decide (F s f ≤ t)) && p s)
    rw [show b - a = (m - a) + (b - m) by omega, crn_split, show a + (m - a) = m by omega, crn_false (a := a) (n := m - a) (fun i q1 q2 => by simp [h1 i q1 (by omega)]), Nat.zero_add] at h
    have e : fb_ct (fun t_1 => (P t_1 && !decide (F t_1 f ≤ t)) && p t_1) T = fb_ct (fun s => P s && ((!decide (F s f ≤ t)) && p s)) T := fb_ct_cong (fun s _ => Bool.and_assoc _ _ _)
    rw [e, ← h]
    exact crn_cong (fun i q1 q2 => by simp [h2 i q1 (by omega)])
theorem CI_split {sp nu : Nat → Int32} {st en od od' : Nat → Nat} (h : CI T K F dp n sp nu st en od) (hp : (growT T K F dp n).1 n = true) (hd : dp ≤ 3) (hod : SameSeg od od' (st n) (en n - st n)) {f : Nat} {t : Int32} {m : Nat} (hl : ¬ (¬ lvN n < dp ∨ cntC T K ((growT T K F dp n).2.1 n) (mostC (cntC T K ((growT T K F dp n).2.1 n)) 3) = fb_ct ((growT T K F dp n).2.1 n) T)) (hb : bst T K F ((growT T K F dp n).2.1 n) = some (f, t))
    (hm1 : st n ≤ m) (hm2 : m ≤ en n) (hs1 : SegEq od' (st n) (m - st n) T (fun s => (growT T K F dp n).2.1 n s && decide (F s f ≤ t))) (hs2 : SegEq od' m (en n - m) T (fun s => (growT T K F dp n).2.1 n s && !decide (F s f ≤ t))) (nu1 : Nat → Int32) (hnu : ∀ j, j ≠ n → nu1 j = nu j) :
    CI T K F dp (n + 1) (up (up (up sp n (nI f)) (2 * n + 1) 4) (2 * n + 2) 4) (up nu1 n t) (up (up st (2 * n + 1) (st n)) (2 * n + 2) m) (up (up en (2 * n + 1) m) (2 * n + 2) (en n)) od' := by
  have e : growT T K F dp (n + 1) = _ := stepT_some hp hl hb
  have hti := (TI_all (T := T) (K := K) (F := F) hd n).2.1
  obtain ⟨h1, h2, h3⟩ := h
  obtain ⟨-, -, p3, p4, -, -⟩ := h2 n hp
  unfold CI
  rw [e]
  try dsimp only
  have ne12 : (2 * n + 1) ≠ 2 * n + 2 := by omega
  have cs : ∀ j, up (up (growT T K F dp n).1 (2 * n + 1) true) (2 * n + 2) true j = true → j = 2 * n + 2 ∨ j = 2 * n + 1 ∨ (j ≠ 2 * n + 2 ∧ j ≠ 2 * n + 1 ∧ (growT T K F dp n).1 j = true) := by
    intro j hj
    by_cases c : j = 2 * n + 2
    · exact Or.inl c
    · by_cases c2 : j = 2 * n + 1
      · exact Or.inr (Or.inl c2)
      · rcases up_true hj with q | q
        · exact absurd q c
        · rcases up_true q with q | q
          · exact absurd q c2
          · exact Or.inr (Or.inr ⟨c, c2, q⟩)
  refine ⟨fun j hj hpj => ?_, fun j hj => ?_, fun i j hi hj h4 h5 h6 => ?_⟩
  · have c : j ≠ 2 * n + 2 := fun z => by
      have : up (up (growT T K F dp n).1 (2 * n + 1) true) (2 * n + 2) true j = true := by rw [z]; exact up_same _ _ _
      rw [this] at hpj; cases hpj
    have c2 : j ≠ 2 * n + 1 := fun z => by
      have : up (up (growT T K F dp n).1 (2 * n + 1) true) (2 * n + 2) true j = true := by rw [z, up_ne _ _ ne12]; exact up_same _ _ _
      rw [this] at hpj; cases hpj
    have hpj' : (growT T K F dp n).1 j = false := by
      have : up (up (growT T K F dp n).1 (2 * n + 1) true) (2 * n + 2) true j = false := hpj
      rw [up_ne _ _ c, up_ne _ _ c2] at this; exact this
    have c3 : j ≠ n := fun z => by rw [z, hp] at hpj'; cases hpj'
    rw [up_ne _ _ c, up_ne _ _ c2, up_ne _ _ c3]
    exact h1 j hj hpj'
  · rcases cs j hj with rfl | rfl | ⟨c, c2, hj'⟩
    · refine ⟨fun z => by omega, fun _ => up_same _ _ _, ?_⟩
      show up (up st (2 * n + 1) (st n)) (2 * n + 2) m (2 * n + 2) ≤ up (up en (2 * n + 1) m) (2 * n + 2) (en n) (2 * n + 2) ∧ up (up en (2 * n + 1) m) (2 * n + 2) (en n) (2 * n + 2) ≤ T ∧ up (up en (2 * n + 1) m) (2 * n + 2) (en n) (2 * n + 2) - up (up st (2 * n + 1) (st n)) (2 * n + 2) m (2 * n + 2) = fb_ct (up (up (growT T K F dp n).2.1 (2 * n + 1) (fun s => (growT T K F dp n).2.1 n s && decide (F s f ≤ t))) (2 * n + 2) (fun s => (growT T K F dp n).2.1 n s && !decide (F s f ≤ t)) (2 * n + 2)) T ∧ (n + 1 ≤ 2 * n + 2 → SegEq od' (up (up st (2 * n + 1) (st n)) (2 * n + 2) m (2 * n + 2)) (up (up en (2 * n + 1) m) (2 * n + 2) (en n) (2 * n + 2) - up (up st (2 * n + 1) (st n)) (2 * n + 2) m (2 * n + 2)) T (up (up (growT T K F dp n).2.1 (2 * n + 1) (fun s => (growT T K F dp n).2.1 n s && decide (F s f ≤ t))) (2 * n + 2) (fun s => (growT T K F dp n).2.1 n s && !decide (F s f ≤ t)) (2 * n + 2)))
      rw [up_same, up_same, up_same]
      exact ⟨hm2, p4, hs2.len, fun _ => hs2⟩
    · refine ⟨fun z => by omega, fun _ => by rw [up_ne _ _ ne12]; exact up_same _ _ _, ?_⟩
      show up (up st (2 * n + 1) (st n)) (2 * n + 2) m (2 * n + 1) ≤ up (up en (2 * n + 1) m) (2 * n + 2) (en n) (2 * n + 1) ∧ up (up en (2 * n + 1) m) (2 * n + 2) (en n) (2 * n + 1) ≤ T ∧ up (up en (2 * n + 1) m) (2 * n + 2) (en n) (2 * n + 1) - up (up st (2 * n + 1) (st n)) (2 * n + 2) m (2 * n + 1) = fb_ct (up (up (growT T K F dp n).2.1 (2 * n + 1) (fun s => (growT T K F dp n).2.1 n s && decide (F s f ≤ t))) (2 * n + 2) (fun s => (growT T K F dp n).2.1 n s && !decide (F s f ≤ t)) (2 * n + 1)) T ∧ (n + 1 ≤ 2 * n + 1 → SegEq od' (up (up st (2 * n + 1) (st n)) (2 * n + 2) m (2 * n + 1)) (up (up en (2 * n + 1) m) (2 * n + 2) (en n) (2 * n + 1) - up (up st (2 * n + 1) (st n)) (2 * n + 2) m (2 * n + 1)) T (up (up (growT T K F dp n).2.1 (2 * n + 1) (fun s => (growT T K F dp n).2.1 n s && decide (F s f ≤ t))) (2 * n + 2) (fun s => (growT T K F dp n).2.1 n s && !decide (F s f ≤ t)) (2 * n + 1)))
      rw [up_ne _ _ ne12, up_ne _ _ ne12, up_ne _ _ ne12, up_same, up_same, up_same]
      exact ⟨hm1, by omega, hs1.len, fun _ => hs1⟩
    · obtain ⟨q1, q2, q3, q4, q5, q6⟩ := h2 j hj'
      show (j < n + 1 → up (up (up sp n (nI f)) (2 * n + 1) 4) (2 * n + 2) 4 j = nI (up (growT T K F dp n).2.2.1 n f j) ∧ up nu1 n t j = up (growT T K F dp n).2.2.2 n t j) ∧ (n + 1 ≤ j → up (up (up sp n (nI f)) (2 * n + 1) 4) (2 * n + 2) 4 j = 4) ∧ up (up st (2 * n + 1) (st n)) (2 * n + 2) m j ≤ up (up en (2 * n + 1) m) (2 * n + 2) (en n) j ∧ up (up en (2 * n + 1) m) (2 * n + 2) (en n) j ≤ T ∧ up (up en (2 * n + 1) m) (2 * n + 2) (en n) j - up (up st (2 * n + 1) (st n)) (2 * n + 2) m j = fb_ct (up (up (growT T K F dp n).2.1 (2 * n + 1) (fun s => (growT T K F dp n).2.1 n s && decide (F s f ≤ t))) (2 * n + 2) (fun s => (growT T K F dp n).2.1 n s && !decide (F s f ≤ t)) j) T ∧ (n + 1 ≤ j → SegEq od' (up (up st (2 * n + 1) (st n)) (2 * n + 2) m j) (up (up en (2 * n + 1) m) (2 * n + 2) (en n) j - up (up st (2 * n + 1) (st n)) (2 * n + 2) m j) T (up (up (growT T K F dp n).2.1 (2 * n + 1) (fun s => (growT T K F dp n).2.1 n s && decide (F s f ≤ t))) (2 * n + 2) (fun s => (growT T K F dp n).2.1 n s && !decide (F s f ≤ t)) j))
      rw [up_ne _ _ c, up_ne _ _ c, up_ne _ _ c, up_ne _ _ c, up_ne _ _ c2, up_ne _ _ c2, up_ne _ _ c2, up_ne _ _ c2]
      refine ⟨fun z => ?_, fun z => ?_, q3, q4, q5, fun z => ?_⟩
      · by_cases c3 : j = n
        · rw [c3, up_same, up_same, up_same, up_same]; exact ⟨rfl, rfl⟩
        · rw [up_ne _ _ c3, up_ne _ _ c3, up_ne _ _ c3, up_ne _ _ c3, hnu j c3]
          exact q1 (by omega)
      · rw [up_ne _ _ (by omega)]; exact q2 (by omega)
      · have hdj := h3 j n hj' hp (by omega) (Nat.le_refl _) (by omega)
        exact (q6 (by omega)).apart hod (by omega)
  · show up (up en (2 * n + 1) m) (2 * n + 2) (en n) i ≤ up (up st (2 * n + 1) (st n)) (2 * n + 2) m j ∨ up (up en (2 * n + 1) m) (2 * n + 2) (en n) j ≤ up (up st (2 * n + 1) (st n)) (2 * n + 2) m i
    rcases cs i hi with rfl | rfl | ⟨ci, ci2, hi'⟩
    · rcases cs j hj with rfl | rfl | ⟨cj, cj2, hj'⟩
      · exact absurd rfl h6
      · rw [up_same, up_same, up_ne _ _ ne12, up_ne _ _ ne12, up_same, up_same]; right; exact Nat.le_refl _
      · rw [up_same, up_same, up_ne _ _ cj, up_ne _ _ cj, up_ne _ _ cj2, up_ne _ _ cj2]
        have := h3 n j hp hj' (Nat.le_refl _) (by omega) (by omega)
        have := (h2 j hj').2.2.1
        omega
    · rcases cs j hj with rfl | rfl | ⟨cj, cj2, hj'⟩
      · rw [up_same, up_same, up_ne _ _ ne12, up_ne _ _ ne12, up_same, up_same]; left; exact Nat.le_refl _
      · exact absurd rfl h6
      · rw [up_ne _ _ ne12, up_ne _ _ ne12, up_same, up_same, up_ne _ _ cj, up_ne _ _ cj, up_ne _ _ cj2, up_ne _ _ cj2]
        have := h3 n j hp hj' (Nat.le_refl _) (by omega) (by omega)
        have := (h2 j hj').2.2.1
        omega
    · rcases cs j hj with rfl | rfl | ⟨cj, cj2, hj'⟩
      · rw [up_same, up_same, up_ne _ _ ci, up_ne _ _ ci, up_ne _ _ ci2, up_ne _ _ ci2]
        have := h3 i n hi' hp (by omega) (Nat.le_refl _) (by omega)
        have := (h2 i hi').2.2.1
        omega
      · rw [up_ne _ _ ne12, up_ne _ _ ne12, up_same, up_same, up_ne _ _ ci, up_ne _ _ ci, up_ne _ _ ci2, up_ne _ _ ci2]
        have := h3 i n hi' hp (by omega) (Nat.le_refl _) (by omega)
        have := (h2 i hi').2.2.1
        omega
      · rw [up_ne _ _ ci, up_ne _ _ ci, up_ne _ _ ci2, up_ne _ _ ci2, up_ne _ _ cj, up_ne _ _ cj, up_ne _ _ cj2, up_ne _ _ cj2]
        exact h3 i j hi' hj' (by omega) (by omega) h6
theorem CI_0 {sp nu : Nat → Int32} {st en od : Nat → Nat} (h0 : sp 0 = 4) (h1 : ∀ j, j < 15 → j ≠ 0 → sp j = -1) (hs : st 0 = 0) (he : en 0 = T) (hod : ∀ i, i < T → od i = i) : CI T K F dp 0 sp nu st en od := by
  unfold CI
  rw [grow0.1, grow0.2]
  refine ⟨fun j hj hpj => ?_, fun j hj => ?_, fun i j hi hj _ _ h6 => ?_⟩
  · by_cases c : j = 0
    · subst c; rw [up_same] at hpj; cases hpj
    · exact h1 j hj c
  · have c : j = 0 := by
      rcases up_true hj with c | c
      · exact c
      · cases c
    subst c
    rw [hs, he]
    refine ⟨fun z => absurd z (Nat.not_lt_zero _), fun _ => h0, Nat.zero_le _, Nat.le_refl _, ?_, fun _ p => ?_⟩
    · show T - 0 = fb_ct (fun _ => true) T
      rw [Nat.sub_zero]; exact (fb_ct_all.mpr (fun _ _ => rfl)).symm
    · show crn (fun i => p (od i)) 0 (T - 0) = fb_ct (fun t => true && p t) T
      unfold crn
      rw [Nat.sub_zero]
      exact fb_ct_cong (fun k hk => by show p (od (0 + k)) = (true && p k); rw [Nat.zero_add, hod k hk, Bool.true_and])
  · have ci : i = 0 := by
      rcases up_true hi with c | c
      · exact c
      · cases c
    have cj : j = 0 := by
      rcases up_true hj with c | c
      · exact c
      · cases c
    exact absurd (ci.trans cj.symm) h6
end TSU
/-- the walk down the tree -/
def wlk (ft : Nat → Nat) (nm : Nat → Int32) (v : Nat → Int32) : Nat → Nat → Nat
  | 0, j => j
  | s + 1, j => if ft j = 4 then j else wlk ft nm v s (2 * j + (if v (ft j) ≤ nm j then 1 else 2))
theorem wlk_leaf {ft : Nat → Nat} {nm v : Nat → Int32} {s j : Nat} (h : ft j = 4) : wlk ft nm v s j = j := by
  cases s with
  | zero => rfl
  | succ s => unfold wlk; rw [if_pos h]
def TOk (pr : Nat → Bool) (ft : Nat → Nat) (nm sp nu : Nat → Int32) : Prop := pr 0 = true ∧ ∀ j, pr j = true → j < 15 ∧ sp j = nI (ft j) ∧ nu j = nm j ∧ (ft j = 4 ∨ (ft j < 4 ∧ pr (2 * j + 1) = true ∧ pr (2 * j + 2) = true))
