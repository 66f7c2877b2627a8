/-! lemmas of the class's tree: sorting a run, sweeping it -/
def shf (o : Nat → Nat) (q i : Nat) : Nat → Nat := fun j => if q < j ∧ j ≤ i then o (j - 1) else o j
theorem shf_0 (o : Nat → Nat) (i : Nat) : shf o i i = o := by
  funext j; unfold shf; rw [if_neg (by omega)]
theorem shf_s (o : Nat → Nat) {q i : Nat} (h0 : 0 < q) (h : q ≤ i) : up (shf o q i) q (shf o q i (q - 1)) = shf o (q - 1) i := by
  funext j
  unfold up
  by_cases e : j = q
  · rw [if_pos e, e]
    unfold shf
    rw [if_neg (by omega), if_pos (by omega)]
  · rw [if_neg e]
    unfold shf
    by_cases c : q < j ∧ j ≤ i
    · rw [if_pos c, if_pos (by omega)]
    · rw [if_neg c, if_neg (by omega)]
def ins (o : Nat → Nat) (q i : Nat) : Nat → Nat := up (shf o q i) q (o i)
theorem ins_self (o : Nat → Nat) (i : Nat) : ins o i i = o := by
  funext j; unfold ins; rw [shf_0]; unfold up; split
  · rename_i h; rw [h]
  · rfl
theorem ins_val (o : Nat → Nat) {q i : Nat} (h : q ≤ i) (j : Nat) : ins o q i j = if j < q then o j else if j = q then o i else if j ≤ i then o (j - 1) else o j := by
  unfold ins up shf
  by_cases c : j = q
  · rw [if_pos c, if_neg (by omega), if_pos c]
  · rw [if_neg c]
    by_cases c2 : j < q
    · rw [if_pos c2, if_neg (by omega)]
    · rw [if_neg c2, if_neg c]
      by_cases c3 : j ≤ i
      · rw [if_pos c3, if_pos (by omega)]
      · rw [if_neg c3, if_neg (by omega)]
theorem ct_swap (p : Nat → Bool) (n k : Nat) (h : k + 1 < n) : fb_ct (fun i => p (if i = k then k + 1 else if i = k + 1 then k else i)) n = fb_ct p n := by
  have e1 : (fun i => p (if i = k then k + 1 else if i = k + 1 then k else i)) = (fun i => if i = k then p (k + 1) else (fun i => if i = k + 1 then p k else p i) i) := by
    funext i
    by_cases c : i = k
    · simp [c]
    · by_cases c2 : i = k + 1
      · simp [c2]
      · simp [c, c2]
  rw [e1]
  have h1 := fb_ct_upd (fun i => if i = k + 1 then p k else p i) (p (k + 1)) (i := k) (n := n) (by omega)
  have h2 := fb_ct_upd p (p k) (i := k + 1) (n := n) h
  dsimp only at h1 ⊢
  rw [if_neg (show ¬ k = k + 1 by omega)] at h1
  omega
theorem ins_ct (o : Nat → Nat) (p : Nat → Bool) (a n : Nat) {q i : Nat} (haq : a ≤ q) (hqi : q ≤ i) (hi : i < a + n) : crn (fun j => p (ins o q i j)) a n = crn (fun j => p (o j)) a n := by
  induction hd : i - q generalizing q with
  | zero => have : q = i := by omega
            subst this; rw [ins_self]
  | succ d ih =>
    have ih' := ih (q := q + 1) (by omega) (by omega) (by omega)
    rw [← ih']
    unfold crn
    rw [← ct_swap (fun k => p (ins o (q + 1) i (a + k))) n (q - a) (by omega)]
    apply fb_ct_cong
    intro k hk
    show p (ins o q i (a + k)) = p (ins o (q + 1) i (a + if k = q - a then q - a + 1 else if k = q - a + 1 then q - a else k))
    congr 1
    rw [ins_val o hqi, ins_val o (show q + 1 ≤ i by omega)]
    by_cases c : k = q - a
    · rw [if_pos c, if_neg (by omega), if_pos (by omega), if_neg (by omega), if_pos (by omega)]
    · rw [if_neg c]
      by_cases c2 : k = q - a + 1
      · rw [if_pos c2, if_neg (by omega), if_neg (by omega), if_pos (by omega), if_pos (by omega)]
        congr 1; omega
      · rw [if_neg c2]
        by_cases c3 : a + k < q
        · rw [if_pos c3, if_pos (by omega)]
        · rw [if_neg c3, if_neg (show ¬ a + k = q by omega), if_neg (show ¬ a + k < q + 1 by omega), if_neg (show ¬ a + k = q + 1 by omega)]
theorem ins_same (o : Nat → Nat) (a n : Nat) {q i : Nat} (haq : a ≤ q) (hqi : q ≤ i) (hi : i < a + n) : SameSeg o (ins o q i) a n := by
  refine ⟨fun p => ins_ct o p a n haq hqi hi, fun j hj => ?_⟩
  rw [ins_val o hqi]
  by_cases c : j < q
  · rw [if_pos c]
  · rw [if_neg c, if_neg (by omega), if_neg (by omega)]
abbrev Srt (V : Nat → Int32) (o : Nat → Nat) (a b : Nat) : Prop := ∀ x y, a ≤ x → x ≤ y → y < b → V (o x) ≤ V (o y)
theorem ins_srt {V : Nat → Int32} {o : Nat → Nat} {a q i : Nat} (hs : Srt V o a i) (haq : a ≤ q) (hqi : q ≤ i) (hg : ∀ j, q ≤ j → j < i → V (o i) < V (o j)) (hl : q = a ∨ V (o (q - 1)) ≤ V (o i)) : Srt V (ins o q i) a (i + 1) := by
  intro x y hx hxy hy
  rw [ins_val o hqi, ins_val o hqi]
  by_cases cx : x < q
  · rw [if_pos cx]
    have hle : V (o x) ≤ V (o (q - 1)) := hs x (q - 1) hx (by omega) (by omega)
    have hl' : V (o (q - 1)) ≤ V (o i) := by rcases hl with h | h; omega; exact h
    by_cases cy : y < q
    · rw [if_pos cy]; exact hs x y hx hxy (by omega)
    · rw [if_neg cy]
      by_cases cy2 : y = q
      · rw [if_pos cy2]; exact Int32.le_trans hle hl'
      · rw [if_neg cy2, if_pos (by omega)]
        exact hs x (y - 1) hx (by omega) (by omega)
  · rw [if_neg cx]
    by_cases cx2 : x = q
    · rw [if_pos cx2, if_neg (by omega)]
      by_cases cy2 : y = q
      · rw [if_pos cy2]; exact Int32.le_refl _
      · rw [if_neg cy2, if_pos (by omega)]
        exact Int32.le_of_lt (hg (y - 1) (by omega) (by omega))
    · rw [if_neg cx2, if_pos (by omega), if_neg (by omega), if_neg (by omega), if_pos (by omega)]
      exact hs (x - 1) (y - 1) (by omega) (by omega) (by omega)
theorem SameSeg.mem {o o' : Nat → Nat} {a n : Nat} (h : SameSeg o o' a n) {i : Nat} (h1 : a ≤ i) (h2 : i < a + n) : ∃ j, a ≤ j ∧ j < a + n ∧ o j = o' i := by
  have hp := h.1 (fun t => t == o' i)
  have h3 : 0 < crn (fun j => o' j == o' i) a n := fb_ct_pos.mpr ⟨i - a, by omega, by simp [show a + (i - a) = i by omega]⟩
  rw [hp] at h3
  obtain ⟨k, hk, hq⟩ := fb_ct_pos.mp h3
  exact ⟨a + k, by omega, by omega, by simpa using hq⟩
theorem sq4_inc {c : Nat → Nat} {k : Nat} (hk : k < 4) : sq4 (up c k (c k + 1)) = sq4 c + (2 * c k + 1) := by
  have e : (c k + 1) * (c k + 1) = c k * c k + (2 * c k + 1) := by simp only [Nat.add_mul, Nat.mul_add]; omega
  have : k = 0 ∨ k = 1 ∨ k = 2 ∨ k = 3 := by omega
  unfold sq4
  rcases this with rfl | rfl | rfl | rfl <;> simp only [up] <;> simp <;> omega
theorem sq4_dec {c : Nat → Nat} {k : Nat} (hk : k < 4) (h0 : 0 < c k) : sq4 (up c k (c k - 1)) + (2 * c k - 1) = sq4 c := by
  obtain ⟨d, hd⟩ : ∃ d, c k = d + 1 := ⟨c k - 1, by omega⟩
  have e : (d + 1) * (d + 1) = d * d + (2 * d + 1) := by simp only [Nat.add_mul, Nat.mul_add]; omega
  have : k = 0 ∨ k = 1 ∨ k = 2 ∨ k = 3 := by omega
  unfold sq4
  rcases this with rfl | rfl | rfl | rfl <;> simp only [up, hd] <;> simp <;> omega
theorem sq4_cong {c d : Nat → Nat} (h : ∀ k, k < 4 → c k = d k) : sq4 c = sq4 d := by
  unfold sq4; rw [h 0 (by decide), h 1 (by decide), h 2 (by decide), h 3 (by decide)]
theorem sm4_cong {c d : Nat → Nat} (h : ∀ k, k < 4 → c k = d k) : sm4 c = sm4 d := by
  unfold sm4; rw [h 0 (by decide), h 1 (by decide), h 2 (by decide), h 3 (by decide)]
section SWP
variable {T : Nat} {K : Nat → Nat} {F : Nat → Nat → Int32} {P : Nat → Bool} {od : Nat → Nat} {a b i f : Nat}
theorem seg_one (hS : SegEq od a (b - a) T P) (hs : Srt (fun t => F t f) od a b) (hab : a ≤ i) (hib : i + 1 < b) (hlt : F (od i) f < F (od (i + 1)) f) (k : Nat) : crn (fun j => K (od j) == k) a (i + 1 - a) = oneC T K F P f (F (od i) f) k := by
  unfold oneC
  have h1 := hS (fun s => decide (F s f ≤ F (od i) f) && (K s == k))
  have e : fb_ct (fun s => (P s && decide (F s f ≤ F (od i) f)) && (K s == k)) T = fb_ct (fun t => P t && (decide (F t f ≤ F (od i) f) && (K t == k))) T := fb_ct_cong (fun s _ => Bool.and_assoc _ _ _)
  rw [e, ← h1, show b - a = (i + 1 - a) + (b - (i + 1)) by omega, crn_split, show a + (i + 1 - a) = i + 1 by omega]
  rw [crn_false (a := i + 1) (n := b - (i + 1))]
  · refine Eq.trans ?_ (Nat.add_zero _).symm
    apply crn_cong
    intro j h1 h2
    have : F (od j) f ≤ F (od i) f := hs j i (by omega) (by omega) (by omega)
    simp [this]
  · intro j h1 h2
    have : F (od (i + 1)) f ≤ F (od j) f := hs (i + 1) j (by omega) (by omega) (by omega)
    have h3 : ¬ F (od j) f ≤ F (od i) f := fun z => by
      have := Int32.lt_of_lt_of_le hlt (Int32.le_trans this z)
      exact absurd this Int32.lt_irrefl
    simp [h3]
theorem seg_two (hS : SegEq od a (b - a) T P) (hs : Srt (fun t => F t f) od a b) (hab : a ≤ i) (hib : i + 1 < b) (hlt : F (od i) f < F (od (i + 1)) f) (k : Nat) : crn (fun j => K (od j) == k) (i + 1) (b - (i + 1)) = twoC T K F P f (F (od i) f) k := by
  unfold twoC
  have h1 := hS (fun s => (!decide (F s f ≤ F (od i) f)) && (K s == k))
  have e : fb_ct (fun s => (P s && !decide (F s f ≤ F (od i) f)) && (K s == k)) T = fb_ct (fun t => P t && ((!decide (F t f ≤ F (od i) f)) && (K t == k))) T := fb_ct_cong (fun s _ => Bool.and_assoc _ _ _)
  rw [e, ← h1, show b - a = (i + 1 - a) + (b - (i + 1)) by omega, crn_split, show a + (i + 1 - a) = i + 1 by omega]
  rw [crn_false (a := a) (n := i + 1 - a)]
  · refine Eq.trans ?_ (Nat.zero_add _).symm
    apply crn_cong
    intro j h1 h2
    have : F (od (i + 1)) f ≤ F (od j) f := hs (i + 1) j (by omega) (by omega) (by omega)
    have h3 : ¬ F (od j) f ≤ F (od i) f := fun z => by
      have := Int32.lt_of_lt_of_le hlt (Int32.le_trans this z)
      exact absurd this Int32.lt_irrefl
    simp [h3]
  · intro j h1 h2
    have : F (od j) f ≤ F (od i) f := hs j i (by omega) (by omega) (by omega)
    simp [this]
theorem crn_sum (hKo : ∀ j, a ≤ j → j < b → K (od j) < 4) (h : a ≤ b) : sm4 (fun k => crn (fun j => K (od j) == k) a (b - a)) = b - a := by
  have := sm4_ct (q := fun j => K (od (a + j))) (p := fun _ => true) (b - a) (fun s hs _ => hKo (a + s) (by omega) (by omega))
  have h2 : fb_ct (fun _ => true) (b - a) = b - a := fb_ct_all.mpr (fun _ _ => rfl)
  rw [h2] at this
  simpa [crn] using this
theorem swp_vld (hK : ∀ s, s < T → K s < 4) (hf : f < 4) (hS : SegEq od a (b - a) T P) (hs : Srt (fun t => F t f) od a b) (hab : a ≤ i) (hib : i + 1 < b) (hlt : F (od i) f < F (od (i + 1)) f) : vld T K F P f (F (od i) f) := by
  have m := hS.mem hab (show i < a + (b - a) by omega)
  refine ⟨hf, ⟨od i, m.1, m.2, rfl⟩, ?_⟩
  have hKo : ∀ j, i + 1 ≤ j → j < b → K (od j) < 4 := fun j h1 h2 => hK _ (hS.mem (show a ≤ j by omega) (show j < a + (b - a) by omega)).1
  have e := crn_sum hKo (show i + 1 ≤ b by omega)
  rw [← sm4_cong (fun k _ => seg_two (K := K) hS hs hab hib hlt k)]
  omega
theorem swp_ovr (hK : ∀ s, s < T → K s < 4) (hS : SegEq od a (b - a) T P) (hs : Srt (fun t => F t f) od a b) (hab : a ≤ i) (hib : i + 1 < b) (hlt : F (od i) f < F (od (i + 1)) f) {f1 s1 : Nat → Nat} (h1 : ∀ k, k < 4 → f1 k = crn (fun j => K (od j) == k) a (i + 1 - a)) (h2 : ∀ k, k < 4 → s1 k = crn (fun j => K (od j) == k) (i + 1) (b - (i + 1))) :
    sq4 f1 * (b - i - 1) + sq4 s1 * (i + 1 - a) = ovr T K F P f (F (od i) f) ∧ (i + 1 - a) * (b - i - 1) = und T K F P f (F (od i) f) := by
  have hKo : ∀ j, a ≤ j → j < b → K (od j) < 4 := fun j h1 h2 => hK _ (hS.mem h1 (show j < a + (b - a) by omega)).1
  have e1 : sm4 (oneC T K F P f (F (od i) f)) = i + 1 - a := by
    rw [← sm4_cong (fun k _ => seg_one (K := K) hS hs hab hib hlt k)]
    exact crn_sum (b := i + 1) (fun j h1 h2 => hKo j h1 (by omega)) (by omega)
  have e2 : sm4 (twoC T K F P f (F (od i) f)) = b - i - 1 := by
    rw [← sm4_cong (fun k _ => seg_two (K := K) hS hs hab hib hlt k)]
    have := crn_sum (a := i + 1) (fun j h1 h2 => hKo j (by omega) h2) (show i + 1 ≤ b by omega)
    omega
  have e3 : sq4 f1 = sq4 (oneC T K F P f (F (od i) f)) := sq4_cong (fun k hk => (h1 k hk).trans (seg_one hS hs hab hib hlt k))
  have e4 : sq4 s1 = sq4 (twoC T K F P f (F (od i) f)) := sq4_cong (fun k hk => (h2 k hk).trans (seg_two hS hs hab hib hlt k))
  unfold ovr und
  rw [e1, e2, e3, e4]
  exact ⟨rfl, rfl⟩
/-- what a sweep of feature f has seen when it stands at i -/
abbrev Vis (F : Nat → Nat → Int32) (od : Nat → Nat) (f i : Nat) : Nat → Int32 → Prop := fun f' t' => f' < f ∨ (f' = f ∧ t' < F (od i) f)
theorem vis_new (hS : SegEq od a (b - a) T P) (hs : Srt (fun t => F t f) od a b) (hab : a ≤ i) (hib : i + 1 < b) {f' : Nat} {t' : Int32} (h : Vis F od f (i + 1) f' t') (hv : vld T K F P f' t') : Vis F od f i f' t' ∨ (f' = f ∧ t' = F (od i) f) := by
  rcases h with h | ⟨h, h2⟩
  · exact Or.inl (Or.inl h)
  · subst h
    obtain ⟨-, ⟨s, hs1, hs2, hs3⟩, -⟩ := hv
    obtain ⟨j, j1, j2, j3⟩ := hS.has hs1 hs2
    have hj : j ≤ i := by
      rcases Nat.lt_or_ge i j with q | q
      · have := hs (i + 1) j (by omega) (by omega) (by omega)
        dsimp only at this
        rw [j3, hs3] at this
        exact absurd (Int32.lt_of_lt_of_le h2 this) Int32.lt_irrefl
      · exact q
    have hle := hs j i (by omega) hj (by omega)
    dsimp only at hle
    rw [j3, hs3] at hle
    rcases Int32.lt_or_eq_of_le hle with q | q
    · exact Or.inl (Or.inr ⟨rfl, q⟩)
    · exact Or.inr ⟨rfl, q⟩
theorem vis_end (hK : ∀ s, s < T → K s < 4) (hS : SegEq od a (b - a) T P) (hs : Srt (fun t => F t f) od a b) (hab : a ≤ i) (hib : b ≤ i + 1) (hi : i < b ∨ i = a) {t' : Int32} (hv : vld T K F P f t') : t' < F (od i) f := by
  have e : sm4 (twoC T K F P f t') = fb_ct (fun s => P s && !decide (F s f ≤ t')) T := sm4_ct T (fun s hs _ => hK s hs)
  have h3 := hv.2.2
  rw [e] at h3
  obtain ⟨s, h4, h5⟩ := fb_ct_pos.mp h3
  simp at h5
  obtain ⟨j, j1, j2, j3⟩ := hS.has h4 h5.1
  have := hs j i (by omega) (by omega) (by omega)
  dsimp only at this
  rw [j3] at this
  exact Int32.lt_of_lt_of_le h5.2 this
end SWP
