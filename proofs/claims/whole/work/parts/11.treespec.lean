/-! pure words of the samples and of the tree -/
def tlist (cl : Nat → Bool) : Nat → List Nat
  | 0 => []
  | n + 1 => if cl n then tlist cl n ++ [n] else tlist cl n
theorem tlist_s (cl : Nat → Bool) (n : Nat) : tlist cl (n + 1) = if cl n then tlist cl n ++ [n] else tlist cl n := rfl
def tN (cl : Nat → Bool) (n : Nat) : Nat := (tlist cl n).length
def tI (cl : Nat → Bool) (n t : Nat) : Nat := (tlist cl n).getD t 0
theorem tN_s1 {cl : Nat → Bool} {n : Nat} (h : cl n = true) : tN cl (n + 1) = tN cl n + 1 := by
  unfold tN; rw [tlist_s, if_pos h]; simp
theorem tN_s0 {cl : Nat → Bool} {n : Nat} (h : ¬ cl n = true) : tN cl (n + 1) = tN cl n := by
  unfold tN; rw [tlist_s, if_neg h]
theorem tN_le (cl : Nat → Bool) : ∀ n, tN cl n ≤ n
  | 0 => Nat.le_refl 0
  | n + 1 => by
    have := tN_le cl n
    by_cases h : cl n = true
    · rw [tN_s1 h]; omega
    · rw [tN_s0 h]; omega
theorem tI_old {cl : Nat → Bool} {n t : Nat} (h : t < tN cl n) : tI cl (n + 1) t = tI cl n t := by
  unfold tI; rw [tlist_s]
  by_cases q : cl n = true
  · rw [if_pos q]
    unfold tN at h
    rw [List.getD_eq_getElem?_getD, List.getD_eq_getElem?_getD, List.getElem?_append_left h]
  · rw [if_neg q]
theorem tI_new {cl : Nat → Bool} {n : Nat} (h : cl n = true) : tI cl (n + 1) (tN cl n) = n := by
  unfold tI; rw [tlist_s, if_pos h]
  unfold tN
  rw [List.getD_eq_getElem?_getD, List.getElem?_append_right (Nat.le_refl _)]
  simp
theorem tI_same {cl : Nat → Bool} {n t : Nat} (h : ¬ cl n = true) : tI cl (n + 1) t = tI cl n t := by
  unfold tI; rw [tlist_s, if_neg h]
theorem tI_in {cl : Nat → Bool} : ∀ {n t : Nat}, t < tN cl n → tI cl n t < n ∧ cl (tI cl n t) = true
  | 0, t, h => absurd h (Nat.not_lt_zero _)
  | n + 1, t, h => by
    by_cases q : cl n = true
    · rw [tN_s1 q] at h
      rcases Nat.lt_succ_iff_lt_or_eq.mp h with h | h
      · have := tI_in h
        rw [tI_old h]; exact ⟨by omega, this.2⟩
      · rw [h, tI_new q]; exact ⟨Nat.lt_succ_self n, q⟩
    · rw [tN_s0 q] at h
      have := tI_in h
      rw [tI_same q]; exact ⟨by omega, this.2⟩
def okSmp (sd sc sk : Nat → Nat) (n : Nat) : Prop := n ≤ 40 ∧ ∀ s, s < n → sd s < 6 ∧ sc s < 64 ∧ sk s < 4
def absI (x : Int32) : Int32 := if 0 ≤ x then x else -x
/-- the nearest: how far, and its class -/
def nrS (fr : Nat → Int32) (K : Nat → Nat) : Nat → Int32 × Int32
  | 0 => (3001, -1)
  | s + 1 => if (nrS fr K s).1 ≤ fr s then nrS fr K s else (fr s, nI (K s))
theorem nrS_cong {fr fr' : Nat → Int32} {K K' : Nat → Nat} : ∀ {n : Nat}, (∀ s, s < n → fr s = fr' s ∧ K s = K' s) → nrS fr K n = nrS fr' K' n
  | 0, _ => rfl
  | n + 1, h => by
    have e := nrS_cong (n := n) (fun s hs => h s (by omega))
    unfold nrS
    rw [e, (h n (by omega)).1, (h n (by omega)).2]
/-- counts over a row's run from a on -/
def crn (q : Nat → Bool) (a : Nat) : Nat → Nat := fb_ct (fun i => q (a + i))
theorem crn_s (q : Nat → Bool) (a n : Nat) : crn q a (n + 1) = crn q a n + (if q (a + n) then 1 else 0) := rfl
theorem crn_split (q : Nat → Bool) (a m n : Nat) : crn q a (m + n) = crn q a m + crn q (a + m) n := by
  unfold crn
  rw [fb_ct_split]
  congr 1
  apply fb_ct_cong
  intro k _
  rw [Nat.add_assoc]
theorem crn_cong {q r : Nat → Bool} {a n : Nat} (h : ∀ i, a ≤ i → i < a + n → q i = r i) : crn q a n = crn r a n := fb_ct_cong (fun k hk => h (a + k) (by omega) (by omega))
theorem crn_le (q : Nat → Bool) (a n : Nat) : crn q a n ≤ n := fb_ct_le _ n
theorem crn_false {q : Nat → Bool} {a n : Nat} (h : ∀ i, a ≤ i → i < a + n → q i = false) : crn q a n = 0 := fb_ct_zero.mpr (fun k hk => h (a + k) (by omega) (by omega))
/-- the run of od is the members P of T -/
def SegEq (od : Nat → Nat) (a n T : Nat) (P : Nat → Bool) : Prop := ∀ p : Nat → Bool, crn (fun i => p (od i)) a n = fb_ct (fun t => P t && p t) T
def SameSeg (od od' : Nat → Nat) (a n : Nat) : Prop := (∀ p : Nat → Bool, crn (fun i => p (od' i)) a n = crn (fun i => p (od i)) a n) ∧ ∀ i, (i < a ∨ a + n ≤ i) → od' i = od i
theorem SameSeg.refl (od : Nat → Nat) (a n : Nat) : SameSeg od od a n := ⟨fun _ => rfl, fun _ _ => rfl⟩
theorem SameSeg.trans {o1 o2 o3 : Nat → Nat} {a n : Nat} (h : SameSeg o1 o2 a n) (h2 : SameSeg o2 o3 a n) : SameSeg o1 o3 a n := ⟨fun p => (h2.1 p).trans (h.1 p), fun i hi => (h2.2 i hi).trans (h.2 i hi)⟩
theorem SegEq.same {od od' : Nat → Nat} {a n T : Nat} {P : Nat → Bool} (h : SegEq od a n T P) (hs : SameSeg od od' a n) : SegEq od' a n T P := fun p => (hs.1 p).trans (h p)
theorem SegEq.apart {od od' : Nat → Nat} {a n b m T : Nat} {P : Nat → Bool} (h : SegEq od b m T P) (hs : SameSeg od od' a n) (hd : b + m ≤ a ∨ a + n ≤ b) : SegEq od' b m T P := fun p => by
  rw [← h p]
  exact crn_cong (fun i h1 h2 => by show p (od' i) = p (od i); rw [hs.2 i (by omega)])
theorem SegEq.mem {od : Nat → Nat} {a n T : Nat} {P : Nat → Bool} (h : SegEq od a n T P) {i : Nat} (h1 : a ≤ i) (h2 : i < a + n) : od i < T ∧ P (od i) = true := by
  have hp := h (fun t => t == od i)
  have h3 : 0 < crn (fun j => od j == od i) a n := fb_ct_pos.mpr ⟨i - a, by omega, by simp [show a + (i - a) = i by omega]⟩
  rw [hp] at h3
  obtain ⟨t, ht, hq⟩ := fb_ct_pos.mp h3
  simp at hq
  rw [← hq.2]; exact ⟨ht, hq.1⟩
theorem SegEq.has {od : Nat → Nat} {a n T : Nat} {P : Nat → Bool} (h : SegEq od a n T P) {t : Nat} (ht : t < T) (hP : P t = true) : ∃ i, a ≤ i ∧ i < a + n ∧ od i = t := by
  have hp := h (fun x => x == t)
  have h3 : 0 < fb_ct (fun x => P x && (x == t)) T := fb_ct_pos.mpr ⟨t, ht, by simp [hP]⟩
  rw [← hp] at h3
  obtain ⟨k, hk, hq⟩ := fb_ct_pos.mp h3
  exact ⟨a + k, by omega, by omega, by simpa using hq⟩
theorem SegEq.len {od : Nat → Nat} {a n T : Nat} {P : Nat → Bool} (h : SegEq od a n T P) : n = fb_ct P T := by
  have h1 := h (fun _ => true)
  have h2 : crn (fun _ => true) a n = n := fb_ct_all.mpr (fun _ _ => rfl)
  rw [h2] at h1
  rw [h1]
  exact fb_ct_cong (fun k _ => by simp)
def sq4 (c : Nat → Nat) : Nat := c 0 * c 0 + c 1 * c 1 + c 2 * c 2 + c 3 * c 3
def sm4 (c : Nat → Nat) : Nat := c 0 + c 1 + c 2 + c 3
theorem sq4_le {c : Nat → Nat} {m : Nat} (h : sm4 c ≤ m) : sq4 c ≤ m * m := by
  have h1 : sq4 c ≤ sm4 c * sm4 c := by
    unfold sq4 sm4
    generalize c 0 = a; generalize c 1 = b; generalize c 2 = d; generalize c 3 = e
    have : (a + b + d + e) * (a + b + d + e) = a * a + b * b + d * d + e * e + (a * b + a * d + a * e + b * a + b * d + b * e + d * a + d * b + d * e + e * a + e * b + e * d) := by
      simp only [Nat.add_mul, Nat.mul_add]; omega
    omega
  exact Nat.le_trans h1 (Nat.mul_le_mul h h)
theorem sm4_ct {q : Nat → Nat} {p : Nat → Bool} (n : Nat) (hq : ∀ s, s < n → p s = true → q s < 4) : sm4 (fun k => fb_ct (fun s => p s && (q s == k)) n) = fb_ct p n := by
  induction n with
  | zero => rfl
  | succ n ih =>
    have e := ih (fun s hs => hq s (by omega))
    unfold sm4 at e ⊢
    dsimp only at e ⊢
    simp only [fb_ct_succ]
    by_cases hp : p n = true
    · have hk := hq n (by omega) hp
      have : q n = 0 ∨ q n = 1 ∨ q n = 2 ∨ q n = 3 := by omega
      rcases this with h | h | h | h <;> simp [hp, h] <;> omega
    · simp [hp]; omega
section TRE
variable (T : Nat) (K : Nat → Nat) (F : Nat → Nat → Int32) (P : Nat → Bool)
def oneC (f : Nat) (t : Int32) (k : Nat) : Nat := fb_ct (fun s => (P s && decide (F s f ≤ t)) && (K s == k)) T
def twoC (f : Nat) (t : Int32) (k : Nat) : Nat := fb_ct (fun s => (P s && !decide (F s f ≤ t)) && (K s == k)) T
def cntC (k : Nat) : Nat := fb_ct (fun s => P s && (K s == k)) T
def ovr (f : Nat) (t : Int32) : Nat := sq4 (oneC T K F P f t) * sm4 (twoC T K F P f t) + sq4 (twoC T K F P f t) * sm4 (oneC T K F P f t)
def und (f : Nat) (t : Int32) : Nat := sm4 (oneC T K F P f t) * sm4 (twoC T K F P f t)
def vld (f : Nat) (t : Int32) : Prop := f < 4 ∧ (∃ s, s < T ∧ P s = true ∧ F s f = t) ∧ 0 < sm4 (twoC T K F P f t)
/-- q is no worse than r -/
def geS (f : Nat) (t : Int32) (f' : Nat) (t' : Int32) : Prop := ovr T K F P f' t' * und T K F P f t < ovr T K F P f t * und T K F P f' t' ∨ (ovr T K F P f' t' * und T K F P f t = ovr T K F P f t * und T K F P f' t' ∧ (f < f' ∨ (f = f' ∧ t ≤ t')))
def IsBest (f : Nat) (t : Int32) : Prop := vld T K F P f t ∧ ∀ f' t', vld T K F P f' t' → geS T K F P f t f' t'
/-- the best of what was visited (V) -/
def BI (V : Nat → Int32 → Prop) (bf : Nat) (bn : Int32) (bt bb : Nat) : Prop := (bf = 4 ∧ bt = 0 ∧ bb = 1 ∧ ∀ f t, V f t → ¬ vld T K F P f t) ∨ ((vld T K F P bf bn ∧ V bf bn) ∧ bt = ovr T K F P bf bn ∧ bb = und T K F P bf bn ∧ ∀ f t, V f t → vld T K F P f t → geS T K F P bf bn f t)
noncomputable def bst : Option (Nat × Int32) := @dite _ (∃ q : Nat × Int32, IsBest T K F P q.1 q.2) (Classical.propDecidable _) (fun h => some (Classical.choose h)) (fun _ => none)
def mostC (c : Nat → Nat) : Nat → Nat
  | 0 => 0
  | k + 1 => if c (mostC c k) < c (k + 1) then k + 1 else mostC c k
end TRE
theorem mostC_le (c : Nat → Nat) : ∀ k, mostC c k ≤ k
  | 0 => Nat.le_refl 0
  | k + 1 => by
    have := mostC_le c k
    unfold mostC; split <;> omega
theorem mostC_cong {c d : Nat → Nat} : ∀ {k : Nat}, (∀ j, j ≤ k → c j = d j) → mostC c k = mostC d k
  | 0, _ => rfl
  | k + 1, h => by
    have e := mostC_cong (k := k) (fun j hj => h j (by omega))
    unfold mostC
    have := mostC_le d k
    rw [e, h _ (by omega), h _ (by omega)]
theorem sq4_pos {c : Nat → Nat} (h : 0 < sm4 c) : 0 < sq4 c := by
  unfold sm4 at h
  unfold sq4
  rcases Nat.eq_zero_or_pos (c 0) with h0 | h0
  · rcases Nat.eq_zero_or_pos (c 1) with h1 | h1
    · rcases Nat.eq_zero_or_pos (c 2) with h2 | h2
      · have := Nat.mul_pos (show 0 < c 3 by omega) (show 0 < c 3 by omega); omega
      · have := Nat.mul_pos h2 h2; omega
    · have := Nat.mul_pos h1 h1; omega
  · have := Nat.mul_pos h0 h0; omega
section TRF
variable {T : Nat} {K : Nat → Nat} {F : Nat → Nat → Int32} {P : Nat → Bool}
theorem one_pos {f : Nat} {t : Int32} (hK : ∀ s, s < T → K s < 4) (h : ∃ s, s < T ∧ P s = true ∧ F s f = t) : 0 < sm4 (oneC T K F P f t) := by
  obtain ⟨s, h1, h2, h3⟩ := h
  have e : sm4 (oneC T K F P f t) = fb_ct (fun s => P s && decide (F s f ≤ t)) T := sm4_ct T (fun s hs _ => hK s hs)
  rw [e]
  exact fb_ct_pos.mpr ⟨s, h1, by simp [h2, h3]⟩
theorem und_pos {f : Nat} {t : Int32} (hK : ∀ s, s < T → K s < 4) (h : vld T K F P f t) : 0 < und T K F P f t := Nat.mul_pos (one_pos hK h.2.1) h.2.2
theorem ovr_pos {f : Nat} {t : Int32} (hK : ∀ s, s < T → K s < 4) (h : vld T K F P f t) : 0 < ovr T K F P f t := by
  have := Nat.mul_pos (sq4_pos (one_pos hK h.2.1)) h.2.2
  unfold ovr; omega
theorem one_le {f : Nat} {t : Int32} (hK : ∀ s, s < T → K s < 4) : sm4 (oneC T K F P f t) ≤ T := by
  have e : sm4 (oneC T K F P f t) = fb_ct (fun s => P s && decide (F s f ≤ t)) T := sm4_ct T (fun s hs _ => hK s hs)
  rw [e]; exact fb_ct_le _ _
theorem two_le {f : Nat} {t : Int32} (hK : ∀ s, s < T → K s < 4) : sm4 (twoC T K F P f t) ≤ T := by
  have e : sm4 (twoC T K F P f t) = fb_ct (fun s => P s && !decide (F s f ≤ t)) T := sm4_ct T (fun s hs _ => hK s hs)
  rw [e]; exact fb_ct_le _ _
theorem ovr_le {f : Nat} {t : Int32} (hK : ∀ s, s < T → K s < 4) (hT : T ≤ 40) : ovr T K F P f t ≤ 128000 := by
  have h1 := sq4_le (Nat.le_trans (one_le (P := P) (F := F) (f := f) (t := t) hK) hT)
  have h2 := sq4_le (Nat.le_trans (two_le (P := P) (F := F) (f := f) (t := t) hK) hT)
  have h3 := Nat.mul_le_mul h1 (Nat.le_trans (two_le (P := P) (F := F) (f := f) (t := t) hK) hT)
  have h4 := Nat.mul_le_mul h2 (Nat.le_trans (one_le (P := P) (F := F) (f := f) (t := t) hK) hT)
  unfold ovr; omega
theorem und_le {f : Nat} {t : Int32} (hK : ∀ s, s < T → K s < 4) (hT : T ≤ 40) : und T K F P f t ≤ 1600 := by
  have h3 := Nat.mul_le_mul (Nat.le_trans (one_le (P := P) (F := F) (f := f) (t := t) hK) hT) (Nat.le_trans (two_le (P := P) (F := F) (f := f) (t := t) hK) hT)
  unfold und; omega
theorem best_one {f f' : Nat} {t t' : Int32} (h : IsBest T K F P f t) (h2 : IsBest T K F P f' t') : f = f' ∧ t = t' := by
  have a := h.2 f' t' h2.1
  have b := h2.2 f t h.1
  unfold geS at a b
  rcases a with a | ⟨a1, a⟩
  · rcases b with b | ⟨b1, b⟩
    · omega
    · omega
  · rcases b with b | ⟨b1, b⟩
    · omega
    · rcases a with a | ⟨a2, a⟩
      · omega
      · rcases b with b | ⟨b2, b⟩
        · omega
        · exact ⟨a2, Int32.le_antisymm a b⟩
theorem bst_some {f : Nat} {t : Int32} (h : IsBest T K F P f t) : bst T K F P = some (f, t) := by
  have hx : ∃ q : Nat × Int32, IsBest T K F P q.1 q.2 := ⟨(f, t), h⟩
  unfold bst
  rw [dif_pos hx]
  have e := best_one (Classical.choose_spec hx) h
  congr 1
  exact Prod.ext e.1 e.2
theorem bst_none (h : ∀ f t, ¬ vld T K F P f t) : bst T K F P = none := by
  unfold bst
  rw [dif_neg]
  rintro ⟨q, hq⟩
  exact h _ _ hq.1
theorem bst_spec {f : Nat} {t : Int32} (h : bst T K F P = some (f, t)) : IsBest T K F P f t := by
  unfold bst at h
  split at h
  · rename_i hx
    have e := Option.some.inj h
    have := Classical.choose_spec hx
    rw [e] at this
    exact this
  · cases h
theorem BI_all {bf : Nat} {bn : Int32} {bt bb : Nat} {V : Nat → Int32 → Prop} (h : BI T K F P V bf bn bt bb) (hV : ∀ f t, vld T K F P f t → V f t) : (bf = 4 ∧ bst T K F P = none) ∨ (bf < 4 ∧ bst T K F P = some (bf, bn) ∧ vld T K F P bf bn) := by
  rcases h with ⟨h1, -, -, h2⟩ | ⟨h1, -, -, h2⟩
  · exact Or.inl ⟨h1, bst_none (fun f t hv => h2 f t (hV f t hv) hv)⟩
  · exact Or.inr ⟨h1.1.1, bst_some ⟨h1.1, fun f t hv => h2 f t (hV f t hv) hv⟩, h1.1⟩
theorem BI_mono {bf : Nat} {bn : Int32} {bt bb : Nat} {V V' : Nat → Int32 → Prop} (h : BI T K F P V bf bn bt bb) (hV : ∀ f t, V' f t → vld T K F P f t → V f t) (hU : ∀ f t, V f t → vld T K F P f t → V' f t) : BI T K F P V' bf bn bt bb := by
  rcases h with ⟨h1, h3, h4, h2⟩ | ⟨h1, h3, h4, h2⟩
  · exact Or.inl ⟨h1, h3, h4, fun f t hv hw => h2 f t (hV f t hv hw) hw⟩
  · exact Or.inr ⟨⟨h1.1, hU _ _ h1.2 h1.1⟩, h3, h4, fun f t hv hw => h2 f t (hV f t hv hw) hw⟩
theorem rat_trans {a b c d e f : Nat} (hd : 0 < d) (h1 : a * d ≤ c * b) (h2 : c * f < e * d) (hb : 0 < b) : a * f < e * b := by
  have h3 : a * d * f ≤ c * b * f := Nat.mul_le_mul_right f h1
  have h4 : c * f * b < e * d * b := Nat.mul_lt_mul_of_pos_right h2 hb
  have e1 : a * d * f = a * f * d := by rw [Nat.mul_right_comm]
  have e2 : c * b * f = c * f * b := by rw [Nat.mul_right_comm]
  have e3 : e * d * b = e * b * d := by rw [Nat.mul_right_comm]
  rw [e1, e2] at h3
  rw [e3] at h4
  exact Nat.lt_of_mul_lt_mul_right (Nat.lt_of_le_of_lt h3 h4)
theorem rat_trans' {a b c d e f : Nat} (hd : 0 < d) (h1 : a * d ≤ c * b) (h2 : c * f ≤ e * d) : a * f ≤ e * b := by
  have h3 : a * d * f ≤ c * b * f := Nat.mul_le_mul_right f h1
  have h4 : c * f * b ≤ e * d * b := Nat.mul_le_mul_right b h2
  have e1 : a * d * f = a * f * d := by rw [Nat.mul_right_comm]
  have e2 : c * b * f = c * f * b := by rw [Nat.mul_right_comm]
  have e3 : e * d * b = e * b * d := by rw [Nat.mul_right_comm]
  rw [e1, e2] at h3
  rw [e3] at h4
  exact Nat.le_of_mul_le_mul_right (Nat.le_trans h3 h4) hd
/-- a further split is seen, later in the order (its f no less; where alike its t no less): the class's step -/
theorem BI_next {bf : Nat} {bn : Int32} {bt bb : Nat} {V V' : Nat → Int32 → Prop} {f : Nat} {t : Int32} (hK : ∀ s, s < T → K s < 4) (h : BI T K F P V bf bn bt bb) (hv : vld T K F P f t) (hW : V' f t) (hU : ∀ f' t', V f' t' → V' f' t')
    (hV : ∀ f' t', V' f' t' → vld T K F P f' t' → V f' t' ∨ (f' = f ∧ t' = t)) (hlate : V bf bn → bf < f ∨ (bf = f ∧ bn ≤ t)) :
    BI T K F P V' (if bt * und T K F P f t < ovr T K F P f t * bb then f else bf) (if bt * und T K F P f t < ovr T K F P f t * bb then t else bn) (if bt * und T K F P f t < ovr T K F P f t * bb then ovr T K F P f t else bt) (if bt * und T K F P f t < ovr T K F P f t * bb then und T K F P f t else bb) := by
  rcases h with ⟨h1, h3, h4, h2⟩ | ⟨h1, h3, h4, h2⟩
  · have c : bt * und T K F P f t < ovr T K F P f t * bb := by
      rw [h3, h4, Nat.zero_mul, Nat.mul_one]; exact ovr_pos hK hv
    rw [if_pos c, if_pos c, if_pos c, if_pos c]
    refine Or.inr ⟨⟨hv, hW⟩, rfl, rfl, fun f' t' hV' hv' => ?_⟩
    rcases hV f' t' hV' hv' with q | ⟨rfl, rfl⟩
    · exact absurd hv' (h2 f' t' q)
    · exact Or.inr ⟨rfl, Or.inr ⟨rfl, Int32.le_refl _⟩⟩
  · rw [h3, h4]
    by_cases c : ovr T K F P bf bn * und T K F P f t < ovr T K F P f t * und T K F P bf bn
    · rw [if_pos c, if_pos c, if_pos c, if_pos c]
      refine Or.inr ⟨⟨hv, hW⟩, rfl, rfl, fun f' t' hV' hv' => ?_⟩
      rcases hV f' t' hV' hv' with q | ⟨rfl, rfl⟩
      · left
        have g := h2 f' t' q hv'
        have g' : ovr T K F P f' t' * und T K F P bf bn ≤ ovr T K F P bf bn * und T K F P f' t' := by
          rcases g with g | g
          · omega
          · omega
        exact rat_trans (und_pos hK h1.1) g' c (und_pos hK hv')
      · exact Or.inr ⟨rfl, Or.inr ⟨rfl, Int32.le_refl _⟩⟩
    · rw [if_neg c, if_neg c, if_neg c, if_neg c]
      refine Or.inr ⟨⟨h1.1, hU _ _ h1.2⟩, rfl, rfl, fun f' t' hV' hv' => ?_⟩
      rcases hV f' t' hV' hv' with q | ⟨rfl, rfl⟩
      · exact h2 f' t' q hv'
      · rcases Nat.lt_or_ge (ovr T K F P f' t' * und T K F P bf bn) (ovr T K F P bf bn * und T K F P f' t') with q | q
        · exact Or.inl q
        · exact Or.inr ⟨by omega, hlate h1.2⟩
end TRF
