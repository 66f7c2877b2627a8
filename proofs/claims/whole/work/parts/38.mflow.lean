/-! the reference's smoothing: flows and cuts -/
def nbE (c w : Nat) : Bool := (w == 0 && decide (c % 8 < 7)) || (w == 1 && decide (c / 8 < 7)) || (w == 2 && decide (0 < c % 8)) || (w == 3 && decide (0 < c / 8))
def nbD (c w : Nat) : Nat := if w = 0 then c + 1 else if w = 1 then c + 8 else if w = 2 then c - 1 else c - 8
def nbI (c w : Nat) : Int32 := if nbE c w = true then nI (nbD c w) else -1
def dxI (w : Nat) : Int32 := if w = 0 then 1 else if w = 2 then -1 else 0
def dyI (w : Nat) : Int32 := if w = 1 then 1 else if w = 3 then -1 else 0
theorem nb_tab : ∀ c, c < 64 → ∀ w, w < 4 → (if rg (nI (c % 8) + dxI w) 0 7 then (if rg (nI (c / 8) + dyI w) 0 7 then 8 * (nI (c / 8) + dyI w) + (nI (c % 8) + dxI w) else -1) else -1) = nbI c w := by decide +kernel
theorem nb_back : ∀ c, c < 64 → ∀ w, w < 4 → nbE c w = true → nbD c w < 64 ∧ nbE (nbD c w) ((w + 2) % 4) = true ∧ nbD (nbD c w) ((w + 2) % 4) = c := by decide +kernel
theorem nbI_in {c w : Nat} (h : nbE c w = true) : nbI c w = nI (nbD c w) := if_pos h
theorem nbI_out {c w : Nat} (h : ¬ nbE c w = true) : nbI c w = -1 := if_neg h
theorem nbI_m1 {c w : Nat} (hc : c < 64) (hw : w < 4) : nbI c w = -1 ↔ ¬ nbE c w = true := by
  refine ⟨fun h z => ?_, nbI_out⟩
  rw [nbI_in z] at h
  exact nI_ne_m1 (Nat.lt_trans (nb_back c hc w hw z).1 (by decide)) h
/-- sums -/
def smm (f : Nat → Nat) : Nat → Nat
  | 0 => 0
  | n + 1 => smm f n + f n
theorem smm_cong {f g : Nat → Nat} : ∀ {n : Nat}, (∀ i, i < n → f i = g i) → smm f n = smm g n
  | 0, _ => rfl
  | n + 1, h => by unfold smm; rw [smm_cong (n := n) (fun i hi => h i (by omega)), h n (by omega)]
theorem smm_up {f : Nat → Nat} {i v : Nat} : ∀ {n : Nat}, i < n → smm (up f i v) n + f i = smm f n + v
  | 0, h => absurd h (Nat.not_lt_zero _)
  | n + 1, h => by
    unfold smm
    rcases Nat.lt_succ_iff_lt_or_eq.mp h with q | q
    · have ih := smm_up (f := f) (v := v) (n := n) q
      rw [up_ne _ _ (by omega)]; omega
    · subst q
      rw [up_same, smm_cong (f := up f i v) (g := f) (fun j hj => up_ne _ _ (by omega))]; omega
theorem smm_mem {f : Nat → Nat} {i : Nat} : ∀ {n : Nat}, i < n → f i ≤ smm f n
  | 0, h => absurd h (Nat.not_lt_zero _)
  | n + 1, h => by
    unfold smm
    rcases Nat.lt_succ_iff_lt_or_eq.mp h with q | q
    · have := smm_mem (f := f) (n := n) q; omega
    · subst q; omega
theorem smm_le {f : Nat → Nat} {m : Nat} : ∀ {n : Nat}, (∀ i, i < n → f i ≤ m) → smm f n ≤ n * m
  | 0, _ => Nat.zero_le _
  | n + 1, h => by
    have := smm_le (m := m) (n := n) (fun i hi => h i (by omega))
    have h2 := h n (by omega)
    unfold smm; rw [Nat.succ_mul]; omega
theorem smm_0 {f : Nat → Nat} : ∀ {n : Nat}, (∀ i, i < n → f i = 0) → smm f n = 0
  | 0, _ => rfl
  | n + 1, h => by unfold smm; rw [smm_0 (n := n) (fun i hi => h i (by omega)), h n (by omega)]
theorem smm_0i {f : Nat → Nat} {n : Nat} (h : smm f n = 0) {i : Nat} (hi : i < n) : f i = 0 := by have := smm_mem (f := f) hi; omega
theorem smm_add {f g : Nat → Nat} : ∀ n, smm (fun i => f i + g i) n = smm f n + smm g n
  | 0 => rfl
  | n + 1 => by unfold smm; rw [smm_add n]; omega
theorem smm_4 {f : Nat → Nat} : ∀ n, smm f (4 * n) = smm (fun c => f (4 * c) + f (4 * c + 1) + f (4 * c + 2) + f (4 * c + 3)) n
  | 0 => rfl
  | n + 1 => by
    show smm f (4 * n + 4) = smm (fun c => f (4 * c) + f (4 * c + 1) + f (4 * c + 2) + f (4 * c + 3)) n + (f (4 * n) + f (4 * n + 1) + f (4 * n + 2) + f (4 * n + 3))
    rw [← smm_4 n]
    show smm f (4 * n) + f (4 * n) + f (4 * n + 1) + f (4 * n + 2) + f (4 * n + 3) = _
    omega
theorem smm_shift {p q : Nat → Nat} {m : Nat} (h0 : ∀ c, c < m → q c = 0) (h1 : ∀ c, q (c + m) = p c) : ∀ n, smm q (n + m) = smm p n
  | 0 => by rw [Nat.zero_add]; exact smm_0 h0
  | n + 1 => by
    rw [show n + 1 + m = (n + m) + 1 by omega]
    unfold smm; rw [smm_shift h0 h1 n, h1]
theorem smm_tail {p : Nat → Nat} {n : Nat} : ∀ m, (∀ c, n ≤ c → c < n + m → p c = 0) → smm p (n + m) = smm p n
  | 0, _ => rfl
  | m + 1, h => by
    rw [← Nat.add_assoc]
    show smm p (n + m) + p (n + m) = _
    rw [h (n + m) (by omega) (by omega), smm_tail m (fun c h1 h2 => h c h1 (by omega)), Nat.add_zero]
/-- a slot that a board cuts -/
def gE (T : Nat → Bool) (i : Nat) : Bool := nbE (i / 4) (i % 4) && (T (i / 4) && !T (nbD (i / 4) (i % 4)))
def ndF (fs ts : Nat → Nat) (T : Nat → Bool) : Nat → Nat := fun c => if T c = true then ts c else fs c
def egF (tx : Nat → Nat) (T : Nat → Bool) : Nat → Nat := fun i => if gE T i = true then tx i else 0
/-- what is left of the cut of board T -/
def RC (fs ts tx : Nat → Nat) (T : Nat → Bool) : Nat := smm (ndF fs ts T) 64 + smm (egF tx T) 256
theorem gE_at {T : Nat → Bool} {c w : Nat} (hw : w < 4) : gE T (4 * c + w) = (nbE c w && (T c && !T (nbD c w))) := by
  unfold gE
  rw [show (4 * c + w) / 4 = c by omega, show (4 * c + w) % 4 = w by omega]
theorem egF_up {tx : Nat → Nat} {T : Nat → Bool} {i v : Nat} : egF (up tx i v) T = up (egF tx T) i (if gE T i = true then v else 0) := by
  funext j
  unfold egF up
  by_cases c : j = i
  · rw [if_pos c, if_pos c, c]
  · rw [if_neg c, if_neg c]
theorem ndF_ts {fs ts : Nat → Nat} {T : Nat → Bool} {i v : Nat} : ndF fs (up ts i v) T = up (ndF fs ts T) i (if T i = true then v else fs i) := by
  funext j
  unfold ndF up
  by_cases c : j = i
  · rw [if_pos c, if_pos c, c]
  · rw [if_neg c, if_neg c]
theorem ndF_fs {fs ts : Nat → Nat} {T : Nat → Bool} {i v : Nat} : ndF (up fs i v) ts T = up (ndF fs ts T) i (if T i = true then ts i else v) := by
  funext j
  unfold ndF up
  by_cases c : j = i
  · rw [if_pos c, if_pos c, c]
  · rw [if_neg c, if_neg c]
section RCS
variable {fs ts tx : Nat → Nat} {T : Nat → Bool} {l : Nat}
theorem RC_ts {e : Nat} (he : e < 64) (hl : l ≤ ts e) : RC fs (up ts e (ts e - l)) tx T + (if T e = true then l else 0) = RC fs ts tx T := by
  unfold RC
  rw [ndF_ts]
  have h := smm_up (f := ndF fs ts T) (v := if T e = true then ts e - l else fs e) (n := 64) he
  have h2 : ndF fs ts T e = if T e = true then ts e else fs e := rfl
  rw [h2] at h
  by_cases c : T e = true
  · rw [if_pos c] at h ⊢; rw [if_pos c] at h ⊢; omega
  · rw [if_neg c] at h ⊢; rw [if_neg c] at h ⊢; omega
theorem RC_fs {e : Nat} (he : e < 64) (hl : l ≤ fs e) : RC (up fs e (fs e - l)) ts tx T + (if T e = true then 0 else l) = RC fs ts tx T := by
  unfold RC
  rw [ndF_fs]
  have h := smm_up (f := ndF fs ts T) (v := if T e = true then ts e else fs e - l) (n := 64) he
  have h2 : ndF fs ts T e = if T e = true then ts e else fs e := rfl
  rw [h2] at h
  by_cases c : T e = true
  · rw [if_pos c] at h ⊢; rw [if_pos c] at h ⊢; omega
  · rw [if_neg c] at h ⊢; rw [if_neg c] at h ⊢; omega
theorem RC_dec {i : Nat} (hi : i < 256) (hl : l ≤ tx i) : RC fs ts (up tx i (tx i - l)) T + (if gE T i = true then l else 0) = RC fs ts tx T := by
  unfold RC
  rw [egF_up]
  have h := smm_up (f := egF tx T) (v := if gE T i = true then tx i - l else 0) (n := 256) hi
  have h2 : egF tx T i = if gE T i = true then tx i else 0 := rfl
  rw [h2] at h
  by_cases c : gE T i = true
  · rw [if_pos c] at h ⊢; rw [if_pos c] at h ⊢; omega
  · rw [if_neg c] at h ⊢; rw [if_neg c] at h ⊢; omega
theorem RC_inc {i : Nat} (hi : i < 256) : RC fs ts (up tx i (tx i + l)) T = RC fs ts tx T + (if gE T i = true then l else 0) := by
  unfold RC
  rw [egF_up]
  have h := smm_up (f := egF tx T) (v := if gE T i = true then tx i + l else 0) (n := 256) hi
  have h2 : egF tx T i = if gE T i = true then tx i else 0 := rfl
  rw [h2] at h
  by_cases c : gE T i = true
  · rw [if_pos c] at h ⊢; rw [if_pos c] at h ⊢; omega
  · rw [if_neg c] at h ⊢; rw [if_neg c] at h ⊢; omega
/-- one edge of the way: from b to c by way w -/
theorem RC_edge {b c w : Nat} (hb : b < 64) (hw : w < 4) (hE : nbE b w = true) (hD : nbD b w = c) (hl : l ≤ tx (4 * b + w)) {r : Nat} (h : RC fs ts tx T + (if T c = true then l else 0) = r) :
    RC fs ts (up (up tx (4 * b + w) (tx (4 * b + w) - l)) (4 * c + (w + 2) % 4) (up tx (4 * b + w) (tx (4 * b + w) - l) (4 * c + (w + 2) % 4) + l)) T + (if T b = true then l else 0) = r := by
  obtain ⟨n1, n2, n3⟩ := nb_back b hb w hw hE
  rw [hD] at n1 n2 n3
  have h4 : (w + 2) % 4 < 4 := Nat.mod_lt _ (by decide)
  rw [RC_inc (by omega)]
  have h1 := RC_dec (fs := fs) (ts := ts) (T := T) (i := 4 * b + w) (by omega) hl
  rw [gE_at hw, hE, hD, Bool.true_and] at h1
  rw [gE_at h4, n2, n3, Bool.true_and]
  cases hTb : T b <;> cases hTc : T c <;> simp [hTb, hTc] at h h1 ⊢ <;> omega
theorem RC_fsle (h : ∀ T, RC fs ts tx T ≤ 100000) {c : Nat} (hc : c < 64) : fs c ≤ 100000 := by
  have h1 := h (fun _ => false)
  have h2 := smm_mem (f := ndF fs ts (fun _ => false)) hc
  have h3 : ndF fs ts (fun _ => false) c = fs c := rfl
  unfold RC at h1; omega
theorem RC_tsle (h : ∀ T, RC fs ts tx T ≤ 100000) {c : Nat} (hc : c < 64) : ts c ≤ 100000 := by
  have h1 := h (fun _ => true)
  have h2 := smm_mem (f := ndF fs ts (fun _ => true)) hc
  have h3 : ndF fs ts (fun _ => true) c = ts c := rfl
  unfold RC at h1; omega
theorem nbD_ne : ∀ c, c < 64 → ∀ w, w < 4 → nbE c w = true → ¬ nbD c w = c := by decide +kernel
theorem RC_txle (h : ∀ T, RC fs ts tx T ≤ 100000) {c w : Nat} (hc : c < 64) (hw : w < 4) (hE : nbE c w = true) : tx (4 * c + w) ≤ 100000 := by
  have h1 := h (fun x => x == c)
  have h2 := smm_mem (f := egF tx (fun x => x == c)) (n := 256) (show 4 * c + w < 256 by omega)
  have h3 : egF tx (fun x => x == c) (4 * c + w) = tx (4 * c + w) := by
    unfold egF
    rw [gE_at hw, hE, if_pos (by simp [nbD_ne c hc w hw hE])]
  unfold RC at h1; omega
end RCS
/-- the search: what each reached cell was reached by -/
def BF (fs tx : Nat → Nat) (cm : Nat → Int32) (ps : Nat → Nat) : Prop := ∀ c, c < 64 → ¬ cm c = -1 → (cm c = 4 ∧ 0 < fs c) ∨ ∃ w b, w < 4 ∧ b < 64 ∧ cm c = nI w ∧ nbE b w = true ∧ nbD b w = c ∧ ¬ cm b = -1 ∧ ps b < ps c ∧ 0 < tx (4 * b + w)
def rchd (cm : Nat → Int32) : Nat → Bool := fun c => !decide (cm c = -1)
/-- the queue -/
def QI (fs tx : Nat → Nat) (cm : Nat → Int32) (qu ps : Nat → Nat) (tl : Nat) : Prop :=
  tl = fb_ct (rchd cm) 64 ∧ (∀ i, i < tl → qu i < 64 ∧ ¬ cm (qu i) = -1 ∧ ps (qu i) = i) ∧ (∀ c, c < 64 → ¬ cm c = -1 → ps c < tl ∧ qu (ps c) = c) ∧ (∀ c, c < 64 → 0 < fs c → ¬ cm c = -1) ∧ BF fs tx cm ps
/-- done: the cells before hd lead nowhere new -/
def DN (ts tx : Nat → Nat) (cm : Nat → Int32) (qu : Nat → Nat) (hd : Nat) : Prop := ∀ i, i < hd → ts (qu i) = 0 ∧ ∀ w, w < 4 → nbE (qu i) w = true → 0 < tx (4 * qu i + w) → ¬ cm (nbD (qu i) w) = -1
theorem ct_up {p : Nat → Bool} {d : Nat} (hp : p d = false) : ∀ {n : Nat}, d < n → fb_ct (up p d true) n = fb_ct p n + 1
  | 0, h => absurd h (Nat.not_lt_zero _)
  | n + 1, h => by
    rw [fb_ct_succ, fb_ct_succ]
    rcases Nat.lt_succ_iff_lt_or_eq.mp h with q | q
    · rw [ct_up hp q, up_ne _ _ (by omega)]; omega
    · subst q
      rw [up_same, hp, fb_ct_cong (p := up p d true) (q := p) (fun k hk => up_ne _ _ (by omega))]; rfl
theorem ct_lt {p : Nat → Bool} {d : Nat} (hp : p d = false) {n : Nat} (h : d < n) : fb_ct p n < n := by
  have := ct_up hp h
  have h2 := fb_ct_le (up p d true) n
  omega
theorem rchd_up {cm : Nat → Int32} {d : Nat} {v : Int32} (hv : ¬ v = -1) : rchd (up cm d v) = up (rchd cm) d true := by
  funext j
  unfold rchd up
  by_cases c : j = d
  · rw [if_pos c, if_pos c]; simp [hv]
  · rw [if_neg c, if_neg c]
theorem QI_tl {fs tx : Nat → Nat} {cm : Nat → Int32} {qu ps : Nat → Nat} {tl : Nat} (h : QI fs tx cm qu ps tl) : tl ≤ 64 := by rw [h.1]; exact fb_ct_le _ _
theorem QI_lt {fs tx : Nat → Nat} {cm : Nat → Int32} {qu ps : Nat → Nat} {tl d : Nat} (h : QI fs tx cm qu ps tl) (hd : d < 64) (hc : cm d = -1) : tl < 64 := by
  rw [h.1]; exact ct_lt (d := d) (by unfold rchd; simp [hc]) hd
theorem QI_push {fs tx : Nat → Nat} {cm : Nat → Int32} {qu ps : Nat → Nat} {tl c w d : Nat} (h : QI fs tx cm qu ps tl) (hc : c < 64) (hcm : ¬ cm c = -1) (hw : w < 4) (hE : nbE c w = true) (hD : nbD c w = d) (hd : cm d = -1) (ht : 0 < tx (4 * c + w)) : QI fs tx (up cm d (nI w)) (up qu tl d) (up ps d tl) (tl + 1) := by
  have hd64 := (nb_back c hc w hw hE).1
  rw [hD] at hd64
  have hwn : ¬ nI w = -1 := nI_ne_m1 (by omega)
  obtain ⟨h1, h2, h3, h4, h5⟩ := h
  have hr : rchd cm d = false := by unfold rchd; simp [hd]
  have ne : ∀ x, ¬ cm x = -1 → x ≠ d := fun x hx z => hx (by rw [z]; exact hd)
  refine ⟨?_, fun i hi => ?_, fun x hx hxc => ?_, fun x hx hf => ?_, fun x hx hxc => ?_⟩
  · rw [rchd_up hwn, ct_up hr hd64, h1]
  · rcases Nat.lt_succ_iff_lt_or_eq.mp hi with q | q
    · obtain ⟨g1, g2, g3⟩ := h2 i q
      rw [up_ne qu _ (by omega), up_ne cm _ (ne _ g2), up_ne ps _ (ne _ g2)]
      exact ⟨g1, g2, g3⟩
    · subst q
      rw [up_same, up_same, up_same]
      exact ⟨hd64, hwn, rfl⟩
  · by_cases e : x = d
    · subst e; rw [up_same, up_same]; exact ⟨Nat.lt_succ_self _, rfl⟩
    · rw [up_ne _ _ e] at hxc
      obtain ⟨g1, g2⟩ := h3 x hx hxc
      rw [up_ne ps _ e, up_ne qu _ (by omega)]
      exact ⟨by omega, g2⟩
  · by_cases e : x = d
    · subst e; rw [up_same]; exact hwn
    · rw [up_ne _ _ e]; exact h4 x hx hf
  · by_cases e : x = d
    · subst e
      right
      refine ⟨w, c, hw, hc, up_same _ _ _, hE, hD, ?_, ?_, ht⟩
      · rw [up_ne _ _ (ne c hcm)]; exact hcm
      · rw [up_ne _ _ (ne c hcm), up_same]; exact (h3 c hc hcm).1
    · rw [up_ne _ _ e] at hxc
      rw [up_ne cm _ e, up_ne ps _ e]
      rcases h5 x hx hxc with g | ⟨w', b', g1, g2, g3, g4, g5, g6, g7, g8⟩
      · exact Or.inl g
      · right
        refine ⟨w', b', g1, g2, g3, g4, g5, ?_, ?_, g8⟩
        · rw [up_ne _ _ (ne b' g6)]; exact g6
        · rw [up_ne _ _ (ne b' g6)]; exact g7
theorem DN_push {ts tx : Nat → Nat} {cm : Nat → Int32} {qu : Nat → Nat} {hd tl d : Nat} {v : Int32} (h : DN ts tx cm qu hd) (hle : hd ≤ tl) (hv : ¬ v = -1) : DN ts tx (up cm d v) (up qu tl d) hd := by
  intro i hi
  rw [up_ne qu _ (by omega)]
  refine ⟨(h i hi).1, fun w hw hE ht => ?_⟩
  by_cases e : nbD (qu i) w = d
  · rw [e, up_same]; exact hv
  · rw [up_ne _ _ e]; exact (h i hi).2 w hw hE ht
/-- the ways of one cell -/
def WY (tx : Nat → Nat) (cm : Nat → Int32) (c y : Nat) : Prop := ∀ w, w < y → nbE c w = true → 0 < tx (4 * c + w) → ¬ cm (nbD c w) = -1
theorem WY_skip {tx : Nat → Nat} {cm : Nat → Int32} {c y : Nat} (h : WY tx cm c y) (hn : nbE c y = true → 0 < tx (4 * c + y) → ¬ cm (nbD c y) = -1) : WY tx cm c (y + 1) := by
  intro w hw
  rcases Nat.lt_succ_iff_lt_or_eq.mp hw with q | q
  · exact h w q
  · rw [q]; exact hn
theorem WY_push {tx : Nat → Nat} {cm : Nat → Int32} {c y d : Nat} {v : Int32} (h : WY tx cm c y) (hD : nbD c y = d) (hv : ¬ v = -1) : WY tx (up cm d v) c (y + 1) := by
  intro w hw hE ht
  by_cases e : nbD c w = d
  · rw [e, up_same]; exact hv
  · rw [up_ne _ _ e]
    rcases Nat.lt_succ_iff_lt_or_eq.mp hw with q | q
    · exact h w q hE ht
    · rw [q] at e; exact absurd hD e
theorem DN_next {ts tx : Nat → Nat} {cm : Nat → Int32} {qu : Nat → Nat} {hd : Nat} (h : DN ts tx cm qu hd) (h0 : ts (qu hd) = 0) (hw : WY tx cm (qu hd) 4) : DN ts tx cm qu (hd + 1) := by
  intro i hi
  rcases Nat.lt_succ_iff_lt_or_eq.mp hi with q | q
  · exact h i q
  · rw [q]; exact ⟨h0, hw⟩
/-- the sources, in the queue -/
def sF (fs : Nat → Nat) : Nat → Bool := fun c => decide (0 < fs c)
def Q0 (fs : Nat → Nat) (cm : Nat → Int32) (qu : Nat → Nat) (c1 tl : Nat) : Prop := tl = fb_ct (sF fs) c1 ∧ (∀ c, c < c1 → cm c = if 0 < fs c then 4 else -1) ∧ (∀ i, i < tl → qu i < c1 ∧ 0 < fs (qu i) ∧ fb_ct (sF fs) (qu i) = i) ∧ ∀ c, c < c1 → 0 < fs c → qu (fb_ct (sF fs) c) = c ∧ fb_ct (sF fs) c < tl
theorem Q0_no {fs : Nat → Nat} {cm : Nat → Int32} {qu : Nat → Nat} {c1 tl : Nat} (h : Q0 fs cm qu c1 tl) (hf : ¬ 0 < fs c1) : Q0 fs (up cm c1 (-1)) qu (c1 + 1) tl := by
  obtain ⟨h1, h2, h3, h4⟩ := h
  refine ⟨?_, fun c hc => ?_, fun i hi => ?_, fun c hc hp => ?_⟩
  · rw [fb_ct_succ, h1, if_neg (by unfold sF; simp; omega)]; rfl
  · by_cases e : c = c1
    · subst e; rw [up_same, if_neg hf]
    · rw [up_ne _ _ e]; exact h2 c (by omega)
  · obtain ⟨g1, g2, g3⟩ := h3 i hi
    exact ⟨by omega, g2, g3⟩
  · by_cases e : c = c1
    · subst e; exact absurd hp hf
    · exact h4 c (by omega) hp
theorem Q0_yes {fs : Nat → Nat} {cm : Nat → Int32} {qu : Nat → Nat} {c1 tl : Nat} (h : Q0 fs cm qu c1 tl) (hf : 0 < fs c1) : Q0 fs (up cm c1 4) (up qu tl c1) (c1 + 1) (tl + 1) := by
  obtain ⟨h1, h2, h3, h4⟩ := h
  refine ⟨?_, fun c hc => ?_, fun i hi => ?_, fun c hc hp => ?_⟩
  · rw [fb_ct_succ, h1, if_pos (by unfold sF; simp; omega)]
  · by_cases e : c = c1
    · subst e; rw [up_same, if_pos hf]
    · rw [up_ne _ _ e]; exact h2 c (by omega)
  · rcases Nat.lt_succ_iff_lt_or_eq.mp hi with q | q
    · obtain ⟨g1, g2, g3⟩ := h3 i q
      rw [up_ne _ _ (by omega)]
      exact ⟨by omega, g2, g3⟩
    · subst q; rw [up_same]; exact ⟨Nat.lt_succ_self _, hf, h1.symm⟩
  · by_cases e : c = c1
    · subst e; rw [← h1, up_same]; exact ⟨rfl, Nat.lt_succ_self _⟩
    · obtain ⟨g1, g2⟩ := h4 c (by omega) hp
      rw [up_ne _ _ (by omega)]
      exact ⟨g1, by omega⟩
theorem QI_0 {fs tx : Nat → Nat} {cm : Nat → Int32} {qu : Nat → Nat} {tl : Nat} (h : Q0 fs cm qu 64 tl) : QI fs tx cm qu (fun c => fb_ct (sF fs) c) tl := by
  obtain ⟨h1, h2, h3, h4⟩ := h
  have hp : ∀ c, c < 64 → ((¬ cm c = -1) ↔ 0 < fs c) := fun c hc => by
    rw [h2 c hc]
    by_cases e : 0 < fs c
    · rw [if_pos e]; exact ⟨fun _ => e, fun _ => by decide⟩
    · rw [if_neg e]; exact ⟨fun z => absurd rfl z, fun z => absurd z e⟩
  refine ⟨?_, fun i hi => ?_, fun c hc hx => h4 c hc ((hp c hc).mp hx) |>.symm, fun c hc hf => (hp c hc).mpr hf, fun c hc hx => ?_⟩
  · rw [h1]
    refine fb_ct_cong (fun c hc => ?_)
    have := hp c hc
    unfold sF rchd
    by_cases e : cm c = -1
    · simp [e] at this ⊢; omega
    · simp [e] at this ⊢; omega
  · obtain ⟨g1, g2, g3⟩ := h3 i hi
    exact ⟨g1, (hp _ g1).mpr g2, g3⟩
  · have hf := (hp c hc).mp hx
    exact Or.inl ⟨by rw [h2 c hc, if_pos hf], hf⟩
theorem BF_of {fs tx : Nat → Nat} {cm : Nat → Int32} {qu ps : Nat → Nat} {tl : Nat} (h : QI fs tx cm qu ps tl) : BF fs tx cm ps := h.2.2.2.2
theorem rc_in {cm : Nat → Int32} {c : Nat} : rchd cm c = true ↔ ¬ cm c = -1 := by unfold rchd; simp
theorem RC_closed {fs ts tx : Nat → Nat} {cm : Nat → Int32} {qu ps : Nat → Nat} {tl : Nat} (h : QI fs tx cm qu ps tl) (hN : DN ts tx cm qu tl) : RC fs ts tx (rchd cm) = 0 := by
  obtain ⟨h1, h2, h3, h4, h5⟩ := h
  have hn : ∀ c, c < 64 → ¬ cm c = -1 → ts c = 0 ∧ ∀ w, w < 4 → nbE c w = true → 0 < tx (4 * c + w) → ¬ cm (nbD c w) = -1 := fun c hc hx => by
    obtain ⟨g1, g2⟩ := h3 c hc hx
    have := hN (ps c) g1
    rw [g2] at this; exact this
  unfold RC
  rw [smm_0 (fun c hc => ?_), smm_0 (fun i hi => ?_)]
  · unfold egF
    by_cases e : gE (rchd cm) i = true
    · rw [if_pos e]
      unfold gE at e
      simp only [Bool.and_eq_true, Bool.not_eq_true'] at e
      obtain ⟨e1, e2, e3⟩ := e
      rw [rc_in] at e2
      have h4c : i / 4 < 64 := by omega
      have := (hn _ h4c e2).2 (i % 4) (Nat.mod_lt _ (by decide)) e1
      rw [show 4 * (i / 4) + i % 4 = i by omega] at this
      rcases Nat.eq_zero_or_pos (tx i) with q | q
      · exact q
      · rw [rc_in.mpr (this q)] at e3; cases e3
    · rw [if_neg e]
  · unfold ndF
    by_cases e : rchd cm c = true
    · rw [if_pos e]; exact (hn c hc (rc_in.mp e)).1
    · rw [if_neg e]
      rcases Nat.eq_zero_or_pos (fs c) with q | q
      · exact q
      · exact absurd (rc_in.mpr (h4 c hc q)) e
theorem RC_in {fs ts tx : Nat → Nat} {cm : Nat → Int32} {ps : Nat → Nat} {T : Nat → Bool} (hB : BF fs tx cm ps) (hT : RC fs ts tx T = 0) : ∀ m c, ps c < m → c < 64 → ¬ cm c = -1 → T c = true := by
  have hn : smm (ndF fs ts T) 64 = 0 := by unfold RC at hT; omega
  have he : smm (egF tx T) 256 = 0 := by unfold RC at hT; omega
  intro m
  induction m with
  | zero => intro c h; exact absurd h (Nat.not_lt_zero _)
  | succ m ih =>
    intro c hm hc hx
    cases hTc : T c with
    | true => rfl
    | false =>
      rcases hB c hc hx with ⟨-, g⟩ | ⟨w, b, g1, g2, g3, g4, g5, g6, g7, g8⟩
      · have := smm_0i hn hc
        unfold ndF at this
        rw [hTc] at this; simp at this; omega
      · have hb := ih b (by omega) g2 g6
        have := smm_0i he (show 4 * b + w < 256 by omega)
        unfold egF at this
        rw [gE_at g1, g4, g5, hb, hTc] at this; simp at this; omega
section BCS
variable {eg : Nat} {T : Nat → Bool}
def q0E (eg : Nat) (T : Nat → Bool) (c : Nat) : Nat := if c % 8 ≠ 0 ∧ T (c - 1) = true ∧ T c = false then eg else 0
def q1E (eg : Nat) (T : Nat → Bool) (c : Nat) : Nat := if 8 ≤ c ∧ T (c - 8) = true ∧ T c = false then eg else 0
def e0E (eg : Nat) (T : Nat → Bool) (c : Nat) : Nat := if c % 8 < 7 ∧ T c = true ∧ T (c + 1) = false then eg else 0
def e1E (eg : Nat) (T : Nat → Bool) (c : Nat) : Nat := if c / 8 < 7 ∧ T c = true ∧ T (c + 8) = false then eg else 0
def e2E (eg : Nat) (T : Nat → Bool) (c : Nat) : Nat := if c % 8 ≠ 0 ∧ T c = true ∧ T (c - 1) = false then eg else 0
def e3E (eg : Nat) (T : Nat → Bool) (c : Nat) : Nat := if 8 ≤ c ∧ T c = true ∧ T (c - 8) = false then eg else 0
theorem sh0 : smm (e0E eg T) 64 = smm (q0E eg T) 64 := by
  rw [smm_tail (p := e0E eg T) (n := 63) 1 (fun c h1 h2 => by unfold e0E; rw [if_neg (by omega)])]
  refine (smm_shift (p := e0E eg T) (q := q0E eg T) (m := 1) (fun c hc => ?_) (fun c => ?_) 63).symm
  · unfold q0E; rw [if_neg (by omega)]
  · unfold q0E e0E
    rw [show c + 1 - 1 = c by omega]
    by_cases e : c % 8 < 7
    · have e2 : (c + 1) % 8 ≠ 0 := by omega
      simp [e, e2]
    · have e2 : (c + 1) % 8 = 0 := by omega
      simp [e, e2]
theorem sh1 : smm (e1E eg T) 64 = smm (q1E eg T) 64 := by
  rw [smm_tail (p := e1E eg T) (n := 56) 8 (fun c h1 h2 => by unfold e1E; rw [if_neg (by omega)])]
  refine ((smm_shift (p := fun c => if T c = true ∧ T (c + 8) = false then eg else 0) (q := q1E eg T) (m := 8) (fun c hc => ?_) (fun c => ?_) 56).trans (smm_cong (fun c hc => ?_))).symm
  · unfold q1E; rw [if_neg (by omega)]
  · unfold q1E
    rw [show c + 8 - 8 = c by omega]
    have e2 : 8 ≤ c + 8 := by omega
    simp [e2]
  · unfold e1E
    have e2 : c / 8 < 7 := by omega
    simp [e2]
theorem bc_sum {fs ts : Nat → Nat} : ∀ n, bcost (fun i => 128 * fs i) (fun i => 128 * ts i + 1) (128 * eg) T n = 128 * (smm (ndF fs ts T) n + (smm (q0E eg T) n + smm (e2E eg T) n) + (smm (q1E eg T) n + smm (e3E eg T) n)) + fb_ct T n
  | 0 => rfl
  | n + 1 => by
    have ih := bc_sum (fs := fs) (ts := ts) n
    unfold bcost
    rw [ih, fb_ct_succ]
    simp only [smm]
    have a1 : (if n % 8 ≠ 0 ∧ T n ≠ T (n - 1) then 128 * eg else 0) = 128 * (q0E eg T n + e2E eg T n) := by
      unfold q0E e2E
      by_cases c : n % 8 = 0
      · simp [c]
      · cases T n <;> cases T (n - 1) <;> simp [c]
    have a2 : (if 8 ≤ n ∧ T n ≠ T (n - 8) then 128 * eg else 0) = 128 * (q1E eg T n + e3E eg T n) := by
      unfold q1E e3E
      by_cases c : 8 ≤ n
      · cases T n <;> cases T (n - 8) <;> simp [c]
      · simp [c]
    have a3 : (if T n = true then 128 * ts n + 1 else 128 * fs n) = 128 * ndF fs ts T n + (if T n = true then 1 else 0) := by
      unfold ndF
      cases T n <;> simp
    rw [a1, a2, a3]; omega
def tx0 (eg : Nat) : Nat → Nat := fun i => if nbE (i / 4) (i % 4) = true then eg else 0
theorem tx0_at {c w : Nat} (hw : w < 4) : tx0 eg (4 * c + w) = if nbE c w = true then eg else 0 := by
  unfold tx0
  rw [show (4 * c + w) / 4 = c by omega, show (4 * c + w) % 4 = w by omega]
theorem eg_at {c w : Nat} (hw : w < 4) : egF (tx0 eg) T (4 * c + w) = if nbE c w = true ∧ T c = true ∧ T (nbD c w) = false then eg else 0 := by
  unfold egF
  rw [gE_at hw, tx0_at hw]
  cases nbE c w <;> cases T c <;> cases T (nbD c w) <;> simp
theorem eg_sum : smm (egF (tx0 eg) T) 256 = (smm (q0E eg T) 64 + smm (e2E eg T) 64) + (smm (q1E eg T) 64 + smm (e3E eg T) 64) := by
  rw [show (256 : Nat) = 4 * 64 from rfl, smm_4, ← sh0, ← sh1]
  rw [smm_cong (g := fun c => (e0E eg T c + e2E eg T c) + (e1E eg T c + e3E eg T c)) (fun c hc => ?_), smm_add (f := fun c => e0E eg T c + e2E eg T c), smm_add, smm_add]
  have f0 : egF (tx0 eg) T (4 * c) = e0E eg T c := by
    have := eg_at (eg := eg) (T := T) (c := c) (w := 0) (by decide)
    rw [Nat.add_zero] at this
    rw [this]; unfold e0E nbE nbD; simp
  have f1 : egF (tx0 eg) T (4 * c + 1) = e1E eg T c := by
    rw [eg_at (by decide)]; unfold e1E nbE nbD; simp
  have f2 : egF (tx0 eg) T (4 * c + 2) = e2E eg T c := by
    rw [eg_at (by decide)]; unfold e2E nbE nbD; simp [Nat.pos_iff_ne_zero]
  have f3 : egF (tx0 eg) T (4 * c + 3) = e3E eg T c := by
    rw [eg_at (by decide)]; unfold e3E nbE nbD
    have : (0 < c / 8) ↔ 8 ≤ c := by omega
    simp [this]
  rw [f0, f1, f2, f3]; omega
theorem bc_RC {fs ts : Nat → Nat} : bcost (fun i => 128 * fs i) (fun i => 128 * ts i + 1) (128 * eg) T 64 = 128 * RC fs ts (tx0 eg) T + fb_ct T 64 := by
  rw [bc_sum, RC, eg_sum]; omega
end BCS
theorem RC_cong {fs ts tx fs' ts' tx' : Nat → Nat} (h1 : ∀ c, c < 64 → fs c = fs' c) (h2 : ∀ c, c < 64 → ts c = ts' c) (h3 : ∀ i, i < 256 → tx i = tx' i) (T : Nat → Bool) : RC fs ts tx T = RC fs' ts' tx' T := by
  unfold RC
  have a := smm_cong (f := ndF fs ts T) (g := ndF fs' ts' T) (n := 64) (fun c hc => by unfold ndF; rw [h1 c hc, h2 c hc])
  have b := smm_cong (f := egF tx T) (g := egF tx' T) (n := 256) (fun i hi => by unfold egF; rw [h3 i hi])
  rw [a, b]
theorem RC_bd {fs ts : Nat → Nat} {eg : Nat} (h1 : ∀ c, c < 64 → fs c ≤ 100) (h2 : ∀ c, c < 64 → ts c ≤ 100) (h3 : eg ≤ 100) (T : Nat → Bool) : RC fs ts (tx0 eg) T ≤ 100000 := by
  unfold RC
  have a := smm_le (f := ndF fs ts T) (m := 100) (n := 64) (fun c hc => by unfold ndF; split; exact h2 c hc; exact h1 c hc)
  have b := smm_le (f := egF (tx0 eg) T) (m := 100) (n := 256) (fun i hi => by unfold egF tx0; split; split; exact h3; exact Nat.zero_le _; exact Nat.zero_le _)
  omega
/-- at the end of the flow: the reached cells are the best board -/
theorem cut_best {fs ts tx fs0 ts0 : Nat → Nat} {eg al : Nat} {cm : Nat → Int32} {qu ps : Nat → Nat} {tl : Nat} (hA : ∀ T, RC fs ts tx T + al = RC fs0 ts0 (tx0 eg) T) (h : QI fs tx cm qu ps tl) (hN : DN ts tx cm qu tl) :
    bcost (fun i => 128 * fs0 i) (fun i => 128 * ts0 i + 1) (128 * eg) (rchd cm) 64 / 128 = al ∧ ∀ b, bcost (fun i => 128 * fs0 i) (fun i => 128 * ts0 i + 1) (128 * eg) (rchd cm) 64 ≤ bcost (fun i => 128 * fs0 i) (fun i => 128 * ts0 i + 1) (128 * eg) b 64 := by
  have h0 := RC_closed h hN
  have hs := hA (rchd cm)
  have l1 := fb_ct_le (rchd cm) 64
  rw [bc_RC]
  refine ⟨by omega, fun T => ?_⟩
  rw [bc_RC]
  have ht := hA T
  rcases Nat.eq_zero_or_pos (RC fs ts tx T) with q | q
  · have hin := RC_in (BF_of h) q
    have := fb_ct_sub (p := rchd cm) (q := T) (n := 64) (fun c hc hr => hin _ c (Nat.lt_succ_self _) hc (rc_in.mp hr))
    omega
  · omega
/-- the way back from the end -/
def chn (cm : Nat → Int32) (e : Nat) : Nat → Nat
  | 0 => e
  | i + 1 => nbD (chn cm e i) (((cm (chn cm e i)).toNatClampNeg + 2) % 4)
theorem chn_s {cm : Nat → Int32} {e i c w b : Nat} (hc : c = chn cm e i) (hw : w < 4) (hcw : cm c = nI w) (hb : b < 64) (hE : nbE b w = true) (hD : nbD b w = c) : b = chn cm e (i + 1) := by
  show b = nbD (chn cm e i) _
  rw [← hc, hcw, nI_clamp (by omega)]
  have := (nb_back b hb w hw hE).2.2
  rw [hD] at this; exact this.symm
theorem BF_go {fs tx : Nat → Nat} {cm : Nat → Int32} {ps : Nat → Nat} (h : BF fs tx cm ps) {c : Nat} (hc : c < 64) (h1 : ¬ cm c = -1) (h4 : ¬ cm c = 4) : ∃ w b, w < 4 ∧ b < 64 ∧ cm c = nI w ∧ nbE b w = true ∧ nbD b w = c ∧ ¬ cm b = -1 ∧ ps b < ps c ∧ 0 < tx (4 * b + w) := (h c hc h1).resolve_left (fun z => h4 z.1)
theorem BF_src {fs tx : Nat → Nat} {cm : Nat → Int32} {ps : Nat → Nat} (h : BF fs tx cm ps) {c : Nat} (hc : c < 64) (h4 : cm c = 4) : 0 < fs c := by
  have h1 : ¬ cm c = -1 := by rw [h4]; decide
  rcases h c hc h1 with ⟨-, g⟩ | ⟨w, b, g1, g2, g3, -⟩
  · exact g
  · rw [h4] at g3
    have : w = 0 ∨ w = 1 ∨ w = 2 ∨ w = 3 := by omega
    rcases this with rfl | rfl | rfl | rfl <;> exact absurd g3 (by decide)
theorem nb_bk {b w c : Nat} (hb : b < 64) (hw : w < 4) (hE : nbE b w = true) (hD : nbD b w = c) : nbI c ((w + 2) % 4) = nI b := by
  obtain ⟨n1, n2, n3⟩ := nb_back b hb w hw hE
  rw [hD] at n2 n3
  rw [nbI_in n2, n3]
theorem hge_s {tx tx2 ps : Nat → Nat} {b c w : Nat} {v1 v2 : Nat} (h : ∀ x, x < 64 → ps x < ps c → ∀ u, u < 4 → tx (4 * x + u) ≤ tx2 (4 * x + u)) (hb : ps b < ps c) (hw : w < 4) : ∀ x, x < 64 → ps x < ps b → ∀ u, u < 4 → tx (4 * x + u) ≤ up (up tx2 (4 * b + w) v1) (4 * c + (w + 2) % 4) v2 (4 * x + u) := by
  intro x hx hp u hu
  have n1 : x ≠ b := fun z => by rw [z] at hp; omega
  have n2 : x ≠ c := fun z => by rw [z] at hp; omega
  have := Nat.mod_lt (w + 2) (show 0 < 4 by decide)
  rw [up_ne _ _ (by omega), up_ne _ _ (by omega)]
  exact h x hx (by omega) u hu
