/-! pure words of smoothing, and the fronts of the class -/
def bcost (z o : Nat → Nat) (ed : Nat) (b : Nat → Bool) : Nat → Nat
  | 0 => 0
  | n + 1 => bcost z o ed b n + (if b n = true then o n else z n) + (if n % 8 ≠ 0 ∧ b n ≠ b (n - 1) then ed else 0) + (if 8 ≤ n ∧ b n ≠ b (n - 8) then ed else 0)
theorem bcost_cong {z o : Nat → Nat} {ed : Nat} {b b' : Nat → Bool} : ∀ {n : Nat}, (∀ i, i < n → b i = b' i) → bcost z o ed b n = bcost z o ed b' n
  | 0, _ => rfl
  | n + 1, h => by
    have e := bcost_cong (z := z) (o := o) (ed := ed) (n := n) (fun i hi => h i (by omega))
    unfold bcost
    rw [e, h n (by omega), h (n - 1) (by omega), h (n - 8) (by omega)]
def lstb (b : Nat → Bool) (n x : Nat) : Bool := if x < n % 8 then b (8 * (n / 8) + x) else if 8 ≤ n then b (8 * (n / 8) - 8 + x) else false
theorem lstb_s (b : Nat → Bool) (n : Nat) {x : Nat} (hx : x < 8) : lstb b (n + 1) x = if x = n % 8 then b n else lstb b n x := by
  unfold lstb
  by_cases c : x = n % 8
  · rw [if_pos c]
    by_cases c7 : n % 8 = 7
    · rw [if_neg (by omega), if_pos (by omega)]; congr 1; omega
    · rw [if_pos (by omega)]; congr 1; omega
  · rw [if_neg c]
    by_cases c7 : n % 8 = 7
    · rw [if_neg (by omega), if_pos (by omega), if_pos (by omega)]; congr 1; omega
    · by_cases c2 : x < n % 8
      · rw [if_pos (by omega), if_pos c2]; congr 1; omega
      · rw [if_neg (by omega), if_neg c2]
        by_cases c8 : 8 ≤ n
        · rw [if_pos (by omega), if_pos c8]; congr 1; omega
        · rw [if_neg (by omega), if_neg c8]
theorem lstb_cong {b b' : Nat → Bool} {n x : Nat} (hx : x < 8) (h : ∀ i, i < n → b i = b' i) : lstb b n x = lstb b' n x := by
  unfold lstb
  split
  · exact h _ (by omega)
  · split
    · exact h _ (by omega)
    · rfl
abbrev tb (w : Nat) : Nat → Bool := fun i => w.testBit i
def frOk (b : Nat → Bool) (n f : Nat) : Prop := ∀ x, x < 8 → f.testBit x = lstb b n x
def SI (z o : Nat → Nat) (ed n : Nat) (cs w : Nat → Nat) : Prop := ∀ f, f < 256 →
  (∀ b, frOk b n f → cs f ≤ bcost z o ed b n) ∧
  ((∀ x, x < 8 → n ≤ x → f.testBit x = false) → cs f ≤ n * 40000 ∧ frOk (tb (w f)) n f ∧ bcost z o ed (tb (w f)) n = cs f ∧ w f < 2 ^ n) ∧
  ((∃ x, x < 8 ∧ n ≤ x ∧ f.testBit x = true) → 2 ^ 29 ≤ cs f ∧ cs f ≤ 2 ^ 29 + n * 40000)
def lfF (n f : Nat) : Bool := decide (n % 8 ≠ 0) && f.testBit (n % 8 - 1)
def abF (ed n : Nat) : Nat := if n < 8 then 0 else ed
def bsF (ed n : Nat) : Nat := if n % 8 = 0 then 0 else ed
def NSt (z o : Nat → Nat) (ed n : Nat) (cs w cs' w' : Nat → Nat) (f : Nat) : Prop :=
  cs' f = (if lfF n f = true then z n + bsF ed n else z n) + (if cs f ≤ cs (f ||| 2 ^ (n % 8)) + abF ed n then cs f else cs (f ||| 2 ^ (n % 8)) + abF ed n) ∧
  w' f = (if cs f ≤ cs (f ||| 2 ^ (n % 8)) + abF ed n then w f else w (f ||| 2 ^ (n % 8))) ∧
  cs' (f ||| 2 ^ (n % 8)) = (if lfF n f = true then o n else o n + bsF ed n) + (if cs f + abF ed n ≤ cs (f ||| 2 ^ (n % 8)) then cs f + abF ed n else cs (f ||| 2 ^ (n % 8))) ∧
  w' (f ||| 2 ^ (n % 8)) = (if cs f + abF ed n ≤ cs (f ||| 2 ^ (n % 8)) then w f else w (f ||| 2 ^ (n % 8))) ||| 2 ^ n
theorem or_lt {f j : Nat} (hf : f < 256) (hj : j < 8) : f ||| 2 ^ j < 256 := Nat.or_lt_two_pow (n := 8) hf (Nat.pow_lt_pow_right (by decide) hj)
theorem or_bit (f j x : Nat) : (f ||| 2 ^ j).testBit x = (f.testBit x || decide (x = j)) := fb_bit_set f j x
/-- every front is one without the bit, or with it -/
theorem fr_split {g j : Nat} (hg : g < 256) (hj : j < 8) : ∃ f, f < 256 ∧ f.testBit j = false ∧ (g = f ∨ g = f ||| 2 ^ j) ∧ (∀ x, x ≠ j → f.testBit x = g.testBit x) := by
  by_cases h : g.testBit j = true
  · refine ⟨g ^^^ 2 ^ j, ?_, ?_, Or.inr ?_, fun x hx => ?_⟩
    · exact Nat.xor_lt_two_pow (n := 8) hg (Nat.pow_lt_pow_right (by decide) hj)
    · rw [fb_bit_flip, h]; simp
    · apply Nat.eq_of_testBit_eq
      intro i
      rw [or_bit, fb_bit_flip]
      by_cases c : i = j
      · simp [c, h]
      · simp [c]
    · rw [fb_bit_flip]; simp [hx]
  · exact ⟨g, hg, by simpa using h, Or.inl rfl, fun _ _ => rfl⟩
theorem bcost_s {z o : Nat → Nat} {ed n : Nat} {b : Nat → Bool} : bcost z o ed b (n + 1) = bcost z o ed b n + (if b n = true then (if (n % 8 ≠ 0 ∧ b (n - 1) = true) then o n else o n + bsF ed n) else (if (n % 8 ≠ 0 ∧ b (n - 1) = true) then z n + bsF ed n else z n)) + (if 8 ≤ n ∧ b n ≠ b (n - 8) then ed else 0) := by
  show bcost z o ed b n + (if b n = true then o n else z n) + (if n % 8 ≠ 0 ∧ b n ≠ b (n - 1) then ed else 0) + _ = _
  congr 1
  unfold bsF
  by_cases c : n % 8 = 0
  · cases hb : b n <;> simp [c]
  · rw [if_neg c]
    cases hb : b n <;> cases hb1 : b (n - 1) <;> simp [c] <;> omega
theorem prev_bit {b : Nat → Bool} {n f : Nat} (h : ∀ x, x < 8 → x ≠ n % 8 → f.testBit x = lstb b n x) : (lfF n f = true) ↔ (n % 8 ≠ 0 ∧ b (n - 1) = true) := by
  unfold lfF
  by_cases c : n % 8 = 0
  · simp [c]
  · have e := h (n % 8 - 1) (by omega) (by omega)
    unfold lstb at e
    rw [if_pos (by omega), show 8 * (n / 8) + (n % 8 - 1) = n - 1 by omega] at e
    rw [e]; simp [c]
theorem above_bit (b : Nat → Bool) {n : Nat} (h : 8 ≤ n) : lstb b n (n % 8) = b (n - 8) := by
  unfold lstb
  rw [if_neg (by omega), if_pos h]; congr 1; omega
theorem SI_step {z o : Nat → Nat} {ed n : Nat} {cs w cs' w' : Nat → Nat} (h : SI z o ed n cs w) (hn : n < 64) (hz : z n ≤ 12801) (ho : o n ≤ 12801) (he : ed ≤ 12800) (hN : ∀ f, f < 256 → f.testBit (n % 8) = false → NSt z o ed n cs w cs' w' f) : SI z o ed (n + 1) cs' w' := by
  intro g hg
  have hj : n % 8 < 8 := Nat.mod_lt _ (by decide)
  obtain ⟨f, hf, hfj, hgf, hfx⟩ := fr_split hg hj
  obtain ⟨n1, n2, n3, n4⟩ := hN f hf hfj
  have hh := or_lt hf hj
  generalize eh : f ||| 2 ^ (n % 8) = q at n1 n2 n3 n4 hgf hh
  have hqx : ∀ x, x ≠ n % 8 → q.testBit x = f.testBit x := fun x hx => by rw [← eh, or_bit]; simp [hx]
  have hqj : q.testBit (n % 8) = true := by rw [← eh, or_bit]; simp
  have hbs : bsF ed n ≤ 12800 := by unfold bsF; split <;> omega
  have hab : abF ed n ≤ 12800 := by unfold abF; split <;> omega
  have If := h f hf
  have Iq := h q hh
  refine ⟨fun b hb => ?_, fun hr => ?_, fun hr => ?_⟩
  · -- no board is cheaper
    have hbx : ∀ x, x < 8 → x ≠ n % 8 → f.testBit x = lstb b n x := fun x hx hne => by
      rw [hfx x hne, hb x hx, lstb_s b n hx, if_neg hne]
    have hbn : g.testBit (n % 8) = b n := by rw [hb _ hj, lstb_s b n hj, if_pos rfl]
    have hl := prev_bit hbx
    have hc : (lstb b n (n % 8) = false ∧ cs f ≤ bcost z o ed b n) ∨ (lstb b n (n % 8) = true ∧ 8 ≤ n ∧ cs q ≤ bcost z o ed b n) := by
      cases hc : lstb b n (n % 8) with
      | false =>
        refine Or.inl ⟨rfl, If.1 b (fun x hx => ?_)⟩
        by_cases c : x = n % 8
        · rw [c, hfj, hc]
        · exact hbx x hx c
      | true =>
        refine Or.inr ⟨rfl, ?_, Iq.1 b (fun x hx => ?_)⟩
        · rcases Nat.lt_or_ge n 8 with z | z
          · unfold lstb at hc; rw [if_neg (by omega), if_neg (by omega)] at hc; cases hc
          · exact z
        · by_cases c : x = n % 8
          · rw [c, hqj, hc]
          · rw [hqx x c]; exact hbx x hx c
    rw [bcost_s]
    rcases hgf with rfl | rfl
    · have hbn' : b n = false := by rw [← hbn, hfj]
      rw [hbn', if_neg (by decide), n1]
      have e1 : (if lfF n g = true then z n + bsF ed n else z n) = (if n % 8 ≠ 0 ∧ b (n - 1) = true then z n + bsF ed n else z n) := by
        by_cases c : lfF n g = true
        · rw [if_pos c, if_pos (hl.mp c)]
        · rw [if_neg c, if_neg (fun z => c (hl.mpr z))]
      rw [e1]
      rcases hc with ⟨-, hc⟩ | ⟨hc1, hc2, hc⟩
      · have : (if cs g ≤ cs q + abF ed n then cs g else cs q + abF ed n) ≤ cs g := by split <;> omega
        omega
      · have : (if cs g ≤ cs q + abF ed n then cs g else cs q + abF ed n) ≤ cs q + abF ed n := by split <;> omega
        have ea : abF ed n = ed := by unfold abF; rw [if_neg (by omega)]
        rw [if_pos (c := 8 ≤ n ∧ false ≠ b (n - 8)) ⟨hc2, by rw [← above_bit b hc2, hc1]; decide⟩]
        omega
    · have hbn' : b n = true := by rw [← hbn, hqj]
      rw [hbn', if_pos rfl, n3]
      have e1 : (if lfF n f = true then o n else o n + bsF ed n) = (if n % 8 ≠ 0 ∧ b (n - 1) = true then o n else o n + bsF ed n) := by
        by_cases c : lfF n f = true
        · rw [if_pos c, if_pos (hl.mp c)]
        · rw [if_neg c, if_neg (fun z => c (hl.mpr z))]
      rw [e1]
      rcases hc with ⟨hc1, hc⟩ | ⟨hc1, hc2, hc⟩
      · have : (if cs f + abF ed n ≤ cs g then cs f + abF ed n else cs g) ≤ cs f + abF ed n := by split <;> omega
        by_cases c8 : 8 ≤ n
        · have ea : abF ed n = ed := by unfold abF; rw [if_neg (by omega)]
          rw [if_pos (c := 8 ≤ n ∧ true ≠ b (n - 8)) ⟨c8, by rw [← above_bit b c8, hc1]; decide⟩]
          omega
        · have ea : abF ed n = 0 := by unfold abF; rw [if_pos (by omega)]
          omega
      · have : (if cs f + abF ed n ≤ cs g then cs f + abF ed n else cs g) ≤ cs g := by split <;> omega
        omega
  · -- a front that there is
    have hrf : ∀ x, x < 8 → n ≤ x → f.testBit x = false := fun x hx hnx => by
      by_cases c : x = n % 8
      · rw [c]; exact hfj
      · rw [hfx x c]; exact hr x hx (by omega)
    obtain ⟨f1, f2, f3, f4⟩ := If.2.1 hrf
    -- the marks behind one more cell
    have key : ∀ (src W : Nat) (bit : Bool), frOk (tb (w src)) n src → bcost z o ed (tb (w src)) n = cs src → w src < 2 ^ n → (∀ x, x ≠ n % 8 → src.testBit x = f.testBit x) → g.testBit (n % 8) = bit → W = (if bit = true then w src ||| 2 ^ n else w src) →
        frOk (tb W) (n + 1) g ∧ bcost z o ed (tb W) (n + 1) = cs src + (if bit = true then (if lfF n f = true then o n else o n + bsF ed n) else (if lfF n f = true then z n + bsF ed n else z n)) + (if 8 ≤ n ∧ bit ≠ src.testBit (n % 8) then ed else 0) ∧ W < 2 ^ (n + 1) := by
      intro src W bit k1 k2 k3 k4 k5 k6
      have hlow : ∀ i, i < n → tb W i = tb (w src) i := fun i hi => by
        rw [k6]; unfold tb; split
        · rw [or_bit]; simp [show i ≠ n by omega]
        · rfl
      have hWn : tb W n = bit := by
        rw [k6]; unfold tb
        cases bit with
        | true => rw [if_pos rfl, or_bit]; simp
        | false => rw [if_neg (by decide)]; exact Nat.testBit_lt_two_pow k3
      have hpx : ∀ x, x < 8 → x ≠ n % 8 → f.testBit x = lstb (tb W) n x := fun x hx hne => by
        rw [← k4 x hne, k1 x hx]; exact lstb_cong hx (fun i hi => (hlow i hi).symm)
      have hl := prev_bit hpx
      refine ⟨fun x hx => ?_, ?_, ?_⟩
      · rw [lstb_s _ n hx]
        by_cases c : x = n % 8
        · rw [if_pos c, c, hWn, k5]
        · rw [if_neg c, ← hpx x hx c, hfx x c]
      · rw [bcost_s, bcost_cong hlow, k2, hWn]
        have e1 : (if n % 8 ≠ 0 ∧ tb W (n - 1) = true then o n else o n + bsF ed n) = (if lfF n f = true then o n else o n + bsF ed n) := by
          by_cases c : lfF n f = true
          · rw [if_pos c, if_pos (hl.mp c)]
          · rw [if_neg c, if_neg (fun z => c (hl.mpr z))]
        have e2 : (if n % 8 ≠ 0 ∧ tb W (n - 1) = true then z n + bsF ed n else z n) = (if lfF n f = true then z n + bsF ed n else z n) := by
          by_cases c : lfF n f = true
          · rw [if_pos c, if_pos (hl.mp c)]
          · rw [if_neg c, if_neg (fun z => c (hl.mpr z))]
        rw [e1, e2]
        by_cases c8 : 8 ≤ n
        · have : tb W (n - 8) = src.testBit (n % 8) := by
            rw [hlow _ (by omega), ← above_bit (tb (w src)) c8, ← k1 _ hj]
          rw [this]
        · congr 1
          rw [if_neg (c := 8 ≤ n ∧ _) (fun z => c8 z.1), if_neg (c := 8 ≤ n ∧ _) (fun z => c8 z.1)]
      · rw [k6]; split
        · exact Nat.or_lt_two_pow (Nat.lt_of_lt_of_le k3 (Nat.pow_le_pow_right (by decide) (by omega))) (Nat.pow_lt_pow_right (by decide) (by omega))
        · exact Nat.lt_of_lt_of_le k3 (Nat.pow_le_pow_right (by decide) (by omega))
    have big : n < 8 → 2 ^ 29 ≤ cs q := fun h8 => (Iq.2.2 ⟨n % 8, hj, by omega, hqj⟩).1
    have qok : ¬ n < 8 → cs q ≤ n * 40000 ∧ frOk (tb (w q)) n q ∧ bcost z o ed (tb (w q)) n = cs q ∧ w q < 2 ^ n := fun h8 => Iq.2.1 (fun x hx hnx => by omega)
    rcases hgf with rfl | rfl
    · -- mark 0
      by_cases c : cs g ≤ cs q + abF ed n
      · obtain ⟨r1, r2, r3⟩ := key g (w' g) false f2 f3 f4 (fun _ _ => rfl) hfj (by rw [n2, if_pos c]; rfl)
        rw [n1, if_pos c]
        rw [if_neg (by decide), if_neg (c := 8 ≤ n ∧ false ≠ g.testBit (n % 8)) (fun z => z.2 hfj.symm)] at r2
        refine ⟨?_, r1, by omega, r3⟩
        have : (if lfF n g = true then z n + bsF ed n else z n) ≤ 25601 := by split <;> omega
        omega
      · have h8 : ¬ n < 8 := fun z => by have := big z; omega
        obtain ⟨q1, q2, q3, q4⟩ := qok h8
        obtain ⟨r1, r2, r3⟩ := key q (w' g) false q2 q3 q4 hqx hfj (by rw [n2, if_neg c]; rfl)
        have ea : abF ed n = ed := by unfold abF; rw [if_neg h8]
        rw [n1, if_neg c]
        rw [if_neg (by decide), if_pos (c := 8 ≤ n ∧ false ≠ q.testBit (n % 8)) ⟨by omega, by rw [hqj]; decide⟩] at r2
        refine ⟨?_, r1, by omega, r3⟩
        have : (if lfF n g = true then z n + bsF ed n else z n) ≤ 25601 := by split <;> omega
        omega
    · -- mark 1
      by_cases c : cs f + abF ed n ≤ cs g
      · obtain ⟨r1, r2, r3⟩ := key f (w' g) true f2 f3 f4 (fun _ _ => rfl) hqj (by rw [n4, if_pos c]; rfl)
        rw [n3, if_pos c]
        rw [if_pos rfl] at r2
        have ea : (if 8 ≤ n ∧ true ≠ f.testBit (n % 8) then ed else 0) = abF ed n := by
          unfold abF
          by_cases h8 : n < 8
          · rw [if_pos h8, if_neg (fun z => by omega)]
          · rw [if_neg h8, if_pos ⟨by omega, by rw [hfj]; decide⟩]
        refine ⟨?_, r1, by omega, r3⟩
        have : (if lfF n f = true then o n else o n + bsF ed n) ≤ 25601 := by split <;> omega
        omega
      · have h8 : ¬ n < 8 := fun z => by
          have := big z
          have : abF ed n = 0 := by unfold abF; rw [if_pos z]
          omega
        obtain ⟨q1, q2, q3, q4⟩ := qok h8
        obtain ⟨r1, r2, r3⟩ := key g (w' g) true q2 q3 q4 hqx hqj (by rw [n4, if_neg c]; rfl)
        rw [n3, if_neg c]
        rw [if_pos rfl, if_neg (c := 8 ≤ n ∧ true ≠ g.testBit (n % 8)) (fun z => z.2 hqj.symm)] at r2
        refine ⟨?_, r1, by omega, r3⟩
        have : (if lfF n f = true then o n else o n + bsF ed n) ≤ 25601 := by split <;> omega
        omega
  · -- a front that isn't yet
    obtain ⟨x, hx, hnx, hgx⟩ := hr
    have hxj : x ≠ n % 8 := by omega
    have hfb := If.2.2 ⟨x, hx, by omega, by rw [hfx x hxj]; exact hgx⟩
    have hqb := Iq.2.2 ⟨x, hx, by omega, by rw [hqx x hxj, hfx x hxj]; exact hgx⟩
    have ea : abF ed n = 0 := by unfold abF; rw [if_pos (by omega)]
    rcases hgf with rfl | rfl
    · rw [n1]
      have h1 : (if lfF n g = true then z n + bsF ed n else z n) ≤ 25601 := by split <;> omega
      have h2 : 2 ^ 29 ≤ (if cs g ≤ cs q + abF ed n then cs g else cs q + abF ed n) ∧ (if cs g ≤ cs q + abF ed n then cs g else cs q + abF ed n) ≤ 2 ^ 29 + n * 40000 := by rw [ea]; split <;> omega
      constructor <;> omega
    · rw [n3]
      have h1 : (if lfF n f = true then o n else o n + bsF ed n) ≤ 25601 := by split <;> omega
      have h2 : 2 ^ 29 ≤ (if cs f + abF ed n ≤ cs g then cs f + abF ed n else cs g) ∧ (if cs f + abF ed n ≤ cs g then cs f + abF ed n else cs g) ≤ 2 ^ 29 + n * 40000 := by rw [ea]; split <;> omega
      constructor <;> omega
theorem SI_0 {z o : Nat → Nat} {ed : Nat} {cs w : Nat → Nat} (h0 : cs 0 = 0) (hw : w 0 = 0) (h1 : ∀ f, f < 256 → f ≠ 0 → cs f = 2 ^ 29) : SI z o ed 0 cs w := by
  intro f hf
  by_cases c : f = 0
  · subst c
    refine ⟨fun b _ => by rw [h0]; exact Nat.zero_le _, fun _ => ⟨by rw [h0]; exact Nat.zero_le _, fun x hx => ?_, by rw [h0]; rfl, by rw [hw]; decide⟩, fun ⟨x, _, _, hx⟩ => by rw [Nat.zero_testBit] at hx; cases hx⟩
    rw [Nat.zero_testBit]; rfl
  · have hne : ∃ x, x < 8 ∧ 0 ≤ x ∧ f.testBit x = true := by
      obtain ⟨x, hx⟩ := Nat.exists_testBit_of_ne_zero c
      refine ⟨x, ?_, Nat.zero_le _, hx⟩
      rcases Nat.lt_or_ge x 8 with q | q
      · exact q
      · rw [Nat.testBit_lt_two_pow (Nat.lt_of_lt_of_le hf (Nat.pow_le_pow_right (n := 2) (by decide) q))] at hx; cases hx
    refine ⟨fun b hb => ?_, fun hr => ?_, fun _ => by rw [h1 f hf c]; omega⟩
    · obtain ⟨x, hx, -, hxt⟩ := hne
      have := hb x hx
      rw [hxt] at this
      cases this
    · obtain ⟨x, hx, -, hxt⟩ := hne
      rw [hr x hx (Nat.zero_le _)] at hxt; cases hxt
/-- the front of a board -/
theorem fr_of (b : Nat → Bool) (n : Nat) : ∃ f, f < 256 ∧ frOk b n f := by
  have key : ∀ m, m ≤ 8 → ∃ f, f < 2 ^ m ∧ ∀ x, x < m → f.testBit x = lstb b n x := by
    intro m
    induction m with
    | zero => exact fun _ => ⟨0, by decide, fun x hx => absurd hx (Nat.not_lt_zero _)⟩
    | succ m ih =>
      intro hm
      obtain ⟨f, hf, hx⟩ := ih (by omega)
      cases hb : lstb b n m with
      | false =>
        refine ⟨f, Nat.lt_of_lt_of_le hf (Nat.pow_le_pow_right (by decide) (by omega)), fun x hxm => ?_⟩
        rcases Nat.lt_succ_iff_lt_or_eq.mp hxm with q | q
        · exact hx x q
        · rw [q, hb]; exact Nat.testBit_lt_two_pow hf
      | true =>
        refine ⟨f ||| 2 ^ m, Nat.or_lt_two_pow (Nat.lt_of_lt_of_le hf (Nat.pow_le_pow_right (by decide) (by omega))) (Nat.pow_lt_pow_right (by decide) (by omega)), fun x hxm => ?_⟩
        rw [or_bit]
        rcases Nat.lt_succ_iff_lt_or_eq.mp hxm with q | q
        · rw [hx x q]; simp [show x ≠ m by omega]
        · rw [q, hb]; simp
  obtain ⟨f, hf, hx⟩ := key 8 (Nat.le_refl _)
  exact ⟨f, hf, hx⟩
theorem SI_end {z o : Nat → Nat} {ed : Nat} {cs w : Nat → Nat} (h : SI z o ed 64 cs w) {be : Nat} (hbe : be < 256) (hm : ∀ f, f < 256 → cs be ≤ cs f) : w be < 2 ^ 64 ∧ bcost z o ed (tb (w be)) 64 = cs be ∧ ∀ b, bcost z o ed (tb (w be)) 64 ≤ bcost z o ed b 64 := by
  obtain ⟨-, h2, -⟩ := h be hbe
  obtain ⟨-, -, k3, k4⟩ := h2 (fun x hx hn => by omega)
  refine ⟨k4, k3, fun b => ?_⟩
  obtain ⟨f, hf, hb⟩ := fr_of b 64
  have := (h f hf).1 b hb
  have := hm f hf
  omega
