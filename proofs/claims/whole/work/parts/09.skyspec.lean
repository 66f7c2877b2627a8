/-! pure words of the sky: readings, clouds, shadows, features -/
theorem i32_ext {x y : Int32} (h : x.toInt = y.toInt) : x = y := (fa_eq x y).mpr h
theorem i32_neg_iff (x : Int32) : x < 0 ↔ x.toInt < 0 := by
  rw [Int32.lt_iff_toInt_lt]; rfl
theorem i32_nonneg_iff (x : Int32) : 0 ≤ x ↔ 0 ≤ x.toInt := by
  rw [Int32.le_iff_toInt_le]; rfl
theorem xor_neg (x y : Int32) (hy : 0 ≤ y.toInt) : (x ^^^ y).toInt < 0 ↔ x.toInt < 0 := by
  have h1 : (x ^^^ y).toBitVec.msb = (x.toBitVec.msb ^^ y.toBitVec.msb) := by
    rw [Int32.toBitVec_xor, BitVec.msb_xor]
  have h2 : y.toBitVec.msb = false := by
    rw [BitVec.msb_eq_toInt]
    exact decide_eq_false (by show ¬ y.toInt < 0; omega)
  rw [h2, Bool.xor_false, BitVec.msb_eq_toInt, BitVec.msb_eq_toInt] at h1
  exact decide_eq_decide.mp h1
def flD (x y : Int32) : Int32 := Int32.ofInt (x.toInt / y.toInt)
theorem dv_main {x y : Int32} (h1 : -1000000 ≤ x.toInt) (h2 : x.toInt ≤ 1000000) (hy : 0 < y.toInt) :
    ∃ q r : Int, (x / y).toInt = q ∧ q * y.toInt + r = x.toInt ∧ -y.toInt < r ∧ r < y.toInt ∧ (0 ≤ x.toInt → 0 ≤ r) ∧ (x.toInt ≤ 0 → r ≤ 0) ∧ -1000000 ≤ q * y.toInt ∧ q * y.toInt ≤ 1000000 ∧ -1000000 ≤ q ∧ q ≤ 1000000 := by
  have e := Int.mul_tdiv_add_tmod x.toInt y.toInt
  have hb := tmod_bounds (a := x.toInt) hy
  have hp : 0 ≤ x.toInt → 0 ≤ x.toInt.tmod y.toInt := fun h => Int.tmod_nonneg _ h
  have hn : x.toInt ≤ 0 → x.toInt.tmod y.toInt ≤ 0 := fun h => by
    have := Int.tmod_nonneg (a := -x.toInt) y.toInt (by omega)
    rw [Int.neg_tmod] at this
    omega
  have c : y.toInt * x.toInt.tdiv y.toInt = x.toInt.tdiv y.toInt * y.toInt := Int.mul_comm _ _
  have hq1 : -1000000 ≤ x.toInt.tdiv y.toInt ∧ x.toInt.tdiv y.toInt ≤ 1000000 := by
    rcases Int.le_total 0 x.toInt with h0 | h0
    · have a1 := Int.tdiv_nonneg h0 (Int.le_of_lt hy)
      have a2 := Int.tdiv_le_self (a := x.toInt) y.toInt h0
      omega
    · have a1 := Int.tdiv_nonneg (a := -x.toInt) (b := y.toInt) (by omega) (Int.le_of_lt hy)
      have a2 := Int.tdiv_le_self (a := -x.toInt) y.toInt (by omega)
      rw [Int.neg_tdiv] at a1 a2
      omega
  refine ⟨x.toInt.tdiv y.toInt, x.toInt.tmod y.toInt, ?_, by omega, hb.1, hb.2, hp, hn, ?_, ?_, hq1.1, hq1.2⟩
  · rw [Int32.toInt_div]
    exact fb_bmod (by omega) (by omega)
  · rcases Int.le_total 0 x.toInt with h0 | h0
    · have := hp h0
      have := Int.mul_nonneg (Int.tdiv_nonneg h0 (Int.le_of_lt hy)) (Int.le_of_lt hy)
      omega
    · have := hn h0; omega
  · rcases Int.le_total 0 x.toInt with h0 | h0
    · have := hp h0; omega
    · have a1 := Int.tdiv_nonneg (a := -x.toInt) (b := y.toInt) (by omega) (Int.le_of_lt hy)
      rw [Int.neg_tdiv] at a1
      have a2 := Int.mul_nonneg a1 (Int.le_of_lt hy)
      rw [Int.neg_mul] at a2
      omega
theorem flD_toInt {x y : Int32} (h1 : -1000000 ≤ x.toInt) (h2 : x.toInt ≤ 1000000) (hy : 0 < y.toInt) {q : Int} (h : q * y.toInt ≤ x.toInt) (h3 : x.toInt < q * y.toInt + y.toInt) (hq : -2147483648 ≤ q) (hq2 : q < 2147483648) : (flD x y).toInt = q := by
  unfold flD
  rw [(Int.ediv_eq_iff_of_pos hy).mpr ⟨h, h3⟩]
  exact fb_ofI hq hq2
theorem dv_mul {x y : Int32} {q : Int} (e : (x / y).toInt = q) (h : -1000000 ≤ q * y.toInt) (h2 : q * y.toInt ≤ 1000000) : (x / y * y).toInt = q * y.toInt := by
  rw [fb_mulI (by rw [e]; omega) (by rw [e]; omega), e]
/-- Math.floorDiv's three ends -/
theorem fd_a {x y : Int32} (h1 : -1000000 ≤ x.toInt) (h2 : x.toInt ≤ 1000000) (hy : 0 < y.toInt) (h : 0 ≤ x ^^^ y) : x / y = flD x y := by
  obtain ⟨q, r, e1, e2, e3, e4, e5, e6, e7, e8, e9, e10⟩ := dv_main h1 h2 hy
  have hx : 0 ≤ x.toInt := by
    have h' := (i32_nonneg_iff _).mp h
    have := xor_neg x y (by omega)
    omega
  have := e5 hx
  apply i32_ext
  rw [flD_toInt (q := q) h1 h2 hy (by omega) (by omega) (by omega) (by omega), e1]
theorem fd_b {x y : Int32} (h1 : -1000000 ≤ x.toInt) (h2 : x.toInt ≤ 1000000) (hy : 0 < y.toInt) (h : x / y * y = x) : x / y = flD x y := by
  obtain ⟨q, r, e1, e2, e3, e4, e5, e6, e7, e8, e9, e10⟩ := dv_main h1 h2 hy
  have hm := dv_mul e1 e7 e8
  rw [h] at hm
  apply i32_ext
  rw [flD_toInt (q := q) h1 h2 hy (by omega) (by omega) (by omega) (by omega), e1]
theorem fd_c {x y : Int32} (h1 : -1000000 ≤ x.toInt) (h2 : x.toInt ≤ 1000000) (hy : 0 < y.toInt) (h : ¬ 0 ≤ x ^^^ y) (h3 : ¬ x / y * y = x) : x / y - 1 = flD x y := by
  obtain ⟨q, r, e1, e2, e3, e4, e5, e6, e7, e8, e9, e10⟩ := dv_main h1 h2 hy
  have hx : x.toInt < 0 := by
    have h' : ¬ 0 ≤ (x ^^^ y).toInt := fun z => h ((i32_nonneg_iff _).mpr z)
    have := xor_neg x y (by omega)
    omega
  have hm := dv_mul e1 e7 e8
  have hr : r ≠ 0 := fun z => h3 (i32_ext (by rw [hm]; omega))
  have := e6 (by omega)
  have e1' : (1 : Int32).toInt = 1 := rfl
  have hs : (q - 1) * y.toInt = q * y.toInt - y.toInt := by rw [Int.sub_mul, Int.one_mul]
  apply i32_ext
  rw [flD_toInt (q := q - 1) h1 h2 hy (by omega) (by omega) (by omega) (by omega), fb_subI (by rw [e1, e1']; omega) (by rw [e1, e1']; omega), e1, e1']
/-- the reference's own division's two ends -/
theorem fd_m1 {x y : Int32} (h1 : -1000000 ≤ x.toInt) (h2 : x.toInt ≤ 1000000) (hy : 0 < y.toInt) (h : x < x / y * y) : x / y - 1 = flD x y := by
  obtain ⟨q, r, e1, e2, e3, e4, e5, e6, e7, e8, e9, e10⟩ := dv_main h1 h2 hy
  have hm := dv_mul e1 e7 e8
  rw [fa_lt, hm] at h
  have e1' : (1 : Int32).toInt = 1 := rfl
  have hs : (q - 1) * y.toInt = q * y.toInt - y.toInt := by rw [Int.sub_mul, Int.one_mul]
  apply i32_ext
  rw [flD_toInt (q := q - 1) h1 h2 hy (by omega) (by omega) (by omega) (by omega), fb_subI (by rw [e1, e1']; omega) (by rw [e1, e1']; omega), e1, e1']
theorem fd_m2 {x y : Int32} (h1 : -1000000 ≤ x.toInt) (h2 : x.toInt ≤ 1000000) (hy : 0 < y.toInt) (h : ¬ x < x / y * y) : x / y = flD x y := by
  obtain ⟨q, r, e1, e2, e3, e4, e5, e6, e7, e8, e9, e10⟩ := dv_main h1 h2 hy
  have hm := dv_mul e1 e7 e8
  rw [fa_lt, hm] at h
  apply i32_ext
  rw [flD_toInt (q := q) h1 h2 hy (by omega) (by omega) (by omega) (by omega), e1]
/-- readings: NONE or 0 to 1000 -/
theorem okR_rng (x : Int32) : okR x = -1 ∨ (0 ≤ (okR x).toInt ∧ (okR x).toInt ≤ 1000) := by
  unfold okR
  by_cases h : x < 0
  · rw [if_pos h]; exact Or.inl rfl
  · rw [if_neg h]
    by_cases h2 : 1000 < x
    · rw [if_pos h2]; exact Or.inl rfl
    · rw [if_neg h2]
      rw [fa_lt] at h h2
      have e0 : (0 : Int32).toInt = 0 := rfl
      have e1 : (1000 : Int32).toInt = 1000 := rfl
      exact Or.inr ⟨by omega, by omega⟩
theorem rdC_rng (it : Nat → Int32) (sz : Nat → Nat) (d b k : Nat) : rdC it sz d b k = -1 ∨ (0 ≤ (rdC it sz d b k).toInt ∧ (rdC it sz d b k).toInt ≤ 1000) := by
  unfold rdC
  split
  · exact okR_rng _
  · exact Or.inl rfl
def gnF (lo hi : Int32) : Int32 := if hi + lo = 0 then 0 else flD (1000 * (hi - lo)) (hi + lo)
def ftF (rd : Nat → Nat → Nat → Int32) (d k f : Nat) : Int32 := if f < 3 then rd d f k else gnF (rd d 1 k) (rd d 2 k)
def hit (rd0 : Nat → Int32) (br : Int32) (x y : Nat) (sx sy : Int) (j : Nat) : Bool := decide (0 ≤ (x : Int) - j * sx ∧ (x : Int) - j * sx ≤ 7 ∧ 0 ≤ (y : Int) - j * sy ∧ (y : Int) - j * sy ≤ 7 ∧ br < rd0 (8 * ((y : Int) - j * sy).toNat + ((x : Int) - j * sx).toNat))
def shB (rd0 : Nat → Int32) (br : Int32) (x y : Nat) (sx sy : Int) : Nat → Bool
  | 0 => false
  | n + 1 => shB rd0 br x y sx sy n || hit rd0 br x y sx sy (n + 1)
abbrev shP (rd : Nat → Nat → Nat → Int32) (br : Int32) (hi : Nat) (sx sy : Nat → Int32) (d k : Nat) : Prop := ¬ (sx d = 0 ∧ sy d = 0) ∧ shB (rd d 0) br (k % 8) (k / 8) (sx d).toInt (sy d).toInt hi = true
def skyF (rd : Nat → Nat → Nat → Int32) (br : Int32) (hi : Nat) (sx sy : Nat → Int32) (d k : Nat) : Nat := if rd d 0 k = -1 ∨ rd d 1 k = -1 ∨ rd d 2 k = -1 then 0 else if br < rd d 0 k then 1 else if shP rd br hi sx sy d k then 2 else 3
theorem skyF_lt (rd : Nat → Nat → Nat → Int32) (br : Int32) (hi : Nat) (sx sy : Nat → Int32) (d k : Nat) : skyF rd br hi sx sy d k < 4 := by
  unfold skyF; repeat (first | omega | split)
theorem shB_mono {rd0 : Nat → Int32} {br : Int32} {x y : Nat} {sx sy : Int} {n m : Nat} (h : shB rd0 br x y sx sy n = true) (hm : n ≤ m) : shB rd0 br x y sx sy m = true := by
  induction m with
  | zero => have : n = 0 := by omega
            subst this; exact h
  | succ m ih =>
    rcases Nat.lt_or_ge n (m + 1) with q | q
    · unfold shB; rw [ih (by omega)]; rfl
    · have : n = m + 1 := by omega
      subst this; exact h
theorem off_stays {x : Nat} {s : Int} {t j : Nat} (hx : x ≤ 7) (htj : t ≤ j) (h : (x : Int) - t * s < 0 ∨ 7 < (x : Int) - t * s) : (x : Int) - j * s < 0 ∨ 7 < (x : Int) - j * s := by
  have e : (j : Int) * s = t * s + ((j - t : Nat) : Int) * s := by
    rw [← Int.add_mul]; congr 1; omega
  rcases Int.le_total 0 s with hs | hs
  · have h1 : 0 ≤ ((j - t : Nat) : Int) * s := Int.mul_nonneg (by omega) hs
    have h2 : 0 ≤ (t : Int) * s := Int.mul_nonneg (by omega) hs
    left; omega
  · have h1 : ((j - t : Nat) : Int) * s ≤ 0 := Int.mul_nonpos_of_nonneg_of_nonpos (by omega) hs
    have h2 : (t : Int) * s ≤ 0 := Int.mul_nonpos_of_nonneg_of_nonpos (by omega) hs
    right; omega
theorem sh_off {rd0 : Nat → Int32} {br : Int32} {x y : Nat} {sx sy : Int} {t : Nat} (hx : x ≤ 7) (hy : y ≤ 7) (h0 : shB rd0 br x y sx sy t = false) (h : ((x : Int) - (t + 1 : Nat) * sx < 0 ∨ 7 < (x : Int) - (t + 1 : Nat) * sx) ∨ ((y : Int) - (t + 1 : Nat) * sy < 0 ∨ 7 < (y : Int) - (t + 1 : Nat) * sy)) : ∀ m, shB rd0 br x y sx sy m = false := by
  intro m
  induction m with
  | zero => rfl
  | succ m ih =>
    rcases Nat.lt_or_ge m t with q | q
    · cases hc : shB rd0 br x y sx sy (m + 1) with
      | false => rfl
      | true => have := shB_mono hc (show m + 1 ≤ t by omega); rw [h0] at this; cases this
    · unfold shB
      rw [ih, Bool.false_or]
      unfold hit
      apply decide_eq_false
      intro z
      rcases h with h | h
      · have := off_stays hx (show t + 1 ≤ m + 1 by omega) h; omega
      · have := off_stays hy (show t + 1 ≤ m + 1 by omega) h; omega
theorem skyF_miss {rd : Nat → Nat → Nat → Int32} {br : Int32} {hi : Nat} {sx sy : Nat → Int32} {d k i : Nat} (h : i < 3) (h1 : rd d i k = -1) : skyF rd br hi sx sy d k = 0 := by
  unfold skyF
  have : i = 0 ∨ i = 1 ∨ i = 2 := by omega
  rcases this with rfl | rfl | rfl
  · rw [if_pos (Or.inl h1)]
  · rw [if_pos (Or.inr (Or.inl h1))]
  · rw [if_pos (Or.inr (Or.inr h1))]
theorem skyF_has {rd : Nat → Nat → Nat → Int32} {br : Int32} {hi : Nat} {sx sy : Nat → Int32} {d k : Nat} (h : ∀ i, i < 3 → ¬ rd d i k = -1) : skyF rd br hi sx sy d k = if br < rd d 0 k then 1 else if shP rd br hi sx sy d k then 2 else 3 := by
  unfold skyF
  rw [if_neg]
  rintro (q | q | q)
  · exact h 0 (by decide) q
  · exact h 1 (by decide) q
  · exact h 2 (by decide) q
theorem skyF_clear {rd : Nat → Nat → Nat → Int32} {br : Int32} {hi : Nat} {sx sy : Nat → Int32} {d k : Nat} (h : skyF rd br hi sx sy d k = 3) : ∀ i, i < 3 → ¬ rd d i k = -1 := by
  intro i hi h1
  rw [skyF_miss hi h1] at h
  exact absurd h (by decide)
abbrev stepOk (sx : Nat → Int32) : Prop := ∀ d, d < 6 → -2 ≤ (sx d).toInt ∧ (sx d).toInt ≤ 2
def okSky (sz : Nat → Nat) (sx sy : Nat → Int32) (hi : Nat) : Prop := (∀ r, r < 18 → sz r ≤ 64) ∧ stepOk sx ∧ stepOk sy ∧ hi ≤ 4
theorem step_sub {X s : Int32} {z : Int} (h : X.toInt = z) (h1 : 0 ≤ z) (h2 : z ≤ 7) (hs : -2 ≤ s.toInt ∧ s.toInt ≤ 2) : (X - s).toInt = z - s.toInt := by
  rw [fb_subI (by omega) (by omega), h]
theorem rg_toInt {x : Int32} (h : rg x 0 7) : 0 ≤ x.toInt ∧ x.toInt ≤ 7 := by
  obtain ⟨k, hk, e⟩ := rg_nat h (n := 7) rfl
  rw [e, nI_toInt (by omega)]; omega
theorem nrg_toInt {x : Int32} (h : ¬ rg x 0 7) : x.toInt < 0 ∨ 7 < x.toInt := by
  rcases Int.lt_or_le x.toInt 0 with q | q
  · exact Or.inl q
  · rcases Int.lt_or_le 7 x.toInt with q2 | q2
    · exact Or.inr q2
    · exact absurd ⟨fun z => by have := (i32_neg_iff x).mp z; omega, fun z => by rw [fa_lt] at z; have e : (7 : Int32).toInt = 7 := rfl; omega⟩ h
