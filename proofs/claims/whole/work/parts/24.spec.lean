/-! what each call answers, and what it leaves: the words that both sides are tied to -/
abbrev RS : Type := (Nat → Int32) × (Nat → Int32) × (Nat → Nat) × Int32
abbrev tn' (x : Int32) : Nat := x.toNatClampNeg
def reelA (x y v : Int32) : Int32 := if rg x 0 17 then (if rg y 0 2 then (if v ≤ 64 then (if 0 ≤ v then v else -10 - 5) else -2000) else -2000) else -2000
def reelN (S : RS) (x y v : Int32) : RS := if rg x 0 17 then (if rg y 0 2 then (if v ≤ 64 then (if 0 ≤ v then (fillF S.1 (64 * tn' x) (64 * tn' x + tn' v) 0, up S.2.1 (tn' x) y, up S.2.2.1 (tn' x) (tn' v), S.2.2.2) else (S.1, S.2.1, S.2.2.1, 5)) else S) else S) else S
def loseA (S : RS) (x : Int32) : Int32 := if rg x 0 17 then (if S.2.1 (tn' x) = -1 then -10 - 1 else nI (S.2.2.1 (tn' x))) else -2000
def loseN (S : RS) (x : Int32) : RS := if rg x 0 17 then (if S.2.1 (tn' x) = -1 then (S.1, S.2.1, S.2.2.1, 1) else (S.1, up S.2.1 (tn' x) (-1), up S.2.2.1 (tn' x) 0, S.2.2.2)) else S
def putA (S : RS) (x y i : Int32) : Int32 := if rg x 0 17 then (if rg y 0 2 then (if flawI S.2.1 S.2.2.1 (tn' x) y i = 0 then 1 else -10 - flawI S.2.1 S.2.2.1 (tn' x) y i) else -2000) else -2000
def putN (S : RS) (x y i v : Int32) : RS := if rg x 0 17 then (if rg y 0 2 then (if flawI S.2.1 S.2.2.1 (tn' x) y i = 0 then (fillF S.1 (64 * tn' x + tn' i) (64 * tn' x + (tn' i + 1)) (fit (S.2.1 (tn' x)) v), S.2.1, S.2.2.1, S.2.2.2) else (S.1, S.2.1, S.2.2.1, flawI S.2.1 S.2.2.1 (tn' x) y i)) else S) else S
def getA (S : RS) (x y i : Int32) : Int32 := if rg x 0 17 then (if rg y 0 2 then (if flawI S.2.1 S.2.2.1 (tn' x) y i = 0 then S.1 (64 * tn' x + tn' i) else -2147483648) else -2147483648) else -2147483648
def getN (S : RS) (x y i : Int32) : RS := if rg x 0 17 then (if rg y 0 2 then (if flawI S.2.1 S.2.2.1 (tn' x) y i = 0 then S else (S.1, S.2.1, S.2.2.1, flawI S.2.1 S.2.2.1 (tn' x) y i)) else S) else S
def copyA (S : RS) (x i y j k : Int32) : Int32 := if rg x 0 17 then (if rg y 0 17 then (if flawM S.2.1 S.2.2.1 (tn' x) i (tn' y) j k = 0 then 1 else -10 - flawM S.2.1 S.2.2.1 (tn' x) i (tn' y) j k) else -2000) else -2000
def copyN (S : RS) (x i y j k : Int32) : RS := if rg x 0 17 then (if rg y 0 17 then (if flawM S.2.1 S.2.2.1 (tn' x) i (tn' y) j k = 0 then (va_cpy S.1 S.1 (64 * tn' x + tn' i) (64 * tn' y + tn' j) (tn' k), S.2.1, S.2.2.1, S.2.2.2) else (S.1, S.2.1, S.2.2.1, flawM S.2.1 S.2.2.1 (tn' x) i (tn' y) j k)) else S) else S
def paintA (S : RS) (x i j : Int32) : Int32 := if rg x 0 17 then (if i < 0 then -2000 else if j < i then -2000 else if j < 64 then (if S.2.1 (tn' x) = -1 then -10 - 1 else if j < nI (S.2.2.1 (tn' x)) then j - i + 1 else -10 - 2) else -2000) else -2000
def paintN (S : RS) (x i j v : Int32) : RS := if rg x 0 17 then (if i < 0 then S else if j < i then S else if j < 64 then (if S.2.1 (tn' x) = -1 then (S.1, S.2.1, S.2.2.1, 1) else if j < nI (S.2.2.1 (tn' x)) then (fillF S.1 (64 * tn' x + tn' i) (64 * tn' x + (tn' j + 1)) (fit (S.2.1 (tn' x)) v), S.2.1, S.2.2.1, S.2.2.2) else (S.1, S.2.1, S.2.2.1, 2)) else S) else S
theorem flawI_0 {fo : Nat → Int32} {sz : Nat → Nat} {r : Nat} {y i : Int32} (h : flawI fo sz r y i = 0) (hz : sz r ≤ 64) : ¬ fo r = -1 ∧ fo r = y ∧ ∃ k, k < sz r ∧ i = nI k := by
  unfold flawI at h
  split at h
  · exact absurd h (by decide)
  · rename_i h1
    split at h
    · rename_i h2
      split at h
      · exact absurd h (by decide)
      · rename_i h3
        split at h
        · rename_i h4
          obtain ⟨j, hj, rfl⟩ := nI_of h3
          exact ⟨h1, h2, j, (nI_ltI hj (by omega)).mp h4, rfl⟩
        · exact absurd h (by decide)
    · exact absurd h (by decide)
theorem runP_nat {n : Nat} {i k : Int32} (h : runP n i k) (hn : n ≤ 64) : ∃ a b, i = nI a ∧ k = nI b ∧ a + b ≤ n := by
  obtain ⟨h1, h2, h3, h4⟩ := h
  obtain ⟨a, ha, rfl⟩ := nI_of h1
  obtain ⟨b, hb, rfl⟩ := nI_of h2
  have h5 : a ≤ n := by
    rcases Nat.lt_or_ge n a with q | q
    · exact absurd (nI_lt q ha) h3
    · exact q
  rw [pk_sub h5] at h4
  refine ⟨a, b, rfl, rfl, ?_⟩
  rcases Nat.lt_or_ge (n - a) b with q | q
  · exact absurd (nI_lt q hb) h4
  · omega
theorem flawM_0 {fo : Nat → Int32} {sz : Nat → Nat} {r q : Nat} {i j k : Int32} (h : flawM fo sz r i q j k = 0) (hr : sz r ≤ 64) (hq : sz q ≤ 64) : ∃ a b e, i = nI a ∧ j = nI b ∧ k = nI e ∧ a + e ≤ 64 ∧ b + e ≤ 64 := by
  unfold flawM at h
  split at h
  · exact absurd h (by decide)
  · split at h
    · exact absurd h (by decide)
    · split at h
      · split at h
        · rename_i h1
          split at h
          · rename_i h2
            obtain ⟨a, e, rfl, rfl, h3⟩ := runP_nat h1 hr
            obtain ⟨b, e2, rfl, he, h4⟩ := runP_nat h2 hq
            have h5 : e < 2 ^ 31 := by omega
            have : e = e2 := (nI_eq (by omega) (by omega)).mp he
            subst this
            exact ⟨a, b, e, rfl, rfl, rfl, by omega, by omega⟩
          · exact absurd h (by decide)
        · exact absurd h (by decide)
      · exact absurd h (by decide)
