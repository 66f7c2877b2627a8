/-! pure words of paths and areas -/
/-- the best class among the open ones: (class, cost) -/
def bc (op : Nat → Bool) (co : Nat → Nat) : Nat → Nat × Nat
  | 0 => (0, 7)
  | k + 1 => if op k = true ∧ co k < (bc op co k).2 then (k, co k) else bc op co k
theorem bc_lt (op : Nat → Bool) (co : Nat → Nat) : ∀ k, (bc op co k).1 < k + 1
  | 0 => Nat.lt_succ_self 0
  | k + 1 => by
    have := bc_lt op co k
    unfold bc; split
    · exact Nat.lt_succ_of_lt (Nat.lt_succ_self k)
    · omega
theorem bc_cong {op op' : Nat → Bool} {co co' : Nat → Nat} : ∀ {n : Nat}, (∀ k, k < n → op k = op' k ∧ co k = co' k) → bc op co n = bc op' co' n
  | 0, _ => rfl
  | n + 1, h => by
    have e := bc_cong (n := n) (fun k hk => h k (by omega))
    unfold bc
    rw [e, (h n (by omega)).1, (h n (by omega)).2]
def opA (ba : Nat → Nat) (x : Int32) : Nat → Bool := fun k => decide (x = -1 ∨ ba (4 * x.toNatClampNeg + k) = 0)
theorem opA_nat (ba : Nat → Nat) {j : Nat} (hj : j < 4) (k : Nat) : opA ba (nI j) k = decide (ba (4 * j + k) = 0) := by
  unfold opA
  rw [nI_clamp (by omega)]
  have : ¬ nI j = -1 := fun z => by
    have := congrArg Int32.toInt z
    rw [nI_toInt (by omega)] at this
    have e : (-1 : Int32).toInt = -1 := rfl
    omega
  simp [this]
theorem nI_ne_m1 {j : Nat} (hj : j < 2 ^ 31) : ¬ nI j = -1 := fun z => by
  have := congrArg Int32.toInt z
  rw [nI_toInt hj] at this
  have e : (-1 : Int32).toInt = -1 := rfl
  omega
def misF (kd : Nat → Int32) (d k : Nat) : Nat := if kd d = -1 then 0 else if kd d = nI k then 0 else 1
/-- the least cost of DATE 5 - m and all later ones, if it has class k -/
def cmF (ba : Nat → Nat) (kd : Nat → Int32) : Nat → Nat → Nat
  | 0, k => misF kd 5 k
  | m + 1, k => misF kd (5 - (m + 1)) k + cmF ba kd m (bc (opA ba (nI k)) (cmF ba kd m) 4).1
theorem cmF_le (ba : Nat → Nat) (kd : Nat → Int32) : ∀ m k, cmF ba kd m k ≤ m + 1
  | 0, k => by unfold cmF misF; split; omega; split <;> omega
  | m + 1, k => by
    have := cmF_le ba kd m (bc (opA ba (nI k)) (cmF ba kd m) 4).1
    have h2 : misF kd (5 - (m + 1)) k ≤ 1 := by unfold misF; split; omega; split <;> omega
    unfold cmF; omega
def wyF (ba : Nat → Nat) (kd : Nat → Int32) : Nat → Nat
  | 0 => (bc (opA ba (-1)) (cmF ba kd 5) 4).1
  | d + 1 => (bc (opA ba (nI (wyF ba kd d))) (cmF ba kd (5 - (d + 1))) 4).1
theorem bc4_lt (op : Nat → Bool) (co : Nat → Nat) : (bc op co 4).1 < 4 := by
  have h3 := bc_lt op co 3
  show (if op 3 = true ∧ co 3 < (bc op co 3).2 then (3, co 3) else bc op co 3).1 < 4
  split
  · show 3 < 4; decide
  · omega
theorem wyF_lt (ba : Nat → Nat) (kd : Nat → Int32) : ∀ d, wyF ba kd d < 4
  | 0 => bc4_lt _ _
  | d + 1 => bc4_lt _ _
def mvF (wa : Nat → Nat) (i j : Nat) : Nat → Nat
  | 0 => 0
  | d + 1 => mvF wa i j d + if wa d = i ∧ wa (d + 1) = j then 1 else 0
theorem mvF_le (wa : Nat → Nat) (i j : Nat) : ∀ d, mvF wa i j d ≤ d
  | 0 => Nat.le_refl 0
  | d + 1 => by
    have := mvF_le wa i j d
    unfold mvF; split <;> omega
theorem mvF_cong {wa wb : Nat → Nat} {i j : Nat} : ∀ {n : Nat}, (∀ d, d ≤ n → wa d = wb d) → mvF wa i j n = mvF wb i j n
  | 0, _ => rfl
  | n + 1, h => by
    have e := mvF_cong (i := i) (j := j) (n := n) (fun d hd => h d (by omega))
    unfold mvF
    rw [e, h n (by omega), h (n + 1) (by omega)]
theorem dec_raw (x : Int32) : x + Int32.ofInt (-1) = x - 1 := by
  rw [show Int32.ofInt (-1) = -1 from rfl, ← Int32.sub_eq_add_neg]
theorem pred_neg {e : Nat} (he : e < 2 ^ 30) : nI e - 1 < 0 ↔ e = 0 := by
  have h := pred_lt (e := e) (i := 0) he (by decide)
  have h0 : nI 0 = 0 := rfl
  rw [h0] at h
  rw [h]; omega
theorem pred_nat {e : Nat} (h : 0 < e) : nI e - 1 = nI (e - 1) := pk_sub (a := e) (b := 1) (by omega)
def rsF (pt : Nat → Nat) (i : Nat) : Nat → Nat
  | 0 => 0
  | j + 1 => rsF pt i j + pt (4 * i + j)
theorem rsF_le {pt : Nat → Nat} {i : Nat} (hi : i < 4) (h : ∀ p, p < 16 → pt p ≤ 1000) : ∀ n, n ≤ 4 → rsF pt i n ≤ 1000 * n
  | 0, _ => Nat.le_refl 0
  | n + 1, hn => by
    have := rsF_le hi h n (by omega)
    have h2 := h (4 * i + n) (by omega)
    unfold rsF; omega
def aS (ce pt : Nat → Nat) (j : Nat) : Nat → Option (Nat × Nat)
  | 0 => some (0, 1)
  | i + 1 => match aS ce pt j i with
    | none => none
    | some q => if ce i = 0 then some q else if rsF pt i 4 = 0 then none else some (q.1 * rsF pt i 4 + ce i * pt (4 * i + j) * q.2, q.2 * rsF pt i 4)
def arF (ce pt : Nat → Nat) (j : Nat) : Int64 := match aS ce pt j 4 with
  | none => -2001
  | some q => lN (1000 * q.1) / lN q.2
theorem aS_b {ce pt : Nat → Nat} {j : Nat} (h : ∀ p, p < 16 → pt p ≤ 1000) : ∀ {i : Nat} {q : Nat × Nat}, i ≤ 4 → aS ce pt j i = some q → 0 < q.2 ∧ q.2 ≤ 4000 ^ i
  | 0, q, _, e => by cases e; exact ⟨by decide, by decide⟩
  | i + 1, q, hi, e => by
    unfold aS at e
    cases hr : aS ce pt j i with
    | none => rw [hr] at e; cases e
    | some r =>
      rw [hr] at e
      have ih := aS_b h (i := i) (by omega) hr
      have hpw : 4000 ^ (i + 1) = 4000 ^ i * 4000 := Nat.pow_succ ..
      have hrs := rsF_le (i := i) (by omega) h 4 (Nat.le_refl _)
      dsimp only at e
      split at e
      · cases e; exact ⟨ih.1, by rw [hpw]; omega⟩
      · split at e
        · cases e
        · cases e
          refine ⟨Nat.mul_pos ih.1 (by omega), ?_⟩
          rw [hpw]
          exact Nat.mul_le_mul ih.2 (by omega)
theorem aS_none {ce pt : Nat → Nat} {j i : Nat} (h : aS ce pt j i = none) : aS ce pt j (i + 1) = none := by
  unfold aS; rw [h]
theorem aS_none4 {ce pt : Nat → Nat} {j : Nat} : ∀ {m i : Nat}, aS ce pt j i = none → aS ce pt j (i + m) = none
  | 0, _, h => h
  | m + 1, i, h => aS_none (aS_none4 (m := m) h)
