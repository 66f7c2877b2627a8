/-! the other calls: answers and states -/
def cloudsA (x y : Int32) : Int32 := if rg x 0 1000 then (if rg y 0 4 then 1 else -2000) else -2000
def cloudsN (S : Int32 × Nat) (x y : Int32) : Int32 × Nat := if rg x 0 1000 then (if rg y 0 4 then (x, tn' y) else S) else S
def sunA (x y z : Int32) : Int32 := if rg x 0 5 then (if rg y (-2) 2 then (if rg z (-2) 2 then 1 else -2000) else -2000) else -2000
def sunN (S : (Nat → Int32) × (Nat → Int32)) (x y z : Int32) : (Nat → Int32) × (Nat → Int32) := if rg x 0 5 then (if rg y (-2) 2 then (if rg z (-2) 2 then (up S.1 (tn' x) y, up S.2 (tn' x) z) else S) else S) else S
def skyA (z : AB) (x y : Int32) : Int32 := if rg x 0 5 then (if rg y 0 63 then nI (skA z (tn' x) (tn' y)) else -2000) else -2000
def featA (z : AB) (x y f : Int32) : Int32 := if rg x 0 5 then (if rg y 0 63 then (if rg f 0 3 then (if skA z (tn' x) (tn' y) = 3 then ftF z.1 (tn' x) (tn' y) (tn' f) else -2001) else -2000) else -2000) else -2000
abbrev SS : Type := (Nat → Nat) × (Nat → Nat) × (Nat → Nat) × Nat
def sampA (S : SS) (x y k : Int32) : Int32 := if rg x 0 5 then (if rg y 0 63 then (if rg k 0 3 then (if S.2.2.2 < 40 then nI (S.2.2.2 + 1) else -2002) else -2000) else -2000) else -2000
def sampN (S : SS) (x y k : Int32) : SS := if rg x 0 5 then (if rg y 0 63 then (if rg k 0 3 then (if S.2.2.2 < 40 then (up S.1 S.2.2.2 (tn' x), up S.2.1 S.2.2.2 (tn' y), up S.2.2.1 S.2.2.2 (tn' k), S.2.2.2 + 1) else S) else S) else S) else S
def growA (x y : Int32) : Int32 := if rg x 0 3 then (if rg y 0 1 then 1 else -2000) else -2000
def growN (S : Nat × Nat) (x y : Int32) : Nat × Nat := if rg x 0 3 then (if rg y 0 1 then (tn' x, tn' y) else S) else S
def weighA (x y : Int32) : Int32 := if rg x 0 100 then (if rg y 0 100 then 1 else -2000) else -2000
def weighN (S : Nat × Nat) (x y : Int32) : Nat × Nat := if rg x 0 100 then (if rg y 0 100 then (tn' x, tn' y) else S) else S
def markA (mf : Nat → Nat) (x : Int32) : Int32 := if rg x 0 63 then nI (mf (tn' x)) else -2000
def allowA (x y : Int32) : Int32 := if rg x 0 3 then (if rg y 0 3 then (if x = y then -2000 else 1) else -2000) else -2000
def allowN (ba : Nat → Nat) (x y v : Int32) : Nat → Nat := if rg x 0 3 then (if rg y 0 3 then (if x = y then ba else up ba (4 * tn' x + tn' y) (if v = 0 then 1 else 0)) else ba) else ba
def proveV (pt : Nat → Nat) (x y k : Int32) : Nat := if pt (4 * tn' x + tn' y) + tn' k < 1000 then pt (4 * tn' x + tn' y) + tn' k else 1000
def proveA (pt : Nat → Nat) (x y k : Int32) : Int32 := if rg x 0 3 then (if rg y 0 3 then (if rg k 1 1000 then nI (proveV pt x y k) else -2000) else -2000) else -2000
def proveN (pt : Nat → Nat) (x y k : Int32) : Nat → Nat := if rg x 0 3 then (if rg y 0 3 then (if rg k 1 1000 then up pt (4 * tn' x + tn' y) (proveV pt x y k) else pt) else pt) else pt
noncomputable def kindA (z : AB) (x y : Int32) : Int32 := if rg x 0 5 then (if rg y 0 63 then kindF z (tn' x) (tn' y) else -2000) else -2000
noncomputable def manyA (z : AB) (x y : Int32) : Int32 := if rg x 0 5 then (if y = -1 then nI (tlF z (tn' x) y 64) else if rg y 0 3 then nI (tlF z (tn' x) y 64) else -2000) else -2000
noncomputable def treeA (z : AB) (x y : Int32) : Int32 := if rg x 0 14 then (if rg y 0 2 then (if (trA z).1 (tn' x) = true then (if y = 2 then nI (fb_ct ((trA z).2.1 (tn' x)) (tA z)) else if y = 0 then nI ((trA z).2.2.1 (tn' x)) else (trA z).2.2.2 (tn' x)) else -2000) else -2000) else -2000
noncomputable abbrev kdF (z : AB) (c : Nat) : Nat → Int32 := fun e => kindF z e c
noncomputable def pathA (z : AB) (ba : Nat → Nat) (x : Int32) : Int32 := if rg x 0 63 then nI (cmF ba (fun e => kindF z e (tn' x)) 5 (wyF ba (fun e => kindF z e (tn' x)) 0)) else -2000
noncomputable def onA (z : AB) (ba : Nat → Nat) (x y : Int32) : Int32 := if rg x 0 63 then (if rg y 0 5 then nI (wyF ba (fun e => kindF z e (tn' x)) (tn' y)) else -2000) else -2000
noncomputable def chF (z : AB) (ba : Nat → Nat) (i j : Nat) : Nat → Nat
  | 0 => 0
  | c + 1 => chF z ba i j c + mvF (wyF ba (fun e => kindF z e c)) i j 5
noncomputable def chA (z : AB) (ba : Nat → Nat) (x y : Int32) : Int32 := if rg x 0 3 then (if rg y 0 3 then (if x = y then -2000 else nI (chF z ba (tn' x) (tn' y) 64)) else -2000) else -2000
noncomputable def areaA (z : AB) (pt : Nat → Nat) (x y : Int32) : Int64 := if rg x 0 5 then (if rg y 0 3 then arF (fun i => tlF z (tn' x) (nI i) 64) pt (tn' y) else -2000) else -2000
theorem tell_eq {z : AB} {tn : Nat} {kc : Nat → Nat} {ge sp nu : Nat → Int32} {st en : Nat → Nat} (h : KT z tn kc ge sp nu st en) {j : Nat} (hj : j < 15) (y : Int32) : tellF sp nu st en j y = if (trA z).1 j = true then (if y = 2 then nI (fb_ct ((trA z).2.1 j) (tA z)) else if y = 0 then nI ((trA z).2.2.1 j) else (trA z).2.2.2 j) else -2000 := by
  unfold tellF
  cases hc : (trA z).1 j with
  | false => rw [if_pos (h.2.2.1 j hj hc), if_neg (by decide)]
  | true =>
    obtain ⟨q1, q2, q3, q4, q5⟩ := h.2.2.2 j hc
    have h4 : (trA z).2.2.1 j ≤ 4 ∨ True := Or.inr trivial
    have hne : ¬ sp j = -1 := by
      rw [q1]
      intro e
      have := congrArg Int32.toInt e
      have em : (-1 : Int32).toInt = -1 := rfl
      by_cases c : (trA z).2.2.1 j < 2 ^ 31
      · rw [nI_toInt c] at this; omega
      · exact absurd (ftA_lt z j) c
    rw [if_neg hne, if_pos rfl, q1, q2, pk_sub q3, q5]
where
  ftA_lt (z : AB) (j : Nat) : (trA z).2.2.1 j < 2 ^ 31 := by
    unfold trA
    have key : ∀ n, (growT (tA z) (kA z) (fA z) z.2.2.2.1 n).2.2.1 j ≤ 4 := by
      intro n
      induction n with
      | zero => exact Nat.le_refl 4
      | succ n ih =>
        show (stepT _ _ _ _ n (growT (tA z) (kA z) (fA z) z.2.2.2.1 n)).2.2.1 j ≤ 4
        unfold stepT
        split
        · split
          · show up _ n 4 j ≤ 4
            unfold up; split
            · exact Nat.le_refl 4
            · exact ih
          · cases hb : bst (tA z) (kA z) (fA z) ((growT (tA z) (kA z) (fA z) z.2.2.2.1 n).2.1 n) with
            | none =>
              show up _ n 4 j ≤ 4
              unfold up; split
              · exact Nat.le_refl 4
              · exact ih
            | some q =>
              have := (bst_spec (f := q.1) (t := q.2) hb).1.1
              show up _ n q.1 j ≤ 4
              unfold up; split
              · omega
              · exact ih
        · exact ih
    have := key 15
    omega
/-! smoothing: the one best board -/
noncomputable abbrev zW (z : AB) (ow d : Nat) (k : Int32) : Nat → Nat := fun i => 128 * (if kindF z d i = k then ow else 0)
noncomputable abbrev oW (z : AB) (ow d : Nat) (k : Int32) : Nat → Nat := fun i => 128 * (if kindF z d i = k then 0 else if kindF z d i = -1 then 0 else ow) + 1
theorem edge_sub (p q p' q' : Bool) (g : Prop) [Decidable g] (ed : Nat) : (if g ∧ (p && q) ≠ (p' && q') then ed else 0) + (if g ∧ (p || q) ≠ (p' || q') then ed else 0) ≤ (if g ∧ p ≠ p' then ed else 0) + (if g ∧ q ≠ q' then ed else 0) := by
  by_cases h : g
  · cases p <;> cases q <;> cases p' <;> cases q' <;> simp [h]
  · simp [h]
theorem bcost_sub (z o : Nat → Nat) (ed : Nat) (A B : Nat → Bool) : ∀ n, bcost z o ed (fun i => A i && B i) n + bcost z o ed (fun i => A i || B i) n ≤ bcost z o ed A n + bcost z o ed B n
  | 0 => Nat.le_refl 0
  | n + 1 => by
    have ih := bcost_sub z o ed A B n
    unfold bcost
    try dsimp only
    have e1 := edge_sub (A n) (B n) (A (n - 1)) (B (n - 1)) (n % 8 ≠ 0) ed
    have e2 := edge_sub (A n) (B n) (A (n - 8)) (B (n - 8)) (8 ≤ n) ed
    have e3 : (if (A n && B n) = true then o n else z n) + (if (A n || B n) = true then o n else z n) = (if A n = true then o n else z n) + (if B n = true then o n else z n) := by
      cases A n <;> cases B n <;> simp <;> omega
    omega
theorem bcost_ones (y x : Nat → Nat) (e : Nat) (b : Nat → Bool) : ∀ n, ∃ q, bcost (fun i => 128 * y i) (fun i => 128 * x i + 1) (128 * e) b n = 128 * q + fb_ct b n
  | 0 => ⟨0, rfl⟩
  | n + 1 => by
    obtain ⟨q, hq⟩ := bcost_ones y x e b n
    unfold bcost
    rw [hq, fb_ct_succ]
    refine ⟨q + (if b n = true then x n else y n) + (if n % 8 ≠ 0 ∧ b n ≠ b (n - 1) then e else 0) + (if 8 ≤ n ∧ b n ≠ b (n - 8) then e else 0), ?_⟩
    have h1 : (if n % 8 ≠ 0 ∧ b n ≠ b (n - 1) then 128 * e else 0) = 128 * (if n % 8 ≠ 0 ∧ b n ≠ b (n - 1) then e else 0) := by split <;> rfl
    have h2 : (if 8 ≤ n ∧ b n ≠ b (n - 8) then 128 * e else 0) = 128 * (if 8 ≤ n ∧ b n ≠ b (n - 8) then e else 0) := by split <;> rfl
    rw [h1, h2]
    cases b n <;> simp <;> omega
theorem ct_sub_eq {p q : Nat → Bool} : ∀ {n : Nat}, (∀ i, i < n → p i = true → q i = true) → fb_ct p n = fb_ct q n → ∀ i, i < n → q i = true → p i = true
  | 0, _, _, i, hi, _ => absurd hi (Nat.not_lt_zero _)
  | n + 1, h, e, i, hi, hq => by
    have hs := fb_ct_sub (p := p) (q := q) (n := n) (fun k hk => h k (by omega))
    rw [fb_ct_succ, fb_ct_succ] at e
    have hn := h n (by omega)
    have e2 : fb_ct p n = fb_ct q n ∧ (q n = true → p n = true) := by
      cases hp : p n <;> cases hq2 : q n <;> simp [hp, hq2] at e hn ⊢ <;> omega
    rcases Nat.lt_succ_iff_lt_or_eq.mp hi with z | z
    · exact ct_sub_eq (n := n) (fun k hk => h k (by omega)) e2.1 i z hq
    · rw [z] at hq ⊢; exact e2.2 hq
/-- just one board is best -/
theorem opt_one {y x : Nat → Nat} {e : Nat} {A B : Nat → Bool} (hA : ∀ b, bcost (fun i => 128 * y i) (fun i => 128 * x i + 1) (128 * e) A 64 ≤ bcost (fun i => 128 * y i) (fun i => 128 * x i + 1) (128 * e) b 64) (hB : ∀ b, bcost (fun i => 128 * y i) (fun i => 128 * x i + 1) (128 * e) B 64 ≤ bcost (fun i => 128 * y i) (fun i => 128 * x i + 1) (128 * e) b 64) : ∀ i, i < 64 → A i = true → B i = true := by
  have hs := bcost_sub (fun i => 128 * y i) (fun i => 128 * x i + 1) (128 * e) A B 64
  have h1 := hA (fun i => A i && B i)
  have h2 := hA (fun i => A i || B i)
  have h3 := hA B
  have h4 := hB A
  obtain ⟨q, hq⟩ := bcost_ones y x e A 64
  obtain ⟨q2, hq2⟩ := bcost_ones y x e (fun i => A i && B i) 64
  have l1 := fb_ct_le A 64
  have l2 := fb_ct_le (fun i => A i && B i) 64
  have ec : fb_ct (fun i => A i && B i) 64 = fb_ct A 64 := by omega
  intro i hi ha
  have := ct_sub_eq (p := fun i => A i && B i) (q := A) (n := 64) (fun k _ hk => by simp at hk; exact hk.1) ec i hi ha
  simp at this
  exact this.2
theorem opt_ex (z o : Nat → Nat) (ed : Nat) : ∃ b : Nat → Bool, ∀ b', bcost z o ed b 64 ≤ bcost z o ed b' 64 := by
  obtain ⟨k, ⟨b, hb⟩, hk⟩ := pk_least (fun k => ∃ b : Nat → Bool, bcost z o ed b 64 = k) ⟨_, fun _ => false, rfl⟩
  refine ⟨b, fun b' => ?_⟩
  rcases Nat.lt_or_ge (bcost z o ed b' 64) (bcost z o ed b 64) with q | q
  · exact absurd ⟨b', rfl⟩ (hk _ (by rw [← hb]; exact q))
  · exact q
noncomputable def smB (z : AB) (ow eg d : Nat) (k : Int32) : Nat → Bool := Classical.choose (opt_ex (zW z ow d k) (oW z ow d k) (128 * eg))
theorem smB_best (z : AB) (ow eg d : Nat) (k : Int32) : ∀ b, bcost (zW z ow d k) (oW z ow d k) (128 * eg) (smB z ow eg d k) 64 ≤ bcost (zW z ow d k) (oW z ow d k) (128 * eg) b 64 := Classical.choose_spec (opt_ex (zW z ow d k) (oW z ow d k) (128 * eg))
theorem smB_is {z : AB} {ow eg d : Nat} {k : Int32} {A : Nat → Bool} (hA : ∀ b, bcost (zW z ow d k) (oW z ow d k) (128 * eg) A 64 ≤ bcost (zW z ow d k) (oW z ow d k) (128 * eg) b 64) : bcost (zW z ow d k) (oW z ow d k) (128 * eg) A 64 = bcost (zW z ow d k) (oW z ow d k) (128 * eg) (smB z ow eg d k) 64 ∧ ∀ i, i < 64 → A i = smB z ow eg d k i := by
  refine ⟨Nat.le_antisymm (hA _) (smB_best z ow eg d k A), fun i hi => ?_⟩
  have h1 := opt_one hA (smB_best z ow eg d k) i hi
  have h2 := opt_one (smB_best z ow eg d k) hA i hi
  cases ha : A i <;> cases hb : smB z ow eg d k i <;> simp_all
noncomputable def smA (z : AB) (ow eg : Nat) (x y : Int32) : Int32 := if rg x 0 5 then (if rg y 0 3 then nI (bcost (zW z ow (tn' x) y) (oW z ow (tn' x) y) (128 * eg) (smB z ow eg (tn' x) y) 64 / 128) else -2000) else -2000
noncomputable def smN (z : AB) (ow eg : Nat) (mf : Nat → Nat) (x y : Int32) : Nat → Nat := if rg x 0 5 then (if rg y 0 3 then (fun c => if smB z ow eg (tn' x) y c = true then 1 else 0) else mf) else mf
theorem bit_div (m c : Nat) : m / 2 ^ c % 2 = if m.testBit c = true then 1 else 0 := by
  rw [Nat.testBit_eq_decide_div_mod_eq]
  have := Nat.mod_lt (m / 2 ^ c) (show 0 < 2 by decide)
  by_cases h : m / 2 ^ c % 2 = 1
  · rw [h]; simp
  · rw [show m / 2 ^ c % 2 = 0 by omega]; simp
