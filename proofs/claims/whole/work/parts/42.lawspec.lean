/-! THE CLAIM OUT OF ONE WALK OF THE LAW'S BODY. Your part is whole_start (and what it stands on); all else here is the same for every law, but numbers. -/
def R_law : String := "FieldTilesLaw"
def lw_P (b : Addr) (xs : List Int32) (args : Array Value) (s : State) : Prop := args = #[.ref b] ∧ s.IntsAt b xs ∧ xs.length ≤ 3072 ∧ (Jvm.Cond.and given_1 narrow_1).before args s = true
def lw_Q (_ : Array Value) (s : State) (o : Outcome) (t : State) : Prop := o = .returned (some (.int 1)) ∧ Framed s o t [] 63 5044
def lw_Z (below : List Frame) (a : Array Value) (s : State) : State → Prop := fun t => ∃ o, t.status = .running ∧ Ended t below o ∧ lw_Q a s o t
/-- the law's own end, with 1 on the stack, nothing written that was there before, its room as the claim has it -/
theorem lw_ret {p : Program} {l : Launch} {e : Env} {s : State} {m : MethodId} {below : List Frame} {meth : Method} {c : Code} {b : Nat} (hx : p.tables.exec = Jvm.exec) (hb : c.code = code) (hr : meth.sig.returnType = ret) (hlocks : meth.locks = false) {pc : Nat} {H : Heap} {ls : Array Slot} (hdg : decode code pc = .ok (.ireturn, 1)) : W p l e room_1 s m #[Value.ref b] below meth c H [] 63 5044 (lw_Z below #[Value.ref b] s) (F0 m pc ls [.int 1]) := by
  intro T hT X
  obtain ⟨fs, hret, hrun, hended, hW, hframe⟩ := X.leave (v := some (.int 1)) (hlocks := hlocks) (fun h => by rw [hr] at h; cases h)
  have hmeth' : T.vm.method? m = some meth := X.method'
  refine ⟨T.setFrames fs, ?_, .returned (some (.int 1)), hrun, hended, rfl, ⟨_, rfl⟩, hW, hframe⟩
  jvm_step X.here [X.here.top, hx, hb, hdg, hmeth', hr, ret, narrow_b1]
  (try refine ⟨rfl, ?_⟩); (try refine ⟨rfl, ?_⟩)
  first | (intro acts; rw [hret _ acts rfl rfl rfl]) | rw [hret _ _ rfl rfl rfl]
  exact Steps.refl _
/-- what holds at the law's entry: the machine, the code, the tables' words (any of lw_tbl by 'hts w (by decide +kernel)'), the script of L ints xs at the cell b, what the Statement gives of the start (any of its parts by flat_of_before) -/
def lw_At (p : Program) (s : State) (m : MethodId) (meth : Method) (c : Code) (b L : Nat) (xs : Nat → Int32) : Prop :=
  p.tables.exec = Jvm.exec ∧ c.code = code ∧ meth.sig.returnType = ret ∧ c.maxLocals = 4 ∧ s.vm.findClass R_law = some m.cls ∧ (∀ w ∈ lw_tbl, w.before #[Value.ref b] s = true) ∧ va_X b L xs s s.heap ∧ b < s.heap.size ∧ meth.locks = false ∧ (Jvm.Cond.and given_1 narrow_1).before #[Value.ref b] s = true
section LSP
variable {it it2 fo fo2 sx sy sx2 sy2 : Nat → Int32} {z z2 sd sc sk sd2 sc2 sk2 ba ba2 pt pt2 : Nat → Nat} {la la2 br br2 x y v i j k : Int32} {hi hi2 n n2 dp mo dp2 mo2 ow eg ow2 eg2 r : Nat}
theorem eff_le {zM : Nat → Nat} (fo : Nat → Int32) (h : ∀ r, r < 18 → zM r ≤ 64) : ∀ r, r < 18 → effS fo zM r ≤ 64 := by
  intro r hr
  unfold effS
  split
  · exact Nat.zero_le _
  · exact h r hr
theorem fo_up (hf : foOk fo) (hy : y = -1 ∨ rg y 0 2) : foOk (up fo r y) := by
  intro q hq
  unfold up
  by_cases c : q = r
  · rw [if_pos c]; exact hy
  · rw [if_neg c]; exact hf q hq
theorem reel_fo (h : (it2, fo2, z2, la2) = reelN (it, fo, z, la) x y v) (hf : foOk fo) : foOk fo2 := by
  have e : fo2 = (reelN (it, fo, z, la) x y v).2.1 := congrArg (fun S : RS => S.2.1) h
  rw [e]
  unfold reelN
  split
  · split
    · rename_i h2
      split
      · split
        · exact fo_up hf (Or.inr h2)
        · exact hf
      · exact hf
    · exact hf
  · exact hf
theorem lose_fo (h : (it2, fo2, z2, la2) = loseN (it, fo, z, la) x) (hf : foOk fo) : foOk fo2 := by
  have e : fo2 = (loseN (it, fo, z, la) x).2.1 := congrArg (fun S : RS => S.2.1) h
  rw [e]
  unfold loseN
  split
  · split
    · exact hf
    · exact fo_up hf (Or.inl rfl)
  · exact hf
theorem put_fo (h : (it2, fo2, z2, la2) = putN (it, fo, z, la) x y i v) (hf : foOk fo) : foOk fo2 := by
  have e : fo2 = (putN (it, fo, z, la) x y i v).2.1 := congrArg (fun S : RS => S.2.1) h
  rw [e]
  unfold putN
  (repeat' split) <;> exact hf
theorem get_fo (h : (it2, fo2, z2, la2) = getN (it, fo, z, la) x y i) (hf : foOk fo) : foOk fo2 := by
  have e : fo2 = (getN (it, fo, z, la) x y i).2.1 := congrArg (fun S : RS => S.2.1) h
  rw [e]
  unfold getN
  (repeat' split) <;> exact hf
theorem copy_fo (h : (it2, fo2, z2, la2) = copyN (it, fo, z, la) x i y j k) (hf : foOk fo) : foOk fo2 := by
  have e : fo2 = (copyN (it, fo, z, la) x i y j k).2.1 := congrArg (fun S : RS => S.2.1) h
  rw [e]
  unfold copyN
  (repeat' split) <;> exact hf
theorem paint_fo (h : (it2, fo2, z2, la2) = paintN (it, fo, z, la) x i j v) (hf : foOk fo) : foOk fo2 := by
  have e : fo2 = (paintN (it, fo, z, la) x i j v).2.1 := congrArg (fun S : RS => S.2.1) h
  rw [e]
  unfold paintN
  (repeat' split) <;> exact hf
theorem clouds_hi (h : (br2, hi2) = cloudsN (br, hi) x y) (hh : hi ≤ 4) : hi2 ≤ 4 := by
  have e : hi2 = (cloudsN (br, hi) x y).2 := congrArg Prod.snd h
  rw [e]
  unfold cloudsN
  split
  · split
    · rename_i h2
      obtain ⟨q, hq, rfl⟩ := rg_nat h2 (n := 4) rfl
      show tn' (nI q) ≤ 4
      rw [show tn' (nI q) = q from nI_clamp (by omega)]; omega
    · exact hh
  · exact hh
theorem step_up (hs : stepOk sx) (hy : rg y (-2) 2) : stepOk (up sx r y) := by
  intro d hd
  unfold up
  by_cases c : d = r
  · rw [if_pos c]
    have h1 := hy.1
    have h2 := hy.2
    rw [Int32.lt_iff_toInt_lt] at h1 h2
    have e1 : (-2 : Int32).toInt = -2 := rfl
    have e2 : (2 : Int32).toInt = 2 := rfl
    omega
  · rw [if_neg c]; exact hs d hd
theorem sun_ok (h : (sx2, sy2) = sunN (sx, sy) x y v) (h1 : stepOk sx) (h2 : stepOk sy) : stepOk sx2 ∧ stepOk sy2 := by
  have e1 : sx2 = (sunN (sx, sy) x y v).1 := congrArg Prod.fst h
  have e2 : sy2 = (sunN (sx, sy) x y v).2 := congrArg Prod.snd h
  rw [e1, e2]
  unfold sunN
  split
  · split
    · rename_i h3
      split
      · rename_i h4
        exact ⟨step_up h1 h3, step_up h2 h4⟩
      · exact ⟨h1, h2⟩
    · exact ⟨h1, h2⟩
  · exact ⟨h1, h2⟩
theorem samp_ok (h : (sd2, sc2, sk2, n2) = sampN (sd, sc, sk, n) x y v) (ho : okSmp sd sc sk n) : okSmp sd2 sc2 sk2 n2 := by
  have e1 : sd2 = (sampN (sd, sc, sk, n) x y v).1 := congrArg (fun S : SS => S.1) h
  have e2 : sc2 = (sampN (sd, sc, sk, n) x y v).2.1 := congrArg (fun S : SS => S.2.1) h
  have e3 : sk2 = (sampN (sd, sc, sk, n) x y v).2.2.1 := congrArg (fun S : SS => S.2.2.1) h
  have e4 : n2 = (sampN (sd, sc, sk, n) x y v).2.2.2 := congrArg (fun S : SS => S.2.2.2) h
  rw [e1, e2, e3, e4]
  unfold sampN
  split
  · rename_i g1
    split
    · rename_i g2
      split
      · rename_i g3
        split
        · rename_i g4
          obtain ⟨a1, h1, rfl⟩ := rg_nat g1 (n := 5) rfl
          obtain ⟨a2, h2, rfl⟩ := rg_nat g2 (n := 63) rfl
          obtain ⟨a3, h3, rfl⟩ := rg_nat g3 (n := 3) rfl
          show okSmp (up sd n (tn' (nI a1))) (up sc n (tn' (nI a2))) (up sk n (tn' (nI a3))) (n + 1)
          rw [show tn' (nI a1) = a1 from nI_clamp (by omega), show tn' (nI a2) = a2 from nI_clamp (by omega), show tn' (nI a3) = a3 from nI_clamp (by omega)]
          have g5 : n < 40 := g4
          refine ⟨by omega, fun s hs => ?_⟩
          by_cases c : s = n
          · subst c; rw [up_same, up_same, up_same]; exact ⟨by omega, by omega, by omega⟩
          · rw [up_ne _ _ c, up_ne _ _ c, up_ne _ _ c]; exact ho.2 s (by omega)
        · exact ho
      · exact ho
    · exact ho
  · exact ho
theorem forget_ok : okSmp sd sc sk 0 := ⟨Nat.zero_le _, fun s hs => absurd hs (Nat.not_lt_zero _)⟩
theorem grow_ok (h : (dp2, mo2) = growN (dp, mo) x y) (h1 : dp ≤ 3) (h2 : mo ≤ 1) : dp2 ≤ 3 ∧ mo2 ≤ 1 := by
  have e1 : dp2 = (growN (dp, mo) x y).1 := congrArg Prod.fst h
  have e2 : mo2 = (growN (dp, mo) x y).2 := congrArg Prod.snd h
  rw [e1, e2]
  unfold growN
  split
  · rename_i g1
    split
    · rename_i g2
      obtain ⟨a1, q1, rfl⟩ := rg_nat g1 (n := 3) rfl
      obtain ⟨a2, q2, rfl⟩ := rg_nat g2 (n := 1) rfl
      show tn' (nI a1) ≤ 3 ∧ tn' (nI a2) ≤ 1
      rw [show tn' (nI a1) = a1 from nI_clamp (by omega), show tn' (nI a2) = a2 from nI_clamp (by omega)]
      exact ⟨by omega, by omega⟩
    · exact ⟨h1, h2⟩
  · exact ⟨h1, h2⟩
theorem weigh_ok (h : (ow2, eg2) = weighN (ow, eg) x y) (h1 : ow ≤ 100) (h2 : eg ≤ 100) : ow2 ≤ 100 ∧ eg2 ≤ 100 := by
  have e1 : ow2 = (weighN (ow, eg) x y).1 := congrArg Prod.fst h
  have e2 : eg2 = (weighN (ow, eg) x y).2 := congrArg Prod.snd h
  rw [e1, e2]
  unfold weighN
  split
  · rename_i g1
    split
    · rename_i g2
      obtain ⟨a1, q1, rfl⟩ := rg_nat g1 (n := 100) rfl
      obtain ⟨a2, q2, rfl⟩ := rg_nat g2 (n := 100) rfl
      show tn' (nI a1) ≤ 100 ∧ tn' (nI a2) ≤ 100
      rw [show tn' (nI a1) = a1 from nI_clamp (by omega), show tn' (nI a2) = a2 from nI_clamp (by omega)]
      exact ⟨by omega, by omega⟩
    · exact ⟨h1, h2⟩
  · exact ⟨h1, h2⟩
theorem allow_le (h : ba2 = allowN ba x y v) (hb : ∀ i, i < 16 → ba i ≤ 1) : ∀ i, i < 16 → ba2 i ≤ 1 := by
  rw [h]
  unfold allowN
  split
  · split
    · split
      · exact hb
      · intro i hi
        unfold up
        split
        · split <;> omega
        · exact hb i hi
    · exact hb
  · exact hb
theorem allow_dg (h : ba2 = allowN ba x y v) (hb : ∀ k, k < 4 → ba (4 * k + k) = 0) : ∀ k, k < 4 → ba2 (4 * k + k) = 0 := by
  rw [h]
  unfold allowN
  split
  · rename_i g1
    split
    · rename_i g2
      split
      · exact hb
      · rename_i g3
        intro q hq
        obtain ⟨a1, q1, rfl⟩ := rg_nat g1 (n := 3) rfl
        obtain ⟨a2, q2, rfl⟩ := rg_nat g2 (n := 3) rfl
        have t1 : tn' (nI a1) = a1 := nI_clamp (by omega)
        have t2 : tn' (nI a2) = a2 := nI_clamp (by omega)
        rw [t1, t2]
        have hne : ¬ a1 = a2 := fun z => g3 (by rw [z])
        rw [up_ne _ _ (by omega)]; exact hb q hq
    · exact hb
  · exact hb
theorem prove_le (h : pt2 = proveN pt x y v) (hb : ∀ p, p < 16 → pt p ≤ 1000) : ∀ p, p < 16 → pt2 p ≤ 1000 := by
  rw [h]
  unfold proveN
  split
  · split
    · split
      · intro p hp
        unfold up
        split
        · unfold proveV; split <;> omega
        · exact hb p hp
      · exact hb
    · exact hb
  · exact hb
theorem loop_in {i L : Nat} (hi : i ≤ 4000) (hL : L ≤ 3072) (h : ¬ nI L - 6 < nI i) : i + 6 ≤ L := by
  rw [Int32.lt_iff_toInt_lt] at h
  have e6 : (6 : Int32).toInt = 6 := rfl
  have eL : (nI L).toInt = (L : Int) := nI_toInt (by omega)
  have ei : (nI i).toInt = (i : Int) := nI_toInt (by omega)
  have e : (nI L - 6).toInt = (L : Int) - 6 := by rw [fb_subI (by omega) (by omega), eL, e6]
  omega
theorem sw28 (x : Int32) : x.toInt = 0 ∨ x.toInt = 1 ∨ x.toInt = 2 ∨ x.toInt = 3 ∨ x.toInt = 4 ∨ x.toInt = 5 ∨ x.toInt = 6 ∨ x.toInt = 7 ∨ x.toInt = 8 ∨ x.toInt = 9 ∨ x.toInt = 10 ∨ x.toInt = 11 ∨ x.toInt = 12 ∨ x.toInt = 13 ∨ x.toInt = 14 ∨ x.toInt = 15 ∨ x.toInt = 16 ∨ x.toInt = 17 ∨ x.toInt = 18 ∨ x.toInt = 19 ∨ x.toInt = 20 ∨ x.toInt = 21 ∨ x.toInt = 22 ∨ x.toInt = 23 ∨ x.toInt = 24 ∨ x.toInt = 25 ∨ x.toInt = 26 ∨ x.toInt = 27 ∨ (x.toInt < 0 ∨ 27 < x.toInt) := by omega
end LSP
section SLD
variable {p : Program} {l : Launch} {e : Env} {R : Room} {s : State} {m : MethodId} {args : Array Value} {below : List Frame} {meth : Method} {c : Code} {H : Heap} {locs : List Loc} {cells slots : Nat} {Q : State → Prop} {cc : ByteArray} {pc : Nat} {ls : Array Slot} {rest : List Value} {A : Nat → Prop}
theorem w_sld (hx : p.tables.exec = Jvm.exec) (hb : c.code = cc) {bs L k : Nat} {xs : Nat → Int32} (hX0 : va_X bs L xs s s.heap) (hbl : bs < s.heap.size) (hbA : ¬ A bs) (hS : va_S A s.heap H locs) (hk : k < L) (hL : L ≤ 3072) (hdg : decode cc pc = .ok (.iaload, 1)) (kk : W p l e R s m args below meth c H locs cells slots Q (F0 m (pc + 1) ls (.int (xs k) :: rest))) : W p l e R s m args below meth c H locs cells slots Q (F0 m pc ls (.int (nI k) :: .ref bs :: rest)) := by
  refine va_sld hx hb hX0 hbl hbA hS (vp_in_nI hk (by omega)) hdg ?_
  rw [nI_clamp (by omega)]
  exact kk
end SLD
/-- all that the two sides keep -/
abbrev KS9 : Type := (Nat → Nat) × (Nat → Nat) × (Nat → Int32) × (Nat → Int32) × (Nat → Nat) × Int32 × Int32 × Nat × (Nat → Int32) × (Nat → Int32) × (Nat → Nat) × (Nat → Nat) × (Nat → Nat) × Nat × Nat × Nat × Nat × Nat × (Nat → Nat) × (Nat → Nat) × (Nat → Nat) × Nat × (Nat → Nat) × (Nat → Int32) × Nat × (Nat → Int32) × Nat × Int32 × Nat × Nat × (Nat → Int32) × (Nat → Int32) × (Nat → Nat) × (Nat → Nat) × (Nat → Nat) × (Nat → Nat) × (Nat → Nat) × Nat × (Nat → Nat) × (Nat → Nat) × (Nat → Nat) × (Nat → Nat) × Nat × (Nat → Int32) × (Nat → Int32) × (Nat → Nat) × (Nat → Nat) × (Nat → Nat) × (Nat → Nat) × (Nat → Nat) × (Nat → Int32) × (Nat → Nat) × (Nat → Nat) × (Nat → Nat) × (Nat → Nat) × (Nat → Nat) × (Nat → Nat) × (Nat → Int32) × (Nat → Nat) × (Nat → Nat) × (Nat → Nat) × (Nat → Nat) × (Nat → Nat)
def KS9.a (v : KS9) : Nat → Nat := v.1
def KS9.b (v : KS9) : Nat → Nat := v.2.1
def KS9.it (v : KS9) : Nat → Int32 := v.2.2.1
def KS9.fo (v : KS9) : Nat → Int32 := v.2.2.2.1
def KS9.zM (v : KS9) : Nat → Nat := v.2.2.2.2.1
def KS9.la (v : KS9) : Int32 := v.2.2.2.2.2.1
def KS9.br (v : KS9) : Int32 := v.2.2.2.2.2.2.1
def KS9.hi (v : KS9) : Nat := v.2.2.2.2.2.2.2.1
def KS9.sx (v : KS9) : Nat → Int32 := v.2.2.2.2.2.2.2.2.1
def KS9.sy (v : KS9) : Nat → Int32 := v.2.2.2.2.2.2.2.2.2.1
def KS9.sd (v : KS9) : Nat → Nat := v.2.2.2.2.2.2.2.2.2.2.1
def KS9.sc (v : KS9) : Nat → Nat := v.2.2.2.2.2.2.2.2.2.2.2.1
def KS9.sk (v : KS9) : Nat → Nat := v.2.2.2.2.2.2.2.2.2.2.2.2.1
def KS9.n (v : KS9) : Nat := v.2.2.2.2.2.2.2.2.2.2.2.2.2.1
def KS9.dp (v : KS9) : Nat := v.2.2.2.2.2.2.2.2.2.2.2.2.2.2.1
def KS9.mo (v : KS9) : Nat := v.2.2.2.2.2.2.2.2.2.2.2.2.2.2.2.1
def KS9.ow (v : KS9) : Nat := v.2.2.2.2.2.2.2.2.2.2.2.2.2.2.2.2.1
def KS9.eg (v : KS9) : Nat := v.2.2.2.2.2.2.2.2.2.2.2.2.2.2.2.2.2.1
def KS9.ba (v : KS9) : Nat → Nat := v.2.2.2.2.2.2.2.2.2.2.2.2.2.2.2.2.2.2.1
def KS9.pt (v : KS9) : Nat → Nat := v.2.2.2.2.2.2.2.2.2.2.2.2.2.2.2.2.2.2.2.1
def KS9.mf (v : KS9) : Nat → Nat := v.2.2.2.2.2.2.2.2.2.2.2.2.2.2.2.2.2.2.2.2.1
def KS9.tn (v : KS9) : Nat := v.2.2.2.2.2.2.2.2.2.2.2.2.2.2.2.2.2.2.2.2.2.1
def KS9.kc (v : KS9) : Nat → Nat := v.2.2.2.2.2.2.2.2.2.2.2.2.2.2.2.2.2.2.2.2.2.2.1
def KS9.ge (v : KS9) : Nat → Int32 := v.2.2.2.2.2.2.2.2.2.2.2.2.2.2.2.2.2.2.2.2.2.2.2.1
def KS9.ou (v : KS9) : Nat := v.2.2.2.2.2.2.2.2.2.2.2.2.2.2.2.2.2.2.2.2.2.2.2.2.1
def KS9.kn (v : KS9) : Nat → Int32 := v.2.2.2.2.2.2.2.2.2.2.2.2.2.2.2.2.2.2.2.2.2.2.2.2.2.1
def KS9.bf (v : KS9) : Nat := v.2.2.2.2.2.2.2.2.2.2.2.2.2.2.2.2.2.2.2.2.2.2.2.2.2.2.1
def KS9.bn (v : KS9) : Int32 := v.2.2.2.2.2.2.2.2.2.2.2.2.2.2.2.2.2.2.2.2.2.2.2.2.2.2.2.1
def KS9.bt (v : KS9) : Nat := v.2.2.2.2.2.2.2.2.2.2.2.2.2.2.2.2.2.2.2.2.2.2.2.2.2.2.2.2.1
def KS9.bb (v : KS9) : Nat := v.2.2.2.2.2.2.2.2.2.2.2.2.2.2.2.2.2.2.2.2.2.2.2.2.2.2.2.2.2.1
def KS9.sp (v : KS9) : Nat → Int32 := v.2.2.2.2.2.2.2.2.2.2.2.2.2.2.2.2.2.2.2.2.2.2.2.2.2.2.2.2.2.2.1
def KS9.nu (v : KS9) : Nat → Int32 := v.2.2.2.2.2.2.2.2.2.2.2.2.2.2.2.2.2.2.2.2.2.2.2.2.2.2.2.2.2.2.2.1
def KS9.st (v : KS9) : Nat → Nat := v.2.2.2.2.2.2.2.2.2.2.2.2.2.2.2.2.2.2.2.2.2.2.2.2.2.2.2.2.2.2.2.2.1
def KS9.en (v : KS9) : Nat → Nat := v.2.2.2.2.2.2.2.2.2.2.2.2.2.2.2.2.2.2.2.2.2.2.2.2.2.2.2.2.2.2.2.2.2.1
def KS9.od (v : KS9) : Nat → Nat := v.2.2.2.2.2.2.2.2.2.2.2.2.2.2.2.2.2.2.2.2.2.2.2.2.2.2.2.2.2.2.2.2.2.2.1
def KS9.fi (v : KS9) : Nat → Nat := v.2.2.2.2.2.2.2.2.2.2.2.2.2.2.2.2.2.2.2.2.2.2.2.2.2.2.2.2.2.2.2.2.2.2.2.1
def KS9.se (v : KS9) : Nat → Nat := v.2.2.2.2.2.2.2.2.2.2.2.2.2.2.2.2.2.2.2.2.2.2.2.2.2.2.2.2.2.2.2.2.2.2.2.2.1
def KS9.mk (v : KS9) : Nat := v.2.2.2.2.2.2.2.2.2.2.2.2.2.2.2.2.2.2.2.2.2.2.2.2.2.2.2.2.2.2.2.2.2.2.2.2.2.1
def KS9.cs (v : KS9) : Nat → Nat := v.2.2.2.2.2.2.2.2.2.2.2.2.2.2.2.2.2.2.2.2.2.2.2.2.2.2.2.2.2.2.2.2.2.2.2.2.2.2.1
def KS9.w (v : KS9) : Nat → Nat := v.2.2.2.2.2.2.2.2.2.2.2.2.2.2.2.2.2.2.2.2.2.2.2.2.2.2.2.2.2.2.2.2.2.2.2.2.2.2.2.1
def KS9.co (v : KS9) : Nat → Nat := v.2.2.2.2.2.2.2.2.2.2.2.2.2.2.2.2.2.2.2.2.2.2.2.2.2.2.2.2.2.2.2.2.2.2.2.2.2.2.2.2.1
def KS9.wa (v : KS9) : Nat → Nat := v.2.2.2.2.2.2.2.2.2.2.2.2.2.2.2.2.2.2.2.2.2.2.2.2.2.2.2.2.2.2.2.2.2.2.2.2.2.2.2.2.2.1
def KS9.te (v : KS9) : Nat := v.2.2.2.2.2.2.2.2.2.2.2.2.2.2.2.2.2.2.2.2.2.2.2.2.2.2.2.2.2.2.2.2.2.2.2.2.2.2.2.2.2.2.1
def KS9.mv (v : KS9) : Nat → Int32 := v.2.2.2.2.2.2.2.2.2.2.2.2.2.2.2.2.2.2.2.2.2.2.2.2.2.2.2.2.2.2.2.2.2.2.2.2.2.2.2.2.2.2.2.1
def KS9.oF (v : KS9) : Nat → Int32 := v.2.2.2.2.2.2.2.2.2.2.2.2.2.2.2.2.2.2.2.2.2.2.2.2.2.2.2.2.2.2.2.2.2.2.2.2.2.2.2.2.2.2.2.2.1
def KS9.oC (v : KS9) : Nat → Nat := v.2.2.2.2.2.2.2.2.2.2.2.2.2.2.2.2.2.2.2.2.2.2.2.2.2.2.2.2.2.2.2.2.2.2.2.2.2.2.2.2.2.2.2.2.2.1
def KS9.nb (v : KS9) : Nat → Nat := v.2.2.2.2.2.2.2.2.2.2.2.2.2.2.2.2.2.2.2.2.2.2.2.2.2.2.2.2.2.2.2.2.2.2.2.2.2.2.2.2.2.2.2.2.2.2.1
def KS9.at1 (v : KS9) : Nat → Nat := v.2.2.2.2.2.2.2.2.2.2.2.2.2.2.2.2.2.2.2.2.2.2.2.2.2.2.2.2.2.2.2.2.2.2.2.2.2.2.2.2.2.2.2.2.2.2.2.1
def KS9.iN (v : KS9) : Nat → Nat := v.2.2.2.2.2.2.2.2.2.2.2.2.2.2.2.2.2.2.2.2.2.2.2.2.2.2.2.2.2.2.2.2.2.2.2.2.2.2.2.2.2.2.2.2.2.2.2.2.1
def KS9.nf (v : KS9) : Nat → Nat := v.2.2.2.2.2.2.2.2.2.2.2.2.2.2.2.2.2.2.2.2.2.2.2.2.2.2.2.2.2.2.2.2.2.2.2.2.2.2.2.2.2.2.2.2.2.2.2.2.2.1
def KS9.nn1 (v : KS9) : Nat → Int32 := v.2.2.2.2.2.2.2.2.2.2.2.2.2.2.2.2.2.2.2.2.2.2.2.2.2.2.2.2.2.2.2.2.2.2.2.2.2.2.2.2.2.2.2.2.2.2.2.2.2.2.1
def KS9.nm1 (v : KS9) : Nat → Nat := v.2.2.2.2.2.2.2.2.2.2.2.2.2.2.2.2.2.2.2.2.2.2.2.2.2.2.2.2.2.2.2.2.2.2.2.2.2.2.2.2.2.2.2.2.2.2.2.2.2.2.2.1
def KS9.on1 (v : KS9) : Nat → Nat := v.2.2.2.2.2.2.2.2.2.2.2.2.2.2.2.2.2.2.2.2.2.2.2.2.2.2.2.2.2.2.2.2.2.2.2.2.2.2.2.2.2.2.2.2.2.2.2.2.2.2.2.2.1
def KS9.tw1 (v : KS9) : Nat → Nat := v.2.2.2.2.2.2.2.2.2.2.2.2.2.2.2.2.2.2.2.2.2.2.2.2.2.2.2.2.2.2.2.2.2.2.2.2.2.2.2.2.2.2.2.2.2.2.2.2.2.2.2.2.2.1
def KS9.fs (v : KS9) : Nat → Nat := v.2.2.2.2.2.2.2.2.2.2.2.2.2.2.2.2.2.2.2.2.2.2.2.2.2.2.2.2.2.2.2.2.2.2.2.2.2.2.2.2.2.2.2.2.2.2.2.2.2.2.2.2.2.2.1
def KS9.ts (v : KS9) : Nat → Nat := v.2.2.2.2.2.2.2.2.2.2.2.2.2.2.2.2.2.2.2.2.2.2.2.2.2.2.2.2.2.2.2.2.2.2.2.2.2.2.2.2.2.2.2.2.2.2.2.2.2.2.2.2.2.2.2.1
def KS9.tx (v : KS9) : Nat → Nat := v.2.2.2.2.2.2.2.2.2.2.2.2.2.2.2.2.2.2.2.2.2.2.2.2.2.2.2.2.2.2.2.2.2.2.2.2.2.2.2.2.2.2.2.2.2.2.2.2.2.2.2.2.2.2.2.2.1
def KS9.cm (v : KS9) : Nat → Int32 := v.2.2.2.2.2.2.2.2.2.2.2.2.2.2.2.2.2.2.2.2.2.2.2.2.2.2.2.2.2.2.2.2.2.2.2.2.2.2.2.2.2.2.2.2.2.2.2.2.2.2.2.2.2.2.2.2.2.1
def KS9.qu (v : KS9) : Nat → Nat := v.2.2.2.2.2.2.2.2.2.2.2.2.2.2.2.2.2.2.2.2.2.2.2.2.2.2.2.2.2.2.2.2.2.2.2.2.2.2.2.2.2.2.2.2.2.2.2.2.2.2.2.2.2.2.2.2.2.2.1
def KS9.mm (v : KS9) : Nat → Nat := v.2.2.2.2.2.2.2.2.2.2.2.2.2.2.2.2.2.2.2.2.2.2.2.2.2.2.2.2.2.2.2.2.2.2.2.2.2.2.2.2.2.2.2.2.2.2.2.2.2.2.2.2.2.2.2.2.2.2.2.1
def KS9.al (v : KS9) : Nat → Nat := v.2.2.2.2.2.2.2.2.2.2.2.2.2.2.2.2.2.2.2.2.2.2.2.2.2.2.2.2.2.2.2.2.2.2.2.2.2.2.2.2.2.2.2.2.2.2.2.2.2.2.2.2.2.2.2.2.2.2.2.2.1
def KS9.re1 (v : KS9) : Nat → Nat := v.2.2.2.2.2.2.2.2.2.2.2.2.2.2.2.2.2.2.2.2.2.2.2.2.2.2.2.2.2.2.2.2.2.2.2.2.2.2.2.2.2.2.2.2.2.2.2.2.2.2.2.2.2.2.2.2.2.2.2.2.2.1
def KS9.pa1 (v : KS9) : Nat → Nat := v.2.2.2.2.2.2.2.2.2.2.2.2.2.2.2.2.2.2.2.2.2.2.2.2.2.2.2.2.2.2.2.2.2.2.2.2.2.2.2.2.2.2.2.2.2.2.2.2.2.2.2.2.2.2.2.2.2.2.2.2.2.2
def LInv (v : KS9) : Prop := (foOk v.fo) ∧ (∀ r, r < 18 → v.zM r ≤ 64) ∧ (stepOk v.sx) ∧ (stepOk v.sy) ∧ (v.hi ≤ 4) ∧ (okSmp v.sd v.sc v.sk v.n) ∧ (v.dp ≤ 3) ∧ (v.mo ≤ 1) ∧ (v.ow ≤ 100) ∧ (v.eg ≤ 100) ∧ (∀ i, i < 16 → v.ba i ≤ 1) ∧ (∀ k, k < 4 → v.ba (4 * k + k) = 0) ∧ (∀ p, p < 16 → v.pt p ≤ 1000) ∧ (v.ou = 0 ∨ v.ou = 1) ∧ (v.ou = 0 → KT (rdC v.it (effS v.fo v.zM), (v.br, v.hi, v.sx, v.sy), (v.sd, v.sc, v.sk, v.n), v.dp, v.mo) v.tn v.kc v.ge v.sp v.nu v.st v.en ∧ KN (rdC v.it (effS v.fo v.zM), (v.br, v.hi, v.sx, v.sy), (v.sd, v.sc, v.sk, v.n), v.dp, v.mo) v.kn) ∧ (v.mk < 2 ^ 64) ∧ (∀ c, c < 64 → v.mk / 2 ^ c % 2 = v.mf c) ∧ (∀ c, c < 64 → v.mm c = v.mf c) ∧ (∀ i, i < 16 → v.al i = 1 - v.ba i)
def LWv (g : Gx) (v : KS9) : va_W := [(v.a 0, .inr (8, [.ref (v.a 1), .ref (v.a 5), .ref (v.a 8), .ref (v.a 14), .ref (v.a 24), .ref (v.a 27), .ref (v.a 31)])), (v.a 1, .inr (3, [.ref (v.a 2), .ref (v.a 3), .ref (v.a 4), .int v.la])), (v.a 2, .inl (gI g, 1152, .inl v.it)), (v.a 3, .inl (gI g, 18, .inl v.fo)), (v.a 4, .inl (gI g, 18, .inl (nF (effS v.fo v.zM)))), (v.a 5, .inr (5, [.ref (v.a 1), .ref (v.a 6), .ref (v.a 7), .int v.br, .int (nI v.hi)])), (v.a 6, .inl (gI g, 6, .inl v.sx)), (v.a 7, .inl (gI g, 6, .inl v.sy)), (v.a 8, .inr (4, [.ref (v.a 9), .ref (v.a 10), .ref (v.a 11), .int (nI v.n), .ref (v.a 12), .ref (v.a 13), .int (nI v.tn)])), (v.a 9, .inl (gI g, 40, .inl (nF v.sd))), (v.a 10, .inl (gI g, 40, .inl (nF v.sc))), (v.a 11, .inl (gI g, 40, .inl (nF v.sk))), (v.a 12, .inl (gI g, 40, .inl (nF v.kc))), (v.a 13, .inl (gI g, 160, .inl v.ge)), (v.a 14, .inr (0, [.ref (v.a 5), .ref (v.a 8), .ref (v.a 16), .ref (v.a 15), .int (nI v.ou), .int (nI v.dp), .int (nI v.mo)])), (v.a 15, .inl (gI g, 384, .inl v.kn)), (v.a 16, .inr (7, [.ref (v.a 17), .ref (v.a 18), .ref (v.a 19), .ref (v.a 20), .ref (v.a 21), .ref (v.a 22), .ref (v.a 23), .int (nI v.bf), .int v.bn, .long (lN v.bt), .long (lN v.bb)])), (v.a 17, .inl (gI g, 15, .inl v.sp)), (v.a 18, .inl (gI g, 15, .inl v.nu)), (v.a 19, .inl (gI g, 15, .inl (nF v.st))), (v.a 20, .inl (gI g, 15, .inl (nF v.en))), (v.a 21, .inl (gI g, 40, .inl (nF v.od))), (v.a 22, .inl (gI g, 4, .inl (nF v.fi))), (v.a 23, .inl (gI g, 4, .inl (nF v.se))), (v.a 24, .inr (6, [.ref (v.a 25), .ref (v.a 26), .int (nI v.ow), .int (nI v.eg), .long (lN v.mk)])), (v.a 25, .inl (gI g, 256, .inl (nF v.cs))), (v.a 26, .inl (gJ g, 256, .inr (.inl (lF v.w)))), (v.a 27, .inr (1, [.ref (v.a 28), .ref (v.a 29), .ref (v.a 30)])), (v.a 28, .inl (gZ g, 16, .inl (nF v.ba))), (v.a 29, .inl (gI g, 24, .inl (nF v.co))), (v.a 30, .inl (gI g, 6, .inl (nF v.wa))), (v.a 31, .inr (2, [.ref (v.a 32)])), (v.a 32, .inl (gI g, 16, .inl (nF v.pt))), (v.b 0, .inr (9, [.ref (v.b 1), .ref (v.b 2), .ref (v.b 3), .ref (v.b 4), .int v.la, .int v.br, .int (nI v.hi), .ref (v.b 5), .ref (v.b 6), .int (nI v.n), .ref (v.b 7), .ref (v.b 8), .ref (v.b 9), .int (nI v.dp), .int (nI v.mo), .int (nI v.te), .ref (v.b 10), .ref (v.b 11), .ref (v.b 12), .ref (v.b 13), .ref (v.b 14), .ref (v.b 15), .ref (v.b 16), .ref (v.b 17), .ref (v.b 18), .ref (v.b 19), .int (nI v.ow), .int (nI v.eg), .ref (v.b 20), .ref (v.b 21), .ref (v.b 22), .ref (v.b 23), .ref (v.b 24), .ref (v.b 25), .ref (v.b 26), .ref (v.b 27), .ref (v.b 28), .ref (v.b 29)])), (v.b 1, .inl (gI g, 18, .inl v.fo)), (v.b 2, .inl (gI g, 18, .inl (nF v.zM))), (v.b 3, .inl (gI g, 1152, .inl v.it)), (v.b 4, .inl (gI g, 64, .inl v.mv)), (v.b 5, .inl (gI g, 6, .inl v.sx)), (v.b 6, .inl (gI g, 6, .inl v.sy)), (v.b 7, .inl (gI g, 40, .inl (nF v.sd))), (v.b 8, .inl (gI g, 40, .inl (nF v.sc))), (v.b 9, .inl (gI g, 40, .inl (nF v.sk))), (v.b 10, .inl (gI g, 160, .inl v.oF)), (v.b 11, .inl (gI g, 40, .inl (nF v.oC))), (v.b 12, .inl (gI g, 40, .inl (nF v.nb))), (v.b 13, .inl (gI g, 40, .inl (nF v.at1))), (v.b 14, .inl (gZ g, 15, .inl (nF v.iN))), (v.b 15, .inl (gI g, 15, .inl (nF v.nf))), (v.b 16, .inl (gI g, 15, .inl v.nn1)), (v.b 17, .inl (gI g, 15, .inl (nF v.nm1))), (v.b 18, .inl (gI g, 4, .inl (nF v.on1))), (v.b 19, .inl (gI g, 4, .inl (nF v.tw1))), (v.b 20, .inl (gI g, 64, .inl (nF v.fs))), (v.b 21, .inl (gI g, 64, .inl (nF v.ts))), (v.b 22, .inl (gI g, 256, .inl (nF v.tx))), (v.b 23, .inl (gI g, 64, .inl v.cm)), (v.b 24, .inl (gI g, 64, .inl (nF v.qu))), (v.b 25, .inl (gI g, 64, .inl (nF v.mm))), (v.b 26, .inl (gZ g, 16, .inl (nF v.al))), (v.b 27, .inl (gI g, 24, .inl (nF v.re1))), (v.b 28, .inl (gI g, 6, .inl (nF v.pa1))), (v.b 29, .inl (gI g, 16, .inl (nF v.pt)))]
