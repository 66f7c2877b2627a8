/-! the class of a cell: pure words, and what the class keeps of them -/
section CNG
variable {T : Nat} {K K' : Nat → Nat} {F F' : Nat → Nat → Int32} {P P' : Nat → Bool}
theorem oneC_cong (hK : ∀ s, s < T → K s = K' s) (hF : ∀ s f, s < T → f < 4 → F s f = F' s f) (hP : ∀ s, s < T → P s = P' s) {f : Nat} (hf : f < 4) (t : Int32) (k : Nat) : oneC T K F P f t k = oneC T K' F' P' f t k := fb_ct_cong (fun s hs => by rw [hK s hs, hF s f hs hf, hP s hs])
theorem twoC_cong (hK : ∀ s, s < T → K s = K' s) (hF : ∀ s f, s < T → f < 4 → F s f = F' s f) (hP : ∀ s, s < T → P s = P' s) {f : Nat} (hf : f < 4) (t : Int32) (k : Nat) : twoC T K F P f t k = twoC T K' F' P' f t k := fb_ct_cong (fun s hs => by rw [hK s hs, hF s f hs hf, hP s hs])
theorem ou_cong (hK : ∀ s, s < T → K s = K' s) (hF : ∀ s f, s < T → f < 4 → F s f = F' s f) (hP : ∀ s, s < T → P s = P' s) {f : Nat} (hf : f < 4) (t : Int32) : ovr T K F P f t = ovr T K' F' P' f t ∧ und T K F P f t = und T K' F' P' f t ∧ sm4 (twoC T K F P f t) = sm4 (twoC T K' F' P' f t) := by
  have e1 : oneC T K F P f t = oneC T K' F' P' f t := funext (oneC_cong hK hF hP hf t)
  have e2 : twoC T K F P f t = twoC T K' F' P' f t := funext (twoC_cong hK hF hP hf t)
  unfold ovr und
  rw [e1, e2]
  exact ⟨rfl, rfl, rfl⟩
theorem vld_cong (hK : ∀ s, s < T → K s = K' s) (hF : ∀ s f, s < T → f < 4 → F s f = F' s f) (hP : ∀ s, s < T → P s = P' s) {f : Nat} {t : Int32} (h : vld T K F P f t) : vld T K' F' P' f t := by
  obtain ⟨h1, ⟨s, s1, s2, s3⟩, h2⟩ := h
  refine ⟨h1, ⟨s, s1, by rw [← hP s s1]; exact s2, by rw [← hF s f s1 h1]; exact s3⟩, ?_⟩
  rw [← (ou_cong hK hF hP h1 t).2.2]; exact h2
theorem best_cong (hK : ∀ s, s < T → K s = K' s) (hF : ∀ s f, s < T → f < 4 → F s f = F' s f) (hP : ∀ s, s < T → P s = P' s) {f : Nat} {t : Int32} (h : IsBest T K F P f t) : IsBest T K' F' P' f t := by
  refine ⟨vld_cong hK hF hP h.1, fun f' t' hv => ?_⟩
  have hv' := vld_cong (K := K') (K' := K) (F := F') (F' := F) (P := P') (P' := P) (fun s hs => (hK s hs).symm) (fun s f hs hf => (hF s f hs hf).symm) (fun s hs => (hP s hs).symm) hv
  have g := h.2 f' t' hv'
  unfold geS at g ⊢
  rw [← (ou_cong hK hF hP h.1.1 t).1, ← (ou_cong hK hF hP h.1.1 t).2.1, ← (ou_cong hK hF hP hv.1 t').1, ← (ou_cong hK hF hP hv.1 t').2.1]
  exact g
theorem bst_cong (hK : ∀ s, s < T → K s = K' s) (hF : ∀ s f, s < T → f < 4 → F s f = F' s f) (hP : ∀ s, s < T → P s = P' s) : bst T K F P = bst T K' F' P' := by
  cases h : bst T K' F' P' with
  | some q => exact bst_some (best_cong (fun s hs => (hK s hs).symm) (fun s f hs hf => (hF s f hs hf).symm) (fun s hs => (hP s hs).symm) (bst_spec h))
  | none =>
    cases h2 : bst T K F P with
    | none => rfl
    | some q => rw [bst_some (best_cong hK hF hP (bst_spec h2))] at h; cases h
def TSeq (T : Nat) (S S' : TS) : Prop := S.1 = S'.1 ∧ (∀ j t, t < T → S.2.1 j t = S'.2.1 j t) ∧ S.2.2.1 = S'.2.2.1 ∧ S.2.2.2 = S'.2.2.2
theorem stepT_cong {dp n : Nat} {S S' : TS} (hK : ∀ s, s < T → K s = K' s) (hF : ∀ s f, s < T → f < 4 → F s f = F' s f) (h : TSeq T S S') : TSeq T (stepT T K F dp n S) (stepT T K' F' dp n S') := by
  obtain ⟨pr, mem, ft, nm⟩ := S
  obtain ⟨pr', mem', ft', nm'⟩ := S'
  obtain ⟨h1, h2, h3, h4⟩ := h
  dsimp only at h1 h2 h3 h4
  subst h1 h3 h4
  have ec : cntC T K (mem n) = cntC T K' (mem' n) := funext fun k => fb_ct_cong (fun s hs => by rw [hK s hs, h2 n s hs])
  have et : fb_ct (mem n) T = fb_ct (mem' n) T := fb_ct_cong (fun s hs => h2 n s hs)
  have eb : bst T K F (mem n) = bst T K' F' (mem' n) := bst_cong hK hF (h2 n)
  unfold stepT
  dsimp only
  rw [ec, et, eb]
  split
  · split
    · exact ⟨rfl, h2, rfl, rfl⟩
    · cases hb : bst T K' F' (mem' n) with
      | none => exact ⟨rfl, h2, rfl, rfl⟩
      | some q =>
        refine ⟨rfl, fun j t ht => ?_, rfl, rfl⟩
        have hq := (bst_spec (f := q.1) (t := q.2) hb).1.1
        show up (up mem _ _) _ _ j t = up (up mem' _ _) _ _ j t
        unfold up
        split
        · dsimp only; rw [h2 n t ht, hF t q.1 ht hq]
        · split
          · dsimp only; rw [h2 n t ht, hF t q.1 ht hq]
          · exact h2 j t ht
  · exact ⟨rfl, h2, rfl, rfl⟩
theorem growT_cong {dp : Nat} (hK : ∀ s, s < T → K s = K' s) (hF : ∀ s f, s < T → f < 4 → F s f = F' s f) : ∀ n, TSeq T (growT T K F dp n) (growT T K' F' dp n)
  | 0 => ⟨rfl, fun _ _ _ => rfl, rfl, rfl⟩
  | n + 1 => stepT_cong hK hF (growT_cong hK hF n)
end CNG
/-- what the classes rest on: readings, BRIGHT, HIGH, the suns, the samples, DEPTH, mode -/
abbrev AB : Type := (Nat → Nat → Nat → Int32) × (Int32 × Nat × (Nat → Int32) × (Nat → Int32)) × ((Nat → Nat) × (Nat → Nat) × (Nat → Nat) × Nat) × Nat × Nat
def skA (z : AB) (d k : Nat) : Nat := skyF z.1 z.2.1.1 z.2.1.2.1 z.2.1.2.2.1 z.2.1.2.2.2 d k
def clA (z : AB) : Nat → Bool := fun s => decide (skA z (z.2.2.1.1 s) (z.2.2.1.2.1 s) = 3)
def tA (z : AB) : Nat := tN (clA z) z.2.2.1.2.2.2
def kA (z : AB) (t : Nat) : Nat := z.2.2.1.2.2.1 (tI (clA z) z.2.2.1.2.2.2 t)
def fA (z : AB) (t f : Nat) : Int32 := ftF z.1 (z.2.2.1.1 (tI (clA z) z.2.2.1.2.2.2 t)) (z.2.2.1.2.1 (tI (clA z) z.2.2.1.2.2.2 t)) f
noncomputable def trA (z : AB) : TS := growT (tA z) (kA z) (fA z) z.2.2.2.1 15
def frA (z : AB) (d k t : Nat) : Int32 := absI (fA z t 0 - z.1 d 0 k) + absI (fA z t 1 - z.1 d 1 k) + absI (fA z t 2 - z.1 d 2 k)
noncomputable def kindF (z : AB) (d k : Nat) : Int32 := if skA z d k = 3 then (if z.2.2.2.2 = 0 then (trA z).2.2.2 (wlk (trA z).2.2.1 (trA z).2.2.2 (fun f => ftF z.1 d k f) 3 0) else (nrS (frA z d k) (kA z) (tA z)).2) else -1
def KN (z : AB) (kn : Nat → Int32) : Prop := ∀ d k, d < 6 → k < 64 → kn (64 * d + k) = -2 ∨ kn (64 * d + k) = kindF z d k
def KT (z : AB) (tn : Nat) (kc : Nat → Nat) (ge : Nat → Int32) (sp nu : Nat → Int32) (st en : Nat → Nat) : Prop :=
  tn = tA z ∧ (∀ t, t < tA z → kc t = kA z t ∧ ∀ f, f < 4 → ge (40 * f + t) = fA z t f) ∧ (∀ j, j < 15 → (trA z).1 j = false → sp j = -1) ∧ (∀ j, (trA z).1 j = true → sp j = nI ((trA z).2.2.1 j) ∧ nu j = (trA z).2.2.2 j ∧ st j ≤ en j ∧ en j ≤ 40 ∧ en j - st j = fb_ct ((trA z).2.1 j) (tA z))
theorem tA_le (z : AB) (h : okSmp z.2.2.1.1 z.2.2.1.2.1 z.2.2.1.2.2.1 z.2.2.1.2.2.2) : tA z ≤ 40 := Nat.le_trans (tN_le _ _) h.1
theorem kA_lt (z : AB) (h : okSmp z.2.2.1.1 z.2.2.1.2.1 z.2.2.1.2.2.1 z.2.2.1.2.2.2) {t : Nat} (ht : t < tA z) : kA z t < 4 := (h.2 _ (tI_in ht).1).2.2
theorem KT_tok {z : AB} {tn : Nat} {kc : Nat → Nat} {ge sp nu : Nat → Int32} {st en : Nat → Nat} (h : KT z tn kc ge sp nu st en) (hd : z.2.2.2.1 ≤ 3) : TOk (trA z).1 (trA z).2.2.1 (trA z).2.2.2 sp nu := by
  have ti := TI_all (T := tA z) (K := kA z) (F := fA z) hd 15
  refine ⟨ti.1, fun j hj => ?_⟩
  have h15 := (ti.2.1 j hj).1
  obtain ⟨q1, q2, -⟩ := h.2.2.2 j hj
  exact ⟨h15, q1, q2, ti.2.2 j hj h15⟩
theorem KT_of {z : AB} {kc : Nat → Nat} {ge sp nu : Nat → Int32} {st en od : Nat → Nat} (ht : tA z ≤ 40) (hF : ∀ t, t < tA z → kc t = kA z t ∧ ∀ f, f < 4 → ge (40 * f + t) = fA z t f) (hC : CI (tA z) kc (fun t f => ge (40 * f + t)) z.2.2.2.1 15 sp nu st en od) (hd : z.2.2.2.1 ≤ 3) : KT z (tA z) kc ge sp nu st en := by
  have e := growT_cong (K := kc) (K' := kA z) (F := fun t f => ge (40 * f + t)) (F' := fA z) (dp := z.2.2.2.1) (T := tA z) (fun s hs => (hF s hs).1) (fun s f hs hf => (hF s hs).2 f hf) 15
  have ti := TI_all (T := tA z) (K := kA z) (F := fA z) hd 15
  obtain ⟨h1, h2, -⟩ := hC
  obtain ⟨e1, e2, e3, e4⟩ := e
  rw [e1] at h1 h2
  refine ⟨rfl, hF, h1, fun j hj => ?_⟩
  obtain ⟨q1, -, q3, q4, q5, -⟩ := h2 j hj
  have h15 := (ti.2.1 j hj).1
  rw [e3, e4] at q1
  refine ⟨(q1 h15).1, (q1 h15).2, q3, Nat.le_trans q4 ht, q5.trans (fb_ct_cong (fun t ht => e2 j t ht))⟩
theorem KN_up {z : AB} {kn : Nat → Int32} {d k : Nat} (h : KN z kn) (hk : k < 64) {v : Int32} (hv : v = kindF z d k) : KN z (up kn (64 * d + k) v) := by
  intro d' k' hd' hk'
  unfold up
  by_cases c : 64 * d' + k' = 64 * d + k
  · rw [if_pos c]
    have : d' = d ∧ k' = k := by omega
    rw [this.1, this.2]; exact Or.inr hv
  · rw [if_neg c]; exact h d' k' hd' hk'
noncomputable def tlF (z : AB) (d : Nat) (x : Int32) : Nat → Nat
  | 0 => 0
  | n + 1 => tlF z d x n + if kindF z d n = x then 1 else 0
theorem tlF_le (z : AB) (d : Nat) (x : Int32) : ∀ n, tlF z d x n ≤ n
  | 0 => Nat.le_refl 0
  | n + 1 => by
    have := tlF_le z d x n
    unfold tlF; split <;> omega
section OPR
variable {l : Launch} {g : Gx} {y : MethodName} {cc : ByteArray} {n : Nat} {avs : List Value} {ws : va_W} {lv : List (Nat × Value)} {own : String} {fr lo : Nat}
theorem Mr.opn {b : Nat} {C : String} (hy : plainFor y = true) (ho : y.cls = own) (hlv : lv_args 0 avs = lv) (hlen : (lg_sl avs).length ≤ n)
    (body : ∀ (p : Program) (e : Env) (R : Room) (s : State) (m : MethodId) (args : Array Value) (below : List Frame) (meth : Method) (c : Code) (A : Nat → Prop) (Q : State → Prop), p.tables.exec = Jvm.exec → c.code = cc → c.maxLocals = n → s.vm.findClass own = some m.cls → (∀ w ∈ lw_good, w.before args s = true) → (∀ q, s.heap.size ≤ q → A q) → va_K g.1 classes (TYS g) s → XC g A s s.heap → fr ≤ R.frames → lo ≤ R.locals →
      (∀ (w : va_W) (H : Heap) (locs : List Loc) (pc : Nat) (ls : Array Slot), va_P g.1 classes w H → va_D A w → va_S A s.heap H locs → decode cc pc = .ok (.areturn, 1) → w = ws → W p l e R s m args below meth c H locs 0 0 Q (F0 m pc ls [.ref b])) →
      ∀ (H : Heap) (locs : List Loc) (ls : Array Slot), va_P g.1 classes ws H → va_D A ws → va_S A s.heap H locs → lv_has ls n lv → W p l e R s m args below meth c H locs 0 0 Q (F0 m 0 ls [])) :
    Mr l g y cc n (some (.object C)) { frames := fr, cells := 0, slots := 0, locals := lo } avs ws b := by
  refine opn_gen (Qc := fun sz => va_Qr (fun w : va_W => w = ws) (fun w a t => a = b ∧ CB g (va_A ws sz) w t) (va_A ws sz)) hy ho hlv hlen ?_
  intro p e s m below meth c hx hb hr hlocks _ hml hown hts hA hK hP hD hS hX ls hl
  exact body p e _ s m _ below meth c _ _ hx hb hml hown hts hA hK hX (Nat.le_refl _) (Nat.le_refl _) (fun w H locs pc ls hP hD hS hdg hp => W.aret hx hb hr (Or.inl ⟨_, rfl⟩) (Or.inr ⟨_, rfl⟩) (fun t ht hW => ⟨⟨w, b, rfl, hp, rfl, by rw [ht]; exact hP, hD⟩, hS.F ht⟩) hS.2.2 hdg hlocks) _ _ ls hP hD hS hl
end OPR
section CLR
variable {p : Program} {l : Launch} {e : Env} {R : Room} {s : State} {m : MethodId} {args : Array Value} {below : List Frame} {meth : Method} {c : Code} {H : Heap} {locs : List Loc} {cells slots : Nat} {Q : State → Prop} {pc : Nat} {ls : Array Slot} {rest st : List Value} {g : Gx} {A : Nat → Prop} {ws wc : va_W} {b : Nat}
theorem call_r {wr : va_W} {av : Array Value} (hr : va_Run p l e R s m args below meth c H locs cells slots 0 0 (F0 m pc ls st) rest (va_Qr (fun w : va_W => w = wc) (fun w a t => a = b ∧ CB g (va_A wc H.size) w t) (va_A wc H.size) av) (va_A wc H.size)) (hA : ∀ q, s.heap.size ≤ q → A q) (hP : va_P g.1 classes ws H) (hD : va_D A ws) (hS : va_S A s.heap H locs) (isC isR : List Nat) (hC : isC.map (fun i => ws[i]?) = wc.map some) (hR : isR.map (fun i => ws[i]?) = wr.map some) (hn : va_nd isR = true) (hdis : ∀ i ∈ isR, i ∉ isC)
    (kk : ∀ (w1 : va_W) (H1 : Heap) (locs1 : List Loc), w1 = wc → va_P g.1 classes (wr ++ w1) H1 → va_D A (wr ++ w1) → va_S A s.heap H1 locs1 → W p l e R s m args below meth c H1 locs1 cells slots Q (F0 m (pc + 3) ls (.ref b :: rest))) : W p l e R s m args below meth c H locs cells slots Q (F0 m pc ls st) := by
  have hF := va_free hD hS hA isC hC
  refine va_callr hr hS (fun q _ h => hF q h) hF (fun u ra t H1 locs1 ht hvm hw hB hz1 hk1 hS1 => ?_)
  obtain ⟨rfl, hP1, hD1⟩ := hB
  rw [ht] at hP1
  obtain ⟨hP2, hD2⟩ := va_join hP hD isC isR hC hR hn hdis hk1 hF hP1 hD1
  exact kk u H1 locs1 hw hP2 hD2 hS1
end CLR
