/-! the frame of all contracts: the classes, what holds at every entry, how a method is entered, returned from and called -/
abbrev classes : List vw_C := [(RX0, TX0, 7), (RX1, TX1, 3), (RX2, TX2, 1), (RX3, TX3, 4), (RX4, TX4, 7), (RX5, TX5, 5), (RX6, TX6, 5), (RX7, TX7, 11), (RX8, TX8, 7), (RX9, TX9, 38)]
abbrev Gx : Type := va_G × (ClassId × ClassId × ClassId) × Nat
def gI (g : Gx) : ClassId := g.2.1.1
def gZ (g : Gx) : ClassId := g.2.1.2.1
def gJ (g : Gx) : ClassId := g.2.1.2.2
def gL (g : Gx) : Nat := g.2.2
def TYS (g : Gx) : List (ClassId × FieldType) := [(gI g, .int), (gZ g, .boolean), (gJ g, .long)]
def lvN (j : Nat) : Nat := if j = 0 then 0 else if j < 3 then 1 else if j < 7 then 2 else 3
def lvF (j : Nat) : Value := .int (nI (lvN j))
abbrev nw1 : Cond := .methodLinkNest RX8 17 yX4_init RX8
abbrev nw2 : Cond := .methodLinkNest RX0 11 yX7_init RX8
abbrev nw3 : Cond := .methodLinkNest RX8 43 yX6_init RX8
abbrev nw4 : Cond := .methodLinkNest RX8 50 yX1_init RX8
abbrev nw5 : Cond := .methodLinkNest RX8 57 yX2_init RX8
abbrev nw6 : Cond := .methodLinkNest RX5 39 yX8_within RX8
def XN (U : State) : Prop := va_Nw nw1 U ∧ va_Nw nw2 U ∧ va_Nw nw3 U ∧ va_Nw nw4 U ∧ va_Nw nw5 U ∧ va_Nw nw6 U
def XC (g : Gx) (A : Nat → Prop) (U : State) (H : Heap) : Prop := XN U ∧ va_Z RX7 "LEVELS" "[I" (.ref (gL g)) A U H ∧ va_T .int (gL g) 15 lvF A U H
theorem XN.warm {s U : State} (hW : s.WarmedH U.vm) (h : XN s) : XN U := ⟨va_Nw.warmM hW h.1, va_Nw.warmM hW h.2.1, va_Nw.warmM hW h.2.2.1, va_Nw.warmM hW h.2.2.2.1, va_Nw.warmM hW h.2.2.2.2.1, va_Nw.warmM hW h.2.2.2.2.2⟩
theorem XN.same {s U : State} (e : s.vm = U.vm) (h : XN s) : XN U := ⟨va_Nw.same rfl e h.1, va_Nw.same rfl e h.2.1, va_Nw.same rfl e h.2.2.1, va_Nw.same rfl e h.2.2.2.1, va_Nw.same rfl e h.2.2.2.2.1, va_Nw.same rfl e h.2.2.2.2.2⟩
theorem XC.call {g : Gx} {A B : Nat → Prop} {s U : State} {H : Heap} {locs : List Loc} (h : XC g A s s.heap) (hS : va_S A s.heap H locs) (hF : ∀ q, B q → A q) (hU : U.heap = H) (hW : s.WarmedH U.vm) : XC g B U U.heap := by
  refine ⟨h.1.warm hW, ?_, ?_⟩
  · rw [hU]; exact ((h.2.1.kept hS.2.1).narrow hF).moved hW.alike
  · rw [hU]; exact ((h.2.2.kept hS.2.1).narrow hF).moved hW.alike
def CPre (g : Gx) (ws : va_W) (sz : Nat) (U : State) : Prop := U.heap.size = sz ∧ va_P g.1 classes ws U.heap ∧ va_K g.1 classes (TYS g) U ∧ va_D (fun _ => True) ws ∧ XC g (va_A ws sz) U U.heap
def CB (g : Gx) (A : Nat → Prop) (w : va_W) (t : State) : Prop := va_P g.1 classes w t.heap ∧ va_D A w
theorem CPre.blind {g : Gx} {avs : List Value} {ws : va_W} {sz : Nat} : FrameBlind (va_Pc avs (CPre g ws sz)) := fun a U gg mk q => by
  obtain ⟨q0, q1, q2, q3, q4, q5⟩ := q
  exact ⟨q0, q1, q2, va_K.moved (u := U) (U := U.calling gg mk a) (Vm.Alike.refl U.vm) q3, q4, XN.same (U := U.calling gg mk a) rfl q5.1, va_Z.moved (u := U) (U := U.calling gg mk a) (Vm.Alike.refl U.vm) q5.2.1, va_T.moved (u := U) (U := U.calling gg mk a) (Vm.Alike.refl U.vm) q5.2.2⟩
abbrev cwd (y : MethodName) (cc : ByteArray) (n : Nat) (rt : Option FieldType) : Cond := Cond.code y cc n rt
abbrev Mi (l : Launch) (g : Gx) (y : MethodName) (cc : ByteArray) (n : Nat) (rt : Option FieldType) (rm : Room) (avs : List Value) (ws : va_W) (post : Int32 → va_W → Prop) : Prop := ∀ sz : Nat, Met l y (Cond.code y cc n rt :: lw_good) rm (va_Pc avs (CPre g ws sz)) (va_Qi post (CB g (va_A ws sz)) (va_A ws sz)) 0 0 (va_A ws sz)
abbrev Ml (l : Launch) (g : Gx) (y : MethodName) (cc : ByteArray) (n : Nat) (rt : Option FieldType) (rm : Room) (avs : List Value) (ws : va_W) (post : Int64 → va_W → Prop) : Prop := ∀ sz : Nat, Met l y (Cond.code y cc n rt :: lw_good) rm (va_Pc avs (CPre g ws sz)) (va_Ql post (CB g (va_A ws sz)) (va_A ws sz)) 0 0 (va_A ws sz)
abbrev Mv (l : Launch) (g : Gx) (y : MethodName) (cc : ByteArray) (n : Nat) (rt : Option FieldType) (rm : Room) (avs : List Value) (ws : va_W) (post : va_W → Prop) (mc ms : Nat) : Prop := ∀ sz : Nat, Met l y (Cond.code y cc n rt :: lw_good) rm (va_Pc avs (CPre g ws sz)) (va_Qv post (CB g (va_A ws sz)) (va_A ws sz)) mc ms (va_A ws sz)
abbrev Mr (l : Launch) (g : Gx) (y : MethodName) (cc : ByteArray) (n : Nat) (rt : Option FieldType) (rm : Room) (avs : List Value) (ws : va_W) (b : Nat) : Prop := ∀ sz : Nat, Met l y (Cond.code y cc n rt :: lw_good) rm (va_Pc avs (CPre g ws sz)) (va_Qr (fun w : va_W => w = ws) (fun w a t => a = b ∧ CB g (va_A ws sz) w t) (va_A ws sz)) 0 0 (va_A ws sz)
theorem Met.ofWF {l : Launch} {y : MethodName} {ws ws' : List Cond} {rm : Room} {Pc : Array Value → State → Prop} {Qc : Array Value → State → Outcome → State → Prop} {mc ms : Nat} {free : Addr → Prop} {cc : ByteArray} {maxL : Nat} {ret : Option FieldType}
    (hy : plainFor y = true) (hw : ws = Cond.code y cc maxL ret :: ws')
    (body : ∀ p e s m args below meth c s₁, BodyLoose p l y (headSpec ws rm) cc maxL ret e s m args below meth c s₁ → c.maxLocals = maxL → Pc args s →
      W p l e (headSpec ws rm).room s m args below meth c s.heap [] 0 0 (MQ below Qc args s mc ms free) (entryFrame m args maxL)) : Met l y ws rm Pc Qc mc ms free := by
  refine MetFree.of_bodySF (code := cc) (maxLocals := maxL) (ret := ret) hy ?_ ?_
  · intro args s m h hn
    obtain ⟨meth, c, h1, h2, h3, h4, h5, h6, -, -⟩ := Cond.code_spec hn (atoms_spec (ws := ws) h _ (by rw [hw]; exact List.mem_cons_self))
    exact ⟨meth, c, h1, h2, h3, h4, h5, h6⟩
  · intro p e s m args below meth c s₁ B hml hP _
    have hh0 : s₁.heap = s.heap := by rw [B.state]; rfl
    obtain ⟨t, a1, o, b1, b2, b3⟩ := body p e s m args below meth c s₁ B hml hP s₁ hh0 (Stand.of_body B)
    exact ⟨t, o, a1, b1, b2, ⟨b3.1, b3.2⟩⟩
section OPN
variable {l : Launch} {g : Gx} {y : MethodName} {cc : ByteArray} {n : Nat} {avs : List Value} {ws : va_W} {lv : List (Nat × Value)} {own : String} {fr lo mc ms : Nat}
theorem opn_gen {rt : Option FieldType} {Qc : Nat → Array Value → State → Outcome → State → Prop} (hy : plainFor y = true) (ho : y.cls = own) (hlv : lv_args 0 avs = lv) (hlen : (lg_sl avs).length ≤ n)
    (body : ∀ (p : Program) (e : Env) (s : State) (m : MethodId) (below : List Frame) (meth : Method) (c : Code), p.tables.exec = Jvm.exec → c.code = cc → meth.sig.returnType = rt → meth.locks = false → (y.name = "<init>" → meth.name = "<init>") → c.maxLocals = n → s.vm.findClass own = some m.cls → (∀ w ∈ lw_good, w.before avs.toArray s = true) → (∀ q, s.heap.size ≤ q → va_A ws s.heap.size q) → va_K g.1 classes (TYS g) s → va_P g.1 classes ws s.heap → va_D (va_A ws s.heap.size) ws → va_S (va_A ws s.heap.size) s.heap s.heap [] → XC g (va_A ws s.heap.size) s s.heap → ∀ ls : Array Slot, lv_has ls n lv →
      W p l e { frames := fr, cells := mc, slots := ms, locals := lo } s m avs.toArray below meth c s.heap [] 0 0 (MQ below (Qc s.heap.size) avs.toArray s mc ms (va_A ws s.heap.size)) (F0 m 0 ls [])) :
    ∀ sz : Nat, Met l y (Cond.code y cc n rt :: lw_good) { frames := fr, cells := mc, slots := ms, locals := lo } (va_Pc avs (CPre g ws sz)) (Qc sz) mc ms (va_A ws sz) := by
  intro sz
  refine Met.ofWF (cc := cc) (maxL := n) (ret := rt) hy rfl ?_
  intro p e s m args below meth c s₁ B hml hv
  obtain ⟨rfl, hsz, hP, hK, hD0, hX⟩ := hv
  subst hsz
  have hts := atoms_spec (ws := Cond.code y cc n rt :: lw_good) B.pre
  have h := body p e s m below meth c B.exec B.bytes B.returns B.notSynchronized (fun h => (name_of_methodNamed B.named B.method).1.trans h) hml (by rw [← ho]; exact findClass_of_methodNamed B.named) (fun w h => hts w (List.mem_cons_of_mem _ h)) (fun q h => Or.inr h) hK hP hD0.self va_S.rf hX _ (by rw [← hlv]; exact lv_entry avs hlen)
  rw [lg_entry_eq]
  exact h
end OPN
section OPN2
variable {l : Launch} {g : Gx} {y : MethodName} {cc : ByteArray} {n : Nat} {avs : List Value} {ws : va_W} {lv : List (Nat × Value)} {own : String} {fr lo : Nat}
/-- entered: every name is plain; 'hRet' closes a return -/
theorem Mi.opn {post : Int32 → va_W → Prop} (hy : plainFor y = true) (ho : y.cls = own) (hlv : lv_args 0 avs = lv) (hlen : (lg_sl avs).length ≤ n)
    (body : ∀ (p : Program) (e : Env) (R : Room) (s : State) (m : MethodId) (args : Array Value) (below : List Frame) (meth : Method) (c : Code) (A : Nat → Prop) (Q : State → Prop), p.tables.exec = Jvm.exec → c.code = cc → c.maxLocals = n → s.vm.findClass own = some m.cls → (∀ w ∈ lw_good, w.before args s = true) → (∀ q, s.heap.size ≤ q → A q) → va_K g.1 classes (TYS g) s → XC g A s s.heap → fr ≤ R.frames → lo ≤ R.locals →
      (∀ (v : Int32) (w : va_W) (H : Heap) (locs : List Loc) (pc : Nat) (ls : Array Slot), va_P g.1 classes w H → va_D A w → va_S A s.heap H locs → decode cc pc = .ok (.ireturn, 1) → post v w → W p l e R s m args below meth c H locs 0 0 Q (F0 m pc ls [.int v])) →
      ∀ (H : Heap) (locs : List Loc) (ls : Array Slot), va_P g.1 classes ws H → va_D A ws → va_S A s.heap H locs → lv_has ls n lv → W p l e R s m args below meth c H locs 0 0 Q (F0 m 0 ls [])) :
    Mi l g y cc n (some .int) { frames := fr, cells := 0, slots := 0, locals := lo } avs ws post := by
  refine opn_gen (Qc := fun sz => va_Qi post (CB g (va_A ws sz)) (va_A ws sz)) hy ho hlv hlen ?_
  intro p e s m below meth c hx hb hr hlocks _ hml hown hts hA hK hP hD hS hX ls hl
  exact body p e _ s m _ below meth c _ _ hx hb hml hown hts hA hK hX (Nat.le_refl _) (Nat.le_refl _) (fun v w H locs pc ls hP hD hS hdg hp => W.iret hx hb hr (fun t ht hW => ⟨⟨v, w, rfl, hp, by rw [ht]; exact hP, hD⟩, hS.F ht⟩) hS.2.2 hdg hlocks) _ _ ls hP hD hS hl
theorem Mz.opn {post : Int32 → va_W → Prop} (hy : plainFor y = true) (ho : y.cls = own) (hlv : lv_args 0 avs = lv) (hlen : (lg_sl avs).length ≤ n)
    (body : ∀ (p : Program) (e : Env) (R : Room) (s : State) (m : MethodId) (args : Array Value) (below : List Frame) (meth : Method) (c : Code) (A : Nat → Prop) (Q : State → Prop), p.tables.exec = Jvm.exec → c.code = cc → c.maxLocals = n → s.vm.findClass own = some m.cls → (∀ w ∈ lw_good, w.before args s = true) → (∀ q, s.heap.size ≤ q → A q) → va_K g.1 classes (TYS g) s → XC g A s s.heap → fr ≤ R.frames → lo ≤ R.locals →
      (∀ (v : Int32) (w : va_W) (H : Heap) (locs : List Loc) (pc : Nat) (ls : Array Slot), va_P g.1 classes w H → va_D A w → va_S A s.heap H locs → decode cc pc = .ok (.ireturn, 1) → narrow .boolean (.int v) = .int v → post v w → W p l e R s m args below meth c H locs 0 0 Q (F0 m pc ls [.int v])) →
      ∀ (H : Heap) (locs : List Loc) (ls : Array Slot), va_P g.1 classes ws H → va_D A ws → va_S A s.heap H locs → lv_has ls n lv → W p l e R s m args below meth c H locs 0 0 Q (F0 m 0 ls [])) :
    Mi l g y cc n (some .boolean) { frames := fr, cells := 0, slots := 0, locals := lo } avs ws post := by
  refine opn_gen (Qc := fun sz => va_Qi post (CB g (va_A ws sz)) (va_A ws sz)) hy ho hlv hlen ?_
  intro p e s m below meth c hx hb hr hlocks _ hml hown hts hA hK hP hD hS hX ls hl
  exact body p e _ s m _ below meth c _ _ hx hb hml hown hts hA hK hX (Nat.le_refl _) (Nat.le_refl _) (fun v w H locs pc ls hP hD hS hdg hn hp => W.zret hx hb hr hn (fun t ht hW => ⟨⟨v, w, rfl, hp, by rw [ht]; exact hP, hD⟩, hS.F ht⟩) hS.2.2 hdg hlocks) _ _ ls hP hD hS hl
theorem Ml.opn {post : Int64 → va_W → Prop} (hy : plainFor y = true) (ho : y.cls = own) (hlv : lv_args 0 avs = lv) (hlen : (lg_sl avs).length ≤ n)
    (body : ∀ (p : Program) (e : Env) (R : Room) (s : State) (m : MethodId) (args : Array Value) (below : List Frame) (meth : Method) (c : Code) (A : Nat → Prop) (Q : State → Prop), p.tables.exec = Jvm.exec → c.code = cc → c.maxLocals = n → s.vm.findClass own = some m.cls → (∀ w ∈ lw_good, w.before args s = true) → (∀ q, s.heap.size ≤ q → A q) → va_K g.1 classes (TYS g) s → XC g A s s.heap → fr ≤ R.frames → lo ≤ R.locals →
      (∀ (v : Int64) (w : va_W) (H : Heap) (locs : List Loc) (pc : Nat) (ls : Array Slot), va_P g.1 classes w H → va_D A w → va_S A s.heap H locs → decode cc pc = .ok (.lreturn, 1) → post v w → W p l e R s m args below meth c H locs 0 0 Q (F0 m pc ls [.long v])) →
      ∀ (H : Heap) (locs : List Loc) (ls : Array Slot), va_P g.1 classes ws H → va_D A ws → va_S A s.heap H locs → lv_has ls n lv → W p l e R s m args below meth c H locs 0 0 Q (F0 m 0 ls [])) :
    Ml l g y cc n (some .long) { frames := fr, cells := 0, slots := 0, locals := lo } avs ws post := by
  refine opn_gen (Qc := fun sz => va_Ql post (CB g (va_A ws sz)) (va_A ws sz)) hy ho hlv hlen ?_
  intro p e s m below meth c hx hb hr hlocks _ hml hown hts hA hK hP hD hS hX ls hl
  exact body p e _ s m _ below meth c _ _ hx hb hml hown hts hA hK hX (Nat.le_refl _) (Nat.le_refl _) (fun v w H locs pc ls hP hD hS hdg hp => W.lret hx hb hr (fun t ht hW => ⟨⟨v, w, rfl, hp, by rw [ht]; exact hP, hD⟩, hS.F ht⟩) hS.2.2 hdg hlocks) _ _ ls hP hD hS hl
theorem Mv.opn {post : va_W → Prop} (hy : plainFor y = true) (ho : y.cls = own) (hlv : lv_args 0 avs = lv) (hlen : (lg_sl avs).length ≤ n)
    (body : ∀ (p : Program) (e : Env) (R : Room) (s : State) (m : MethodId) (args : Array Value) (below : List Frame) (meth : Method) (c : Code) (A : Nat → Prop) (Q : State → Prop), p.tables.exec = Jvm.exec → c.code = cc → c.maxLocals = n → s.vm.findClass own = some m.cls → (∀ w ∈ lw_good, w.before args s = true) → (∀ q, s.heap.size ≤ q → A q) → va_K g.1 classes (TYS g) s → XC g A s s.heap → fr ≤ R.frames → lo ≤ R.locals →
      (∀ (w : va_W) (H : Heap) (locs : List Loc) (pc : Nat) (ls : Array Slot), va_P g.1 classes w H → va_D A w → va_S A s.heap H locs → decode cc pc = .ok (.return_, 1) → post w → W p l e R s m args below meth c H locs 0 0 Q (F0 m pc ls [])) →
      ∀ (H : Heap) (locs : List Loc) (ls : Array Slot), va_P g.1 classes ws H → va_D A ws → va_S A s.heap H locs → lv_has ls n lv → W p l e R s m args below meth c H locs 0 0 Q (F0 m 0 ls [])) :
    Mv l g y cc n none { frames := fr, cells := 0, slots := 0, locals := lo } avs ws post 0 0 := by
  refine opn_gen (Qc := fun sz => va_Qv post (CB g (va_A ws sz)) (va_A ws sz)) hy ho hlv hlen ?_
  intro p e s m below meth c hx hb hr hlocks _ hml hown hts hA hK hP hD hS hX ls hl
  exact body p e _ s m _ below meth c _ _ hx hb hml hown hts hA hK hX (Nat.le_refl _) (Nat.le_refl _) (fun w H locs pc ls hP hD hS hdg hp => W.vret hx hb hr (fun t ht hW => ⟨⟨w, rfl, hp, by rw [ht]; exact hP, hD⟩, hS.F ht⟩) hS.2.2 hdg hlocks) _ _ ls hP hD hS hl
end OPN2
theorem fm_of_map {ws wc : va_W} {is : List Nat} (h : is.map (fun i => ws[i]?) = wc.map some) : is.filterMap (fun i => ws[i]?) = wc := by
  have h1 : is.filterMap (fun i => ws[i]?) = (is.map (fun i => ws[i]?)).filterMap id := by rw [List.filterMap_map]; rfl
  rw [h1, h, List.filterMap_map]
  simp
section CLL
variable {p : Program} {l : Launch} {e : Env} {R : Room} {s : State} {m : MethodId} {args : Array Value} {below : List Frame} {meth : Method} {c : Code} {H : Heap} {locs : List Loc} {cells slots : Nat} {Q : State → Prop} {cc : ByteArray} {pc : Nat} {ls : Array Slot} {rest st : List Value} {g : Gx} {A : Nat → Prop} {ws wc : va_W} {own C : String} {y : MethodName} {bytes : ByteArray} {maxL nL idx n fr lo mc ms : Nat} {ret : Option FieldType} {As : List Value} {b : Nat}
theorem preS_of {Qc : Nat → Array Value → State → Outcome → State → Prop} (hK : va_K g.1 classes (TYS g) s) (hX : XC g A s s.heap) (hP : va_P g.1 classes ws H) (hD : va_D A ws) (hS : va_S A s.heap H locs) (hA : ∀ q, s.heap.size ≤ q → A q) (isC : List Nat) (hnd : va_nd isC = true) (hC : isC.map (fun i => ws[i]?) = wc.map some) (avs : List Value) : PreS s H (va_Pc avs (CPre g wc H.size)) avs := by
  have hPc := hP.sub (ws' := wc) isC (fm_of_map hC)
  have hDc := hD.sub (ws' := wc) isC hnd hC
  have hF := va_free hD hS hA isC hC
  exact ⟨CPre.blind, fun U hU hW => ⟨rfl, by rw [hU], by rw [hU]; exact hPc, va_K.moved hW.alike hK, hDc.weaken (fun _ _ _ _ => trivial), XC.call hX hS hF hU hW⟩⟩
theorem run_V {Qc : Nat → Array Value → State → Outcome → State → Prop} (hx : p.tables.exec = Jvm.exec) (hb : c.code = cc) (hml : c.maxLocals = nL) (hown : s.vm.findClass own = some m.cls) (hts : ∀ w ∈ lw_good, w.before args s = true) (hA : ∀ q, s.heap.size ≤ q → A q) (hK : va_K g.1 classes (TYS g) s) (hX : XC g A s s.heap) (hRf : fr + 1 ≤ R.frames) (hRl : 8 + (maxL + 11) + lo ≤ R.locals) (hP : va_P g.1 classes ws H) (hD : va_D A ws) (hS : va_S A s.heap H locs)
    (hM : ∀ sz : Nat, Met l y (Cond.code y bytes maxL ret :: lw_good) { frames := fr, cells := mc, slots := ms, locals := lo } (va_Pc (.ref b :: As) (CPre g wc sz)) (Qc sz) mc ms (va_A wc sz))
    (h1 : Cond.methodLink own idx y ∈ lw_good) (h2 : Cond.instanceMethod y ∈ lw_good) (h3 : Cond.selects C y y ∈ lw_good) (h4 : Cond.initialized C ∈ lw_good) (hc : Cond.code y bytes maxL ret ∈ lw_good)
    (hd : y.cls = C ∧ y.cls ≠ "java/lang/invoke/MethodHandle" ∧ y.cls ≠ "java/lang/invoke/VarHandle" ∧ (parseMethodDescriptor y.desc).map (fun d => d.parameters.length) = some n)
    (isC : List Nat) (hnd : va_nd isC = true) (hC : isC.map (fun i => ws[i]?) = wc.map some) (q0 : Nat) {ci N : Nat} {fs : List Value} {T : u_T} (hq : wc[q0]? = some (b, .inr (ci, fs))) (hci : classes[ci]? = some (C, T, N))
    (hn : As.length = n) (hsize : ls.size = nL) (hstack : st = As.reverse ++ .ref b :: rest) (hW : (rest.map fun v => v.category).sum ≤ 8) (hdg : decode cc pc = .ok (.invokevirtual idx, 3)) (hf : cells + mc ≤ R.cells ∧ slots + ms ≤ R.slots) :
    va_Run p l e R s m args below meth c H locs cells slots mc ms (F0 m pc ls st) rest (Qc H.size (Value.ref b :: As).toArray) (va_A wc H.size) := by
  have hPc := hP.sub (ws' := wc) isC (fm_of_map hC)
  have hpre := preS_of (Qc := Qc) hK hX hP hD hS hA isC hnd hC (.ref b :: As)
  exact va_runV (As := As) (rest := rest) ⟨hx, hb, hml, hown, hts⟩ (hM H.size) (cwV n hts (gV h1 h2 h3 h4 hc) rfl rfl rfl hd ⟨hRf, hRl⟩) ⟨CPre.blind, va_recv hK hPc hci hq, hpre.2⟩ rfl hn hsize hstack (lv_room hW) hdg hf
theorem run_S {Qc : Nat → Array Value → State → Outcome → State → Prop} (hx : p.tables.exec = Jvm.exec) (hb : c.code = cc) (hml : c.maxLocals = nL) (hown : s.vm.findClass own = some m.cls) (hts : ∀ w ∈ lw_good, w.before args s = true) (hA : ∀ q, s.heap.size ≤ q → A q) (hK : va_K g.1 classes (TYS g) s) (hX : XC g A s s.heap) (hRf : fr + 1 ≤ R.frames) (hRl : 8 + (maxL + 11) + lo ≤ R.locals) (hP : va_P g.1 classes ws H) (hD : va_D A ws) (hS : va_S A s.heap H locs)
    (hM : ∀ sz : Nat, Met l y (Cond.code y bytes maxL ret :: lw_good) { frames := fr, cells := mc, slots := ms, locals := lo } (va_Pc As (CPre g wc sz)) (Qc sz) mc ms (va_A wc sz))
    (h1 : Cond.methodLink own idx y ∈ lw_good) (h2 : Cond.static y ∈ lw_good) (h4 : Cond.initialized y.cls ∈ lw_good) (hc : Cond.code y bytes maxL ret ∈ lw_good)
    (hd : y.cls ≠ "java/lang/invoke/MethodHandle" ∧ y.cls ≠ "java/lang/invoke/VarHandle" ∧ (parseMethodDescriptor y.desc).map (fun d => d.parameters.length) = some n)
    (isC : List Nat) (hnd : va_nd isC = true) (hC : isC.map (fun i => ws[i]?) = wc.map some)
    (hn : As.length = n) (hsize : ls.size = nL) (hstack : st = As.reverse ++ rest) (hW : (rest.map fun v => v.category).sum ≤ 8) (hdg : decode cc pc = .ok (.invokestatic idx, 3)) (hf : cells + mc ≤ R.cells ∧ slots + ms ≤ R.slots) :
    va_Run p l e R s m args below meth c H locs cells slots mc ms (F0 m pc ls st) rest (Qc H.size As.toArray) (va_A wc H.size) := by
  have hpre := preS_of (Qc := Qc) hK hX hP hD hS hA isC hnd hC As
  exact va_runS (As := As) (rest := rest) ⟨hx, hb, hml, hown, hts⟩ (hM H.size) ⟨callB_of n hts (gAll hc) rfl rfl rfl (hts _ h4) (hts _ h1) hd ⟨hRf, hRl⟩, hts _ h2⟩ hpre rfl hn hsize hstack (lv_room hW) hdg hf
theorem run_SN {Qc : Nat → Array Value → State → Outcome → State → Prop} {host : String} (hx : p.tables.exec = Jvm.exec) (hb : c.code = cc) (hml : c.maxLocals = nL) (hown : s.vm.findClass own = some m.cls) (hts : ∀ w ∈ lw_good, w.before args s = true) (hA : ∀ q, s.heap.size ≤ q → A q) (hK : va_K g.1 classes (TYS g) s) (hX : XC g A s s.heap) (hRf : fr + 1 ≤ R.frames) (hRl : 8 + (maxL + 11) + lo ≤ R.locals) (hP : va_P g.1 classes ws H) (hD : va_D A ws) (hS : va_S A s.heap H locs)
    (hM : ∀ sz : Nat, Met l y (Cond.code y bytes maxL ret :: lw_good) { frames := fr, cells := mc, slots := ms, locals := lo } (va_Pc As (CPre g wc sz)) (Qc sz) mc ms (va_A wc sz))
    (h1 : va_Nw (.methodLinkNest own idx y host) s) (h2 : Cond.static y ∈ lw_good) (h4 : Cond.initialized y.cls ∈ lw_good) (hc : Cond.code y bytes maxL ret ∈ lw_good)
    (hd : y.cls ≠ "java/lang/invoke/MethodHandle" ∧ y.cls ≠ "java/lang/invoke/VarHandle" ∧ (parseMethodDescriptor y.desc).map (fun d => d.parameters.length) = some n)
    (isC : List Nat) (hnd : va_nd isC = true) (hC : isC.map (fun i => ws[i]?) = wc.map some)
    (hn : As.length = n) (hsize : ls.size = nL) (hstack : st = As.reverse ++ rest) (hW : (rest.map fun v => v.category).sum ≤ 8) (hdg : decode cc pc = .ok (.invokestatic idx, 3)) (hf : cells + mc ≤ R.cells ∧ slots + ms ≤ R.slots) :
    va_Run p l e R s m args below meth c H locs cells slots mc ms (F0 m pc ls st) rest (Qc H.size As.toArray) (va_A wc H.size) := by
  have hpre := preS_of (Qc := Qc) hK hX hP hD hS hA isC hnd hC As
  exact va_runSN (As := As) (rest := rest) ⟨hx, hb, hml, hown, hts⟩ (hM H.size) ⟨va_cnB n hts (gAll hc) rfl rfl rfl h1 (hts _ h4) hd ⟨hRf, hRl⟩, hts _ h2, trivial⟩ hpre rfl hn hsize hstack (lv_room hW) hdg hf
theorem call_i {post : Int32 → va_W → Prop} {wr : va_W} {av : Array Value} (hr : va_Run p l e R s m args below meth c H locs cells slots 0 0 (F0 m pc ls st) rest (va_Qi post (CB g (va_A wc H.size)) (va_A wc H.size) av) (va_A wc H.size)) (hA : ∀ q, s.heap.size ≤ q → A q) (hP : va_P g.1 classes ws H) (hD : va_D A ws) (hS : va_S A s.heap H locs) (isC isR : List Nat) (hC : isC.map (fun i => ws[i]?) = wc.map some) (hR : isR.map (fun i => ws[i]?) = wr.map some) (hn : va_nd isR = true) (hdis : ∀ i ∈ isR, i ∉ isC)
    (kk : ∀ (r : Int32) (w1 : va_W) (H1 : Heap) (locs1 : List Loc), post r w1 → va_P g.1 classes (wr ++ w1) H1 → va_D A (wr ++ w1) → va_S A s.heap H1 locs1 → W p l e R s m args below meth c H1 locs1 cells slots Q (F0 m (pc + 3) ls (.int r :: rest))) : W p l e R s m args below meth c H locs cells slots Q (F0 m pc ls st) := by
  have hF := va_free hD hS hA isC hC
  refine va_calli hr hS (fun q _ h => hF q h) hF (fun r u t H1 locs1 ht hvm hw hB hz1 hk1 hS1 => ?_)
  obtain ⟨hP1, hD1⟩ := hB
  rw [ht] at hP1
  obtain ⟨hP2, hD2⟩ := va_join hP hD isC isR hC hR hn hdis hk1 hF hP1 hD1
  exact kk r u H1 locs1 hw hP2 hD2 hS1
theorem call_l {post : Int64 → va_W → Prop} {wr : va_W} {av : Array Value} (hr : va_Run p l e R s m args below meth c H locs cells slots 0 0 (F0 m pc ls st) rest (va_Ql post (CB g (va_A wc H.size)) (va_A wc H.size) av) (va_A wc H.size)) (hA : ∀ q, s.heap.size ≤ q → A q) (hP : va_P g.1 classes ws H) (hD : va_D A ws) (hS : va_S A s.heap H locs) (isC isR : List Nat) (hC : isC.map (fun i => ws[i]?) = wc.map some) (hR : isR.map (fun i => ws[i]?) = wr.map some) (hn : va_nd isR = true) (hdis : ∀ i ∈ isR, i ∉ isC)
    (kk : ∀ (r : Int64) (w1 : va_W) (H1 : Heap) (locs1 : List Loc), post r w1 → va_P g.1 classes (wr ++ w1) H1 → va_D A (wr ++ w1) → va_S A s.heap H1 locs1 → W p l e R s m args below meth c H1 locs1 cells slots Q (F0 m (pc + 3) ls (.long r :: rest))) : W p l e R s m args below meth c H locs cells slots Q (F0 m pc ls st) := by
  have hF := va_free hD hS hA isC hC
  refine va_calll hr hS (fun q _ h => hF q h) hF (fun r u t H1 locs1 ht hvm hw hB hz1 hk1 hS1 => ?_)
  obtain ⟨hP1, hD1⟩ := hB
  rw [ht] at hP1
  obtain ⟨hP2, hD2⟩ := va_join hP hD isC isR hC hR hn hdis hk1 hF hP1 hD1
  exact kk r u H1 locs1 hw hP2 hD2 hS1
theorem call_v {post : va_W → Prop} {wr : va_W} {av : Array Value} (hr : va_Run p l e R s m args below meth c H locs cells slots 0 0 (F0 m pc ls st) rest (va_Qv post (CB g (va_A wc H.size)) (va_A wc H.size) av) (va_A wc H.size)) (hA : ∀ q, s.heap.size ≤ q → A q) (hP : va_P g.1 classes ws H) (hD : va_D A ws) (hS : va_S A s.heap H locs) (isC isR : List Nat) (hC : isC.map (fun i => ws[i]?) = wc.map some) (hR : isR.map (fun i => ws[i]?) = wr.map some) (hn : va_nd isR = true) (hdis : ∀ i ∈ isR, i ∉ isC)
    (kk : ∀ (w1 : va_W) (H1 : Heap) (locs1 : List Loc), post w1 → va_P g.1 classes (wr ++ w1) H1 → va_D A (wr ++ w1) → va_S A s.heap H1 locs1 → W p l e R s m args below meth c H1 locs1 cells slots Q (F0 m (pc + 3) ls rest)) : W p l e R s m args below meth c H locs cells slots Q (F0 m pc ls st) := by
  have hF := va_free hD hS hA isC hC
  refine va_callv hr hS (fun q _ h => hF q h) hF (fun u t H1 locs1 ht hvm hw hB hz1 hk1 hS1 => ?_)
  obtain ⟨hP1, hD1⟩ := hB
  rw [ht] at hP1
  obtain ⟨hP2, hD2⟩ := va_join hP hD isC isR hC hR hn hdis hk1 hF hP1 hD1
  exact kk u H1 locs1 hw hP2 hD2 hS1
end CLL
