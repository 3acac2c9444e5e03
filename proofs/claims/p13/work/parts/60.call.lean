/-! CALLS: into a method, and out of it, returned or thrown -/
/-- what the tables say of method k -/
def am_mok (k : Nat) : Prop :=
  (Cond.code (am_y k) (am_b k) (am_ml k) (am_rt k) ∈ am_tbl ∧ am_hs k = [] ∨ ∃ hh, Cond.codeWith (am_y k) (am_b k) (am_ml k) (am_rt k) hh ∈ am_tbl ∧ am_hok k hh) ∧ plainFor (am_y k) = true ∧ ((am_y k).cls ≠ "java/lang/invoke/MethodHandle" ∧ (am_y k).cls ≠ "java/lang/invoke/VarHandle") ∧ Cond.initialized (am_y k).cls ∈ am_tbl ∧ (am_y k).cls = am_on (am_oc k)
def am_out (ad : Nat → Nat) (o : am_O) (h' : am_H) (oc : Outcome) : Prop := match o with
  | .inl v => oc = .returned (v.map (am_rv ad))
  | .inr X => oc = .threw (ad (h'.length - 1)) ∧ h'[h'.length - 1]? = some (X, [])
def am_Q (S0 : State) (D : va_G) (base : Nat) (ad : Nat → Nat) (below : List Frame) (s : State) (o : am_O) (h' : am_H) (cells slots : Nat) : State → Prop := fun t =>
  ∃ (oc : Outcome) (L : List Loc), t.status = .running ∧ Ended t below oc ∧ am_out ad o h' oc ∧ s.WarmedH t.vm ∧ s.sameButNew ({ t with vm := s.vm } : State) L cells slots ∧ (∀ q ∈ L, base ≤ q.base) ∧ am_P S0 D base ad h' t.heap
section AMC
variable {p : Program} {l : Launch} {e : Env} {R : Room} {s : State} {m : MethodId} {args : Array Value} {below : List Frame} {meth : Method} {c : Code} {T : State} {locs : List Loc} {cells slots : Nat}
variable {S0 : State} {D : va_G} {base : Nat} {ad : Nat → Nat} {A0 : Array Value}
/-- the method that a name names, by its words -/
theorem am_meth (hZ : am_Z S0 D base ad A0) (hW : S0.WarmedH s.vm) {k : Nat} (hk : am_mok k) : ∃ (mk : MethodId) (mt : Method) (ck : Code), s.methodNamed? (am_y k) = some mk ∧ s.vm.method? mk = some mt ∧ mt.code = some ck ∧ ck.code = am_b k ∧ ck.maxLocals = am_ml k ∧ mt.sig.returnType = am_rt k ∧ mt.locks = false ∧ parseMethodDescriptor (am_y k).desc = some mt.sig ∧
    am_hok k (ck.exceptionTable.toList.map (fun h => (h.startPc, h.endPc, h.handlerPc, h.catchType))) := by
  rcases hk.1 with ⟨hc, hh⟩ | ⟨hh, hc, ho⟩
  · have h := am_word hZ hW hc rfl #[]
    obtain ⟨mk, hn⟩ := Cond.code_named h
    obtain ⟨mt, ck, h1, h2, h3, h4, h5, h6, h7, h8⟩ := Cond.code_spec hn h
    refine ⟨mk, mt, ck, hn, h1, h2, h3, h4, h5, h6, h8, ?_⟩
    have : ck.exceptionTable = #[] := by simpa using h7
    unfold am_hok
    rw [this, hh]
    trivial
  · have h := am_word hZ hW hc rfl #[]
    obtain ⟨mk, mt, ck, hn, h1, h2, h3, h4, h7, h5, h6, h8⟩ := Cond.codeWith_spec h
    exact ⟨mk, mt, ck, hn, h1, h2, h3, h4, h5, h6, h8, by rw [h7]; exact ho⟩
/-- a walk may be said anew from where it stands -/
theorem am_rebase (X : Stand p l e R s m args below meth c T locs cells slots) (hc : cells ≤ R.cells) (hs : slots ≤ R.slots) :
    Stand p l e { R with cells := R.cells - cells, slots := R.slots - slots } (T.setFrames (.invoking m args :: below)) m args below meth c T [] 0 0 := by
  obtain ⟨g₀, hfr⟩ := X.frames_eq
  obtain ⟨t, ht, -⟩ := State.frames_cons hfr
  have hcur : T.cur < T.threads.size := State.cur_lt_of_frames hfr
  have hf : (T.setFrames (.invoking m args :: below)).frames = .invoking m args :: below := State.frames_setFrames _ hcur
  obtain ⟨t2, ht2, -⟩ := State.frames_cons hf
  have hm : (T.setFrames (.invoking m args :: below)).vm.method? m = some meth := X.method'
  refine ⟨X.admits, X.cas, X.clock, hf, ?_, ?_, hm, X.code, X.here, X.tail, State.WarmedH.refl _, by rw [State.stackLimits_setFrames], by rw [State.stackBytes_setFrames], ?_⟩
  · have hr := X.room
    have hr' := X.book
    have h1 := X.heapSize
    have h2 := X.used
    simp only [State.hasRoom, Bool.and_eq_true, decide_eq_true_eq] at hr ⊢
    rw [State.localsInUse_invoking X.frames X.method X.code, X.frames, ← X.limits, ← X.bytes] at hr
    rw [State.localsInUse_invoking hf hm X.code, hf, State.stackLimits_setFrames, State.stackBytes_setFrames]
    refine ⟨⟨⟨hr.1.1.1, ?_⟩, ?_⟩, hr'⟩
    · show T.heap.size + (R.cells - cells) ≤ _
      have := hr.1.1.2
      omega
    · show T.slotsUsed + (R.slots - slots) ≤ _
      have := hr.1.2
      omega
  · have hh := X.hears
    have hcd : ∀ q : MethodId, (T.setFrames (.invoking m args :: below)).code? q = s.code? q := fun q => by
      rw [State.code?_eq, State.code?_eq]
      show (T.vm.method? q).bind _ = _
      rw [X.warmed.alike.method?]
    have hmm : ∀ q : MethodId, (T.setFrames (.invoking m args :: below)).vm.method? q = s.vm.method? q := fun q => X.warmed.alike.method? q
    unfold State.hears at hh ⊢
    simp only [hcd, hmm]
    exact hh
  · have h := (State.sameButNew.refl (T.setFrames (.invoking m args :: below)) ht2).setFrames T.frames (State.cur_lt_of_frames hf)
    rw [State.setFrames_setFrames, State.setFrames_self ht] at h
    exact h
/-- words on statics move with the heap -/
theorem am_stat {s0 U : State} (hv : s0.vm.Alike U.vm) (hh : ∀ (a : Nat) (cell : Cell), s0.heap[a]? = some cell → U.heap[a]? = some cell) {O n d : String} {A A' : Array Value} (h : (Cond.laysStatic O n d).before A s0 = true) : (Cond.laysStatic O n d).before A' U = true := by
  obtain ⟨c, k, i, f, a, cell, hc, hi, hst, ha, hcell, hs, hcls, hlt, hty⟩ := Cond.laysStatic_spec h
  obtain ⟨k', hi', hek⟩ := State.fieldFound?_setVm hv hi
  exact Cond.laysStatic_of (s := U) (by rw [hv.findClass]; exact hc) hi' hst (by rw [hek]; exact ha) (hh _ _ hcell) hs hcls hlt (by rw [hek]; exact hty)
theorem am_statR {s0 U : State} (hv : s0.vm.Alike U.vm) (hh : ∀ (a : Nat) (cell : Cell), s0.heap[a]? = some cell → U.heap[a]? = some cell) {O n d : String} {A A' : Array Value} (h0 : (Cond.laysStatic O n d).before A s0 = true) (h : (Cond.isRef (.static O n d)).before A s0 = true) : (Cond.isRef (.static O n d)).before A' U = true := by
  obtain ⟨c, k, i, f, a, cell, hc, hi, hst, ha, hcell, hs, hcls, hlt, hty⟩ := Cond.laysStatic_spec h0
  obtain ⟨k', hi', hek⟩ := State.fieldFound?_setVm hv hi
  have hi2 : U.fieldFound? O n d = some (c, k', i, f) := hi'
  have ha2 : k'.statics = some a := by rw [hek]; exact ha
  have e0 : (Term.static O n d).eval A s0 none [] s0 = cell.slots[f.slot]? := by
    simp [Term.eval, State.fieldNamed?, hi, hst, ha, hcell, hs]
  have e1 : (Term.static O n d).eval A' U none [] U = cell.slots[f.slot]? := by
    simp [Term.eval, State.fieldNamed?, hi2, hst, ha2, hh _ _ hcell, hs]
  simp only [Cond.before, Cond.holds, Cond.value] at h ⊢
  rw [e1]
  rw [e0] at h
  exact h
/-- the words of the tables wherever a walk stands -/
def am_wd : Cond → Bool
  | .castable .. => true
  | .declares .. => true
  | .laysStatic .. => true
  | .isRef (.static O n d) => decide (Cond.laysStatic O n d ∈ am_tbl)
  | .fieldLinkNest .. => true
  | .methodLinkNest .. => true
  | w => goodWord w
theorem am_wordX (hZ : am_Z S0 D base ad A0) (hW : S0.WarmedH s.vm) (hh : ∀ a : Nat, a < base → s.heap[a]? = S0.heap[a]?) {w : Cond} (hw : w ∈ am_tbl) (hg : am_wd w = true) (a : Array Value) : w.before a s = true := by
  have h0 := hZ.1 w hw
  have hh' : ∀ (a : Nat) (cell : Cell), S0.heap[a]? = some cell → s.heap[a]? = some cell := fun a cell ha => by
    rw [hh a (by rw [hZ.2.2.1.1]; exact (Array.getElem?_eq_some_iff.mp ha).1)]; exact ha
  unfold am_wd at hg
  split at hg
  · exact va_Nw.use rfl (va_Nw.warmC hW (va_Nw.of rfl h0))
  · exact va_Nw.use rfl (va_Nw.warmD hW (va_Nw.of rfl h0))
  · exact am_stat hW.alike hh' h0
  · exact am_statR hW.alike hh' (hZ.1 _ (of_decide_eq_true hg)) h0
  · exact va_Nw.use rfl (va_Nw.warmF hW (va_Nw.of rfl h0))
  · exact va_Nw.use rfl (va_Nw.warmM hW (va_Nw.of rfl h0))
  · exact am_word hZ hW hw hg a
/-- an invoking instruction comes to its method -/
def am_Ent (p : Program) (l : Launch) (e : Env) (R : Room) (s : State) (m : MethodId) (args : Array Value) (below : List Frame) (meth : Method) (c : Code) (H : Heap) (locs : List Loc) (cells slots k pc : Nat) (ls : Array Slot) (as rest : List Value) : Prop :=
  ∀ T : State, T.heap = H → Stand p l e R s m args below meth c T locs cells slots → ∃ (vm1 : Vm) (mk : MethodId), Stand p l e R s m args below meth c (T.setVm vm1) locs cells slots ∧ s.methodNamed? (am_y k) = some mk ∧
    ∀ target, (∀ acts, Steps p.tables e below (doInvoke e ((T.setVm vm1).setTop (F0 m pc ls rest)) acts mk as.toArray).1 target) → Steps p.tables e below (T.setTop (F0 m pc ls (as.reverse ++ rest))) target
def am_lok (mid x k : Nat) : Prop := Cond.methodLink (am_y mid).cls x (am_y k) ∈ am_tbl ∨ ∃ host, Cond.methodLinkNest (am_y mid).cls x (am_y k) host ∈ am_tbl
theorem am_len {k n : Nat} (h : (parseMethodDescriptor (am_y k).desc).map (fun d => d.parameters.length) = some n) {sig : Jvm.ClassFile.MethodDescriptor} (hs : parseMethodDescriptor (am_y k).desc = some sig) : n = sig.parameters.length := by
  rw [hs] at h
  exact (Option.some.inj h).symm
theorem am_entS (hZ : am_Z S0 D base ad A0) {mid : Nat} (hX : am_X p S0 s m meth c mid) {H : Heap} {k x n pc : Nat} (hk : am_mok k) (hst : Cond.static (am_y k) ∈ am_tbl) (hl : am_lok mid x k) (hn : (parseMethodDescriptor (am_y k).desc).map (fun d => d.parameters.length) = some n) {ls : Array Slot} {as rest : List Value} (has : as.length = n) (hd : decode c.code pc = .ok (.invokestatic x, 3)) :
    am_Ent p l e R s m args below meth c H locs cells slots k pc ls as rest := by
  intro T hT X
  obtain ⟨mk, mt, ck, g1, g2, g3, g4, g5, g6, g7, g8, -⟩ := am_meth hZ hX.2.1 hk
  have hown := findClass_of_methodNamed hX.2.2.1
  obtain ⟨kP, hkP, -⟩ := className_of_methodNamed g1
  have hinit := Cond.initialized_spec (findClass_of_methodNamed g1) hkP (am_word hZ hX.2.1 hk.2.2.2.1 rfl args)
  have hstat := Cond.static_spec g1 g2 (am_word hZ hX.2.1 hst rfl args)
  rcases hl with hl | ⟨host, hl⟩
  · obtain ⟨vm1, X1, st⟩ := X.invokestatic hX.1 hown (am_word hZ hX.2.1 hl rfl args) g1 g2 hstat hkP hinit hk.2.2.1 (g := F0 m pc ls (as.reverse ++ rest)) rfl (argsL := as) (rest := rest) (by rw [has]; exact am_len hn g8) rfl hd
    exact ⟨vm1, mk, X1, g1, st⟩
  · obtain ⟨vm1, X1, st⟩ := X.invokestaticNest hX.1 hown (va_Nw.use rfl (va_Nw.warmM hX.2.1 (va_Nw.of rfl (hZ.1 _ hl)))) g1 g2 hstat hkP hinit hk.2.2.1 (g := F0 m pc ls (as.reverse ++ rest)) rfl (argsL := as) (rest := rest) (by rw [has]; exact am_len hn g8) rfl hd
    exact ⟨vm1, mk, X1, g1, st⟩
theorem am_entV (hZ : am_Z S0 D base ad A0) {mid : Nat} (hX : am_X p S0 s m meth c mid) {H : Heap} {k x n pc : Nat} (hk : am_mok k) (hin : Cond.instanceMethod (am_y k) ∈ am_tbl) (hse : Cond.selects (am_y k).cls (am_y k) (am_y k) ∈ am_tbl) (hl : am_lok mid x k) (hn : (parseMethodDescriptor (am_y k).desc).map (fun d => d.parameters.length) = some n) {ls : Array Slot} {a : Nat} {as rest : List Value} (has : as.length = n)
    {cell : Cell} (hcell : H[a]? = some cell) (hvm : cell.vm = .none) (hcls : s.vm.findClass (am_y k).cls = some cell.cls) (hd : decode c.code pc = .ok (.invokevirtual x, 3)) :
    am_Ent p l e R s m args below meth c H locs cells slots k pc ls (.ref a :: as) rest := by
  intro T hT X
  obtain ⟨mk, mt, ck, g1, g2, g3, g4, g5, g6, g7, g8, -⟩ := am_meth hZ hX.2.1 hk
  have hown := findClass_of_methodNamed hX.2.2.1
  obtain ⟨mk', mt', hn', hm', hst', hab'⟩ := Cond.instanceMethod_spec (am_word hZ hX.2.1 hin rfl args)
  cases Option.some.inj (g1.symm.trans hn')
  cases Option.some.inj (g2.symm.trans hm')
  obtain ⟨c2, r2, m2, q1, q2, q3, q4, kP, hkP, hkPi⟩ := Cond.selects_spec (am_word hZ hX.2.1 hse rfl args)
  cases Option.some.inj (hcls.symm.trans q1)
  cases Option.some.inj ((State.methodFound?_of_named g1 hk.2.2.1).symm.trans q2)
  cases Option.some.inj (g1.symm.trans q3)
  have hsel : selectMethod e.platform s.vm cell.cls mk = .method mk := by rw [Launch.admits_selectMethod X.admits]; exact q4
  have hstk : (F0 m pc ls ((Value.ref a :: as).reverse ++ rest)).stack = as.reverse ++ .ref a :: rest := by simp
  rcases hl with hl | ⟨host, hl⟩
  · obtain ⟨vm1, X1, st⟩ := X.invokevirtual hX.1 hown (am_word hZ hX.2.1 hl rfl args) g1 g2 hst' hkP hkPi hk.2.2.1 (a := a) (cell := cell) (by rw [hT]; exact hcell) (fun z h => by rw [hvm] at h; cases h) hsel g2 hab' hkP hkPi
      (g := F0 m pc ls ((Value.ref a :: as).reverse ++ rest)) rfl (argsL := as) (rest := rest) (by rw [has]; exact am_len hn g8) hstk hd
    exact ⟨vm1, mk, X1, g1, st⟩
  · obtain ⟨vm1, X1, st⟩ := X.invokevirtualNest hX.1 hown (va_Nw.use rfl (va_Nw.warmM hX.2.1 (va_Nw.of rfl (hZ.1 _ hl)))) g1 g2 hst' hkP hkPi hk.2.2.1 (a := a) (cell := cell) (by rw [hT]; exact hcell) (fun z h => by rw [hvm] at h; cases h) hsel g2 hab' hkP hkPi
      (g := F0 m pc ls ((Value.ref a :: as).reverse ++ rest)) rfl (argsL := as) (rest := rest) (by rw [has]; exact am_len hn g8) hstk hd
    exact ⟨vm1, mk, X1, g1, st⟩
theorem am_entI (hZ : am_Z S0 D base ad A0) {mid : Nat} (hX : am_X p S0 s m meth c mid) {H : Heap} {k x n pc : Nat} (hk : am_mok k) (hc : Cond.code (am_y k) (am_b k) (am_ml k) none ∈ am_tbl) (hnm : (am_y k).name = "<init>") (hin : Cond.instanceMethod (am_y k) ∈ am_tbl) (hl : am_lok mid x k) (hn : (parseMethodDescriptor (am_y k).desc).map (fun d => d.parameters.length) = some n) {ls : Array Slot} {a : Nat} {as rest : List Value} (has : as.length = n)
    (hd : decode c.code pc = .ok (.invokespecial x, 3)) :
    am_Ent p l e R s m args below meth c H locs cells slots k pc ls (.ref a :: as) rest := by
  intro T hT X
  have hown := findClass_of_methodNamed hX.2.2.1
  have hpl : e.platform.magicAccessors = ({} : Platform).magicAccessors := by rw [X.admits.platform]
  have hstk : (F0 m pc ls ((Value.ref a :: as).reverse ++ rest)).stack = as.reverse ++ .ref a :: rest := by simp
  rcases hl with hl | ⟨host, hl⟩
  · obtain ⟨mk, mt, ck, kP, vm1, h1, -, -, -, -, -, -, -, hW1, st⟩ := Steps.initColdArgs (e := e) X.here hX.1 X.warmed hpl hown hnm hk.2.2.1 (am_word hZ hX.2.1 hl rfl args) (am_word hZ hX.2.1 hin rfl args) (am_word hZ hX.2.1 hc rfl args) (f := F0 m pc ls ((Value.ref a :: as).reverse ++ rest)) rfl (argsL := as) (rest := rest) (fun sig hs => by rw [has]; exact am_len hn hs) hstk hd
    exact ⟨vm1, mk, X.noted hW1, h1, st⟩
  · obtain ⟨mk, mt, ck, kP, vm1, h1, -, -, -, -, -, -, -, hW1, st⟩ := Steps.initColdArgsNest (e := e) X.here hX.1 X.warmed hpl hown hnm hk.2.2.1 (va_Nw.use rfl (va_Nw.warmM hX.2.1 (va_Nw.of rfl (hZ.1 _ hl)))) (am_word hZ hX.2.1 hin rfl args) (am_word hZ hX.2.1 hc rfl args) (f := F0 m pc ls ((Value.ref a :: as).reverse ++ rest)) rfl (argsL := as) (rest := rest) (fun sig hs => by rw [has]; exact am_len hn hs) hstk hd
    exact ⟨vm1, mk, X.noted hW1, h1, st⟩
end AMC
