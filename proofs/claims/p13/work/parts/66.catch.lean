/-! CATCHING: the search through a method's handlers, links made on the way -/
def am_sc (s : State) (pl : Platform) (d : ClassId) (pc : Nat) (thrown : ClassId) : List ExceptionTableEntry → Nat → Prop
  | [], _ => False
  | y :: ys, q => (covers y pc = false ∧ am_sc s pl d pc thrown ys q) ∨ (covers y pc = true ∧ y.catchType ≠ 0 ∧ ∃ c, s.vm.ClassLinks pl d y.catchType c ∧ ((s.vm.assignable thrown c = true ∧ q = y.handlerPc) ∨ (s.vm.assignable thrown c = false ∧ am_sc s pl d pc thrown ys q)))
theorem am_scan {e : Env} {s : State} {f : JFrame} {a : Addr} {cell : Cell} (hobj : ∀ k, cell.vm ≠ .statics k) (hk0 : ∃ k, s.vm.classes[cell.cls]? = some k) {q : Nat} :
    ∀ (es : List ExceptionTableEntry) (S : State), s.WarmedH S.vm → S.heap[a]? = some cell → am_sc s e.platform f.method.cls f.pc cell.cls es q →
      ∃ vm', s.WarmedH vm' ∧ ∀ (Q : Handler → Pre) (E : CtlPost) (d : Bool) (acts : List Action), wp (findHandler.go f a es) Q E e d acts S ↔ Q (.found q) d acts (S.setVm vm')
  | [], _, _, _, h => h.elim
  | y :: ys, S, hW, hcell, h => by
    rcases h with ⟨h1, h2⟩ | ⟨h1, h0, c, hl, h2⟩
    · obtain ⟨vm', g1, g2⟩ := am_scan hobj hk0 ys S hW hcell h2
      exact ⟨vm', g1, fun Q E d acts => (W.findHandler_go_skip h1).trans (g2 Q E d acts)⟩
    · obtain ⟨k0, hk0'⟩ := hk0
      obtain ⟨dk, _, _, kt, hd, _, _, _, _, hkt, _, hopen⟩ := hl.here
      have hW2 := hW.noted hd hopen (State.rightAt_cls hl)
      obtain ⟨k1, hk1, -⟩ := hW2.alike.2.2 _ _ hk0'
      obtain ⟨k2, hk2, -⟩ := hW2.alike.2.2 _ _ hkt
      obtain ⟨ha, ht⟩ := (resolveClass_links e.toSetting (hW.classLinks hl)).op (op := VmOp.resolveClass f.method.cls y.catchType) rfl
      have hx : (decide (y.startPc ≤ f.pc) && decide (f.pc < y.endPc)) = true := h1
      have hasg : (S.vm.noted f.method.cls y.catchType (.cls c)).assignable cell.cls c = s.vm.assignable cell.cls c := by rw [hW2.alike.assignable]
      rcases h2 with ⟨hfit, rfl⟩ | ⟨hno, h2⟩
      · refine ⟨_, hW2, fun Q E d acts => ?_⟩
        rw [hfit] at hasg
        simp [findHandler.go, hx, h0, ha, ht, hcell, hobj, hk1, hk2, hasg, VmOp.dirties, VmOp.acts]
      · rw [hno] at hasg
        obtain ⟨vm', g1, g2⟩ := am_scan hobj ⟨k0, hk0'⟩ ys (S.setVm (S.vm.noted f.method.cls y.catchType (.cls c))) hW2 hcell h2
        refine ⟨vm', g1, fun Q E d acts => ?_⟩
        refine Iff.trans ?_ (g2 Q E d acts)
        simp [findHandler.go, hx, h0, ha, ht, hcell, hobj, hk1, hk2, hasg, VmOp.dirties, VmOp.acts]
theorem am_stepcatch {e : Env} {s : State} {a : Addr} {f : JFrame} {r : List Frame} {pc : Nat} {vm' : Vm} (hfind : ∀ (Q : Handler → Pre) (E : CtlPost) (d : Bool) (acts : List Action), wp (findHandler f a) Q E e d acts s ↔ Q (.found pc) d acts (s.setVm vm')) :
    (stepThrowing e s a (.java f :: r)).Is ((s.setVm vm').setFrames (.java { f with pc := pc, stack := [.ref a] } :: r)) [] := by
  simp only [stepThrowing, searchFrame, vmDo]
  generalize hr : Sem.go _ e false [] s = res
  obtain ⟨as, rfl, ha⟩ := Sem.eq_ok_of hr (a := Handler.found pc) (s' := s.setVm vm') (acts' := []) (by simp [hfind _ _ _ _])
  exact ⟨rfl, ha⟩
section AMX
variable {p : Program} {l : Launch} {e : Env} {R : Room} {s : State} {m : MethodId} {args : Array Value} {below : List Frame} {meth : Method} {c : Code} {T : State} {locs : List Loc} {cells slots : Nat}
theorem am_caught (X : Stand p l e R s m args below meth c T locs cells slots) {a : Addr} {g : JFrame} (hg : g.method = m) {cell : Cell} (hcell : T.heap[a]? = some cell) (hobj : ∀ k, cell.vm ≠ .statics k) (hk0 : ∃ k, s.vm.classes[cell.cls]? = some k) {q : Nat}
    (hsc : am_sc s e.platform m.cls g.pc cell.cls c.exceptionTable.toList q) :
    ∃ vm', Stand p l e R s m args below meth c (T.setVm vm') locs cells slots ∧
      ∀ target, Steps p.tables e below ((T.setVm vm').setTop { g with pc := q, stack := [.ref a] }) target → Steps p.tables e below ((T.setTop g).pushFrame (.throwing a)) target := by
  subst hg
  obtain ⟨vm', hW', hq⟩ := am_scan (e := e) (f := g) hobj hk0 c.exceptionTable.toList ((T.setTop g).pushFrame (.throwing a)) X.warmed hcell hsc
  refine ⟨vm', X.noted hW', fun target hrest => ?_⟩
  have hm : ((T.setTop g).pushFrame (.throwing a)).vm.method? g.method = some meth := X.method'
  obtain ⟨hgo, hw⟩ := X.here.throwing a
  refine Steps.head hgo hw ?_
  rw [stepThread_throwing (frames_entered X.here.top _), (am_stepcatch (s := (T.setTop g).pushFrame (.throwing a)) (vm' := vm') (pc := q) (fun Q E d acts => by rw [W.findHandler_eq hm X.code]; exact hq Q E d acts)).1]
  obtain ⟨g₀, hg⟩ := Option.isSome_iff_exists.mp X.here.top
  obtain ⟨r, hr⟩ := State.topJava?_eq_some.mp hg
  have hr' : (T.setVm vm').frames = .java g₀ :: r := hr
  rw [State.setTop_of_frames _ hr'] at hrest
  rw [State.pushFrame, State.setTop_of_frames _ hr, State.setFrames_setFrames]
  show Steps p.tables e below (((T.setVm vm').setFrames _).setFrames _) target
  rw [State.setFrames_setFrames, hr]
  exact hrest
end AMX
