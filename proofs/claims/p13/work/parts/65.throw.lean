/-! THROWING: new, dup, ldc, the constructor with its message, athrow -/
section AMT
variable {p : Program} {l : Launch} {e : Env} {R : Room} {s : State} {m : MethodId} {args : Array Value} {below : List Frame} {meth : Method} {c : Code} {H : Heap} {locs : List Loc} {cells slots : Nat}
variable {S0 : State} {D : va_G} {base : Nat} {ad : Nat → Nat} {A0 : Array Value}
/-- the tables' words at a place that throws: the class X, the pool's entries of new, of the constructor, of the text -/
def am_tok (own X : String) (x ic it : Nat) (tx : String) : Prop :=
  Cond.classLink own x X ∈ am_tbl ∧ Cond.initialized X ∈ am_tbl ∧ Cond.stringRef own it tx ∈ am_tbl ∧ (∀ w ∈ Bundle.ownAtoms own ic X ["java/lang/RuntimeException", "java/lang/Exception"], w ∈ am_tbl ∧ am_wd w = true) ∧ Bundle.fit X = true
theorem am_string (hZ : am_Z S0 D base ad A0) (hW : S0.WarmedH s.vm) {own tx : String} {it : Nat} (h : Cond.stringRef own it tx ∈ am_tbl) : ∃ q : Nat, vk_R own it tx q s := by
  have h0 := hZ.1 _ h
  have h1 := h0
  simp only [Cond.before, Cond.holds, Cond.value] at h1
  cases hc : S0.vm.findClass own with
  | none => simp [hc] at h1
  | some cur =>
    obtain ⟨kk, hk, -⟩ := Vm.findClass_spec hc
    simp only [hc, Option.map_some] at h1
    cases hr : S0.resolvedAt? own it with
    | none => simp [hr] at h1
    | some rr =>
      cases rr with
      | string a =>
        have hr2 : (kk.resolved[it]?).join = some (.string a) := by
          simpa [State.resolvedAt?, hc, hk] using hr
        have he : (Term.string own it).eval A0 S0 none [] S0 = some (.ref a) := by
          simp [Term.eval, hc, hk, hr2]
        exact ⟨a, vk_R.warm hW (vk_R.of (A := A0) h0 he)⟩
      | _ => simp [hr] at h1
theorem am_sbn {fs : List Frame} {u t : State} {L : List Loc} {k n : Nat} (h : (u.setFrames fs).sameButNew t L k n) : u.sameButNew t L k n := by
  obtain ⟨e1, h2⟩ := h
  refine ⟨?_, h2⟩
  rw [State.setFrames_setFrames] at e1
  exact e1
theorem am_throw (htr : e.platform.stackTraces = false) (hZ : am_Z S0 D base ad A0) {mid : Nat} (hX : am_X p S0 s m meth c mid) {X : String} {Xc x ic it : Nat} {tx : String} (hT0 : am_tok (am_y mid).cls X x ic it tx) (hcl : ∃ r : vw_C, am_cl[Xc]? = some r ∧ r.1 = X ∧ r.2.2 = 0) (hat : am_aty Xc = none) (hns : am_ns Xc = 6)
    (hout : c.exceptionTable.toList = []) {h : am_H} (hP : am_P S0 D base ad h H) (h2 : 2 ≤ h.length) (hlo : ∀ q ∈ locs, base ≤ q.base) {pc : Nat} {ls : Array Slot} {st : List Value} (hsize : ls.size = c.maxLocals) (hw : (st.map fun v => v.category).sum + 82 ≤ R.locals)
    (hd0 : decode c.code pc = .ok (.new x, 3)) (hd3 : decode c.code (pc + 3) = .ok (.dup, 1)) (hd4 : decode c.code (pc + 4) = .ok (.ldc it, 2)) (hd6 : decode c.code (pc + 6) = .ok (.invokespecial ic, 3)) (hd9 : decode c.code (pc + 9) = .ok (.athrow, 1))
    (hR : 6 ≤ R.frames) (hc : cells + 1 ≤ R.cells) (hz : slots + 6 ≤ R.slots) :
    W p l e R s m args below meth c H locs cells slots (am_Q S0 D base ad below s (.inr Xc) (h ++ [(Xc, [])]) (cells + 1) (slots + 6)) (F0 m pc ls st) := by
  intro T hT X0
  obtain ⟨t1, t2, t3, t4, t5⟩ := hT0
  have hlk := hX.2.2.2.2.2.2.1
  have X1 := am_rebase X0 (by omega) (by omega)
  have hW1 : S0.WarmedH (T.setFrames (.invoking m args :: below)).vm := State.WarmedH.trans hX.2.1 X0.warmed
  have hold : ∀ a : Nat, a < base → (T.setFrames (.invoking m args :: below)).heap[a]? = S0.heap[a]? := fun a ha => by
    show T.heap[a]? = _
    rw [hT]; exact hP.2.2 a ha
  have hown : (T.setFrames (.invoking m args :: below)).vm.findClass (am_y mid).cls = some m.cls := by
    show T.vm.findClass _ = _
    rw [X0.warmed.alike.findClass]
    exact findClass_of_methodNamed hX.2.2.1
  have word : ∀ w : Cond, w ∈ am_tbl → am_wd w = true → w.before args (T.setFrames (.invoking m args :: below)) = true := fun w h1 h2 => am_wordX hZ hW1 hold h1 h2 args
  obtain ⟨q, hq⟩ := am_string hZ hW1 t3
  have key : W p l e { R with cells := R.cells - cells, slots := R.slots - slots } (T.setFrames (.invoking m args :: below)) m args below meth c H [] 0 0
      (fun t => t.status = .running ∧ Ended t below (.threw H.size) ∧ (T.setFrames (.invoking m args :: below)).WarmedH t.vm ∧ (T.setFrames (.invoking m args :: below)).sameButNew ({ t with vm := (T.setFrames (.invoking m args :: below)).vm } : State) [] 1 6 ∧
        ∃ ce, t.heap[H.size]? = some ce ∧ Bundle.OwnCell args (T.setFrames (.invoking m args :: below)) X H.size (.ref q) ce) (F0 m pc ls st) := by
    refine W.newc hX.1 rfl hown (word _ t1 rfl) (word (.instantiable X 6) (t4 _ (by simp [Bundle.ownAtoms])).1 rfl) (word _ t2 rfl) rfl hd0 (by show 0 + 1 ≤ R.cells - cells; omega) (by show 0 + 6 ≤ R.slots - slots; omega) (fun cC kC f1 f2 f3 f4 => ?_)
    refine lv_dup hX.1 rfl hd3 rfl ?_
    refine va_ldcS hX.1 rfl hown hq hd4 ?_
    intro T3 hT3 X3
    obtain ⟨U, u1, u2, u3, u4, u5, u6⟩ := X3.ctorThrowS hX.1 htr (own := (am_y mid).cls) (cls := X) (names := ["java/lang/RuntimeException", "java/lang/Exception"]) (ic := ic) hown t5 (by decide) (fun w hw => word w (t4 w hw).1 (t4 w hw).2) (fun x hx => by cases hx) f1 f2 (a := H.size)
      (by rw [hT3]; simp [freshCell]) (by show T.heap.size ≤ H.size; rw [hT]; exact Nat.le_refl _) (msg := .ref q) rfl (g := F0 m (pc + 6) ls (.ref q :: .ref H.size :: .ref H.size :: st)) rfl hsize rfl rfl rfl hd6 hd9 (fun x hx => by rw [hout] at hx; cases hx)
      (by show 2 + 3 < R.frames; omega) (by show 2 * 0 + (1 + (st.map fun v => v.category).sum) + (13 * (2 + 1) + 42) ≤ R.locals; omega) hlk
    exact ⟨U, u1, u2, u3, u4, u5, u6⟩
  obtain ⟨t, k1, k2, k3, k4, k5, ce, k6, k7⟩ := key T hT X1
  have hsb : T.sameButNew (t.setVm T.vm) [] 1 6 := am_sbn k5
  have hszT : T.heap.size ≤ t.heap.size ∧ t.heap.size ≤ T.heap.size + 1 := ⟨hsb.2.1, hsb.2.2.1⟩
  have hsz : t.heap.size = H.size + 1 := by
    have := (Array.getElem?_eq_some_iff.mp k6).1
    rw [hT] at hszT
    omega
  have hkeep : ∀ q, q < H.size → t.heap[q]? = H[q]? := fun q hq => by
    have h1 : ∃ cc, H[q]? = some cc := ⟨_, Array.getElem?_eq_getElem hq⟩
    obtain ⟨cc, h1⟩ := h1
    rw [h1]
    exact State.sameButNew.old_cell hsb (by rw [hT]; exact h1)
  have hb0 : base ≤ H.size := by have := hP.1; omega
  have hnew := hP.new hZ.2.2.2 h2
  obtain ⟨r, r1, r2, r3⟩ := hcl
  have hPt : am_P S0 D base ad (h ++ [(Xc, [])]) t.heap := by
    refine hP.push hZ.2.2.2 h2 hb0 ?_ hsz hkeep
    unfold am_cell
    rw [hat]
    refine ⟨r, r1, by rw [r3]; exact Nat.zero_le _, ?_⟩
    rw [hnew]
    refine ⟨ce, k6, ?_, k7.vm, fun k hk => absurd hk (by rw [r3]; exact Nat.not_lt_zero k)⟩
    have h1 := k7.cls
    have h3 := (hZ.2.1.1 Xc r r1).2.1
    rw [r2] at h3
    have h4 : S0.vm.findClass X = some ce.cls := by
      rw [← hW1.alike.findClass]; exact h1
    exact Option.some.inj (h4.symm.trans h3)
  refine ⟨t, k1, .threw H.size, locs, k2, k3, ⟨by simp [hnew], by simp⟩, State.WarmedH.trans X0.warmed k4, ?_, hlo, hPt⟩
  have := X0.same.trans (hsb.setVm s.vm)
  rw [List.append_nil] at this
  exact this
end AMT
