/-! THE CELLS: what of the heap the abstract machine's cells say -/
def am_isI : Value → Bool
  | .int _ => true
  | _ => false
/-- D: the classes' numbers and slots; S0: the tables; ad: the addresses of the places -/
def am_cell (S0 : State) (D : va_G) (ad : Nat → Nat) (a : Nat) (x : am_C) (H : Heap) : Prop := match am_aty x.1 with
  | some ty => ∃ (cell : Cell) (ext : List Value), H[a]? = some cell ∧ S0.isArrayOf cell ty ∧ cell.vm ≠ .unknown ∧ cell.slots = (x.2.map (am_rv ad) ++ ext).toArray ∧ (ty = .int → ∀ v ∈ x.2, am_isI v = true) ∧ cell.slots.size.toInt32 = Int32.ofNat x.2.length
  | none => ∃ r : vw_C, am_cl[x.1]? = some r ∧ r.2.2 ≤ x.2.length ∧ t_OB a (D.1 x.1) r.2.2 (D.2 x.1) H (vp_V (x.2.map (am_rv ad)))
/-- the addresses: two places of the start, then the cells that were made, in their order -/
def am_ad (base : Nat) (ad : Nat → Nat) : Prop := (∀ k : Nat, ad (k + 2) = base + k) ∧ ad 0 < base ∧ ad 1 < base
def am_P (S0 : State) (D : va_G) (base : Nat) (ad : Nat → Nat) (h : am_H) (H : Heap) : Prop :=
  H.size + 2 = base + h.length ∧ (∀ (k : Nat) (x : am_C), h[k]? = some x → am_cell S0 D ad (ad k) x H) ∧ ∀ a : Nat, a < base → H[a]? = S0.heap[a]?
theorem am_cell.kept {S0 : State} {D : va_G} {ad : Nat → Nat} {a : Nat} {x : am_C} {H H1 : Heap} (h : am_cell S0 D ad a x H) (hq : H1[a]? = H[a]?) : am_cell S0 D ad a x H1 := by
  unfold am_cell at h ⊢
  split at h
  · obtain ⟨cell, ext, h1, h2⟩ := h
    exact ⟨cell, ext, by rw [hq]; exact h1, h2⟩
  · obtain ⟨r, h1, h2, h3⟩ := h
    exact ⟨r, h1, h2, h3.kept hq⟩
theorem am_ad.ge {base : Nat} {ad : Nat → Nat} (h : am_ad base ad) {k : Nat} (hk : 2 ≤ k) : ad k = base + (k - 2) := by
  obtain ⟨j, rfl⟩ : ∃ j, k = j + 2 := ⟨k - 2, by omega⟩
  rw [h.1 j]; simp
theorem am_ad.lt {base : Nat} {ad : Nat → Nat} (h : am_ad base ad) {k : Nat} (hk : ¬ 2 ≤ k) : ad k < base := by
  rcases (show k = 0 ∨ k = 1 by omega) with rfl | rfl
  · exact h.2.1
  · exact h.2.2
theorem am_ad.ne {base : Nat} {ad : Nat → Nat} (h : am_ad base ad) {j k : Nat} (hk : 2 ≤ k) (hjk : j ≠ k) : ad j ≠ ad k := by
  by_cases hj : 2 ≤ j
  · rw [h.ge hj, h.ge hk]; omega
  · have := h.lt hj
    rw [h.ge hk]; omega
theorem am_P.set {S0 : State} {D : va_G} {base : Nat} {ad : Nat → Nat} {h : am_H} {H H1 : Heap} (hP : am_P S0 D base ad h H) (hA : am_ad base ad) {k : Nat} {x : am_C} (hk : 2 ≤ k) (hx : am_cell S0 D ad (ad k) x H1) (hz : H1.size = H.size) (hq : ∀ q, q ≠ ad k → H1[q]? = H[q]?) : am_P S0 D base ad (h.set k x) H1 := by
  refine ⟨by rw [hz, List.length_set]; exact hP.1, fun j y hj => ?_, fun a ha => (hq a (fun e => by rw [e, hA.ge hk] at ha; omega)).trans (hP.2.2 a ha)⟩
  by_cases e : j = k
  · subst e
    have hl : j < h.length := by
      have := (List.getElem?_eq_some_iff.mp hj).1
      simpa using this
    rw [List.getElem?_set_self hl] at hj
    cases hj
    exact hx
  · rw [List.getElem?_set_ne (Ne.symm e)] at hj
    exact (hP.2.1 j y hj).kept (hq _ (hA.ne hk e))
theorem am_P.new {S0 : State} {D : va_G} {base : Nat} {ad : Nat → Nat} {h : am_H} {H : Heap} (hP : am_P S0 D base ad h H) (hA : am_ad base ad) (h2 : 2 ≤ h.length) : ad h.length = H.size := by
  rw [hA.ge h2]
  have := hP.1
  omega
theorem am_P.push {S0 : State} {D : va_G} {base : Nat} {ad : Nat → Nat} {h : am_H} {H H1 : Heap} (hP : am_P S0 D base ad h H) (hA : am_ad base ad) (h2 : 2 ≤ h.length) (hb : base ≤ H.size) {x : am_C} (hx : am_cell S0 D ad (ad h.length) x H1) (hz : H1.size = H.size + 1) (hq : ∀ q, q < H.size → H1[q]? = H[q]?) : am_P S0 D base ad (h ++ [x]) H1 := by
  refine ⟨by rw [hz, List.length_append]; simp; have := hP.1; omega, fun j y hj => ?_, fun a ha => (hq a (Nat.lt_of_lt_of_le ha hb)).trans (hP.2.2 a ha)⟩
  by_cases e : j < h.length
  · rw [List.getElem?_append_left e] at hj
    refine (hP.2.1 j y hj).kept (hq _ ?_)
    by_cases hj2 : 2 ≤ j
    · rw [hA.ge hj2]
      have := hP.1
      omega
    · exact Nat.lt_of_lt_of_le (hA.lt hj2) hb
  · rw [List.getElem?_append_right (by omega)] at hj
    have hl : j - h.length < 1 := (List.getElem?_eq_some_iff.mp hj).1
    obtain rfl : j = h.length := by omega
    rw [Nat.sub_self] at hj
    cases hj
    exact hx
theorem am_rv_map_get {ad : Nat → Nat} {fs : List Value} {k : Nat} {v : Value} (h : fs[k]? = some v) : ((fs.map (am_rv ad)).toArray)[k]? = some (am_rv ad v) := by
  simp [h]
theorem am_arr_set {ad : Nat → Nat} {cell : Cell} {fs : List Value} {k : Nat} {v : Value} (h : cell.slots = (fs.map (am_rv ad)).toArray) : (cell.setSlot k (am_rv ad v)).slots = ((fs.set k v).map (am_rv ad)).toArray := by
  simp [Cell.setSlot, h, List.map_set]
theorem am_int_set {ty : FieldType} {fs : List Value} {k : Nat} {v : Value} (h : ty = .int → ∀ w ∈ fs, am_isI w = true) (hv : ty = .int → am_isI v = true) : ty = .int → ∀ w ∈ fs.set k v, am_isI w = true := fun e w hw => (List.mem_or_eq_of_mem_set hw).elim (h e w) (fun q => by rw [q]; exact hv e)
theorem am_arr_of {S0 : State} {cell : Cell} {ty : FieldType} {k : Nat} {v : Value} (h : S0.isArrayOf cell ty) : S0.isArrayOf (cell.setSlot k v) ty := h
/-- slots of a cell, of cells -/
def am_csz (x : am_C) : Nat := match am_aty x.1 with
  | some _ => x.2.length
  | none => am_ns x.1
def am_sz : am_H → Nat
  | [] => 0
  | x :: r => am_csz x + am_sz r
theorem am_sz_app : ∀ (h g : am_H), am_sz (h ++ g) = am_sz h + am_sz g
  | [], g => by simp [am_sz]
  | x :: r, g => by simp only [List.cons_append, am_sz, am_sz_app r g]; omega
theorem am_sz_set : ∀ (h : am_H) (k : Nat) (x y : am_C), h[k]? = some x → am_csz y = am_csz x → am_sz (h.set k y) = am_sz h
  | [], k, x, y, hk, _ => by simp at hk
  | z :: r, 0, x, y, hk, hs => by
    rw [List.getElem?_cons_zero] at hk
    cases hk
    simp only [List.set_cons_zero, am_sz, hs]
  | z :: r, k + 1, x, y, hk, hs => by
    rw [List.getElem?_cons_succ] at hk
    simp only [List.set_cons_succ, am_sz, am_sz_set r k x y hk hs]
/-- the start: the tables' words, the classes, the addresses -/
def am_Z (S0 : State) (D : va_G) (base : Nat) (ad : Nat → Nat) (A0 : Array Value) : Prop :=
  (∀ w ∈ am_tbl, w.before A0 S0 = true) ∧ va_K D am_cl [] S0 ∧ (base = S0.heap.size ∧ va_Z "PassChecker$Orderer" "TAKES" "[I" (.ref (ad 1)) (fun q => base ≤ q) S0 S0.heap) ∧ am_ad base ad
/-- the handlers with their classes' numbers, and as the class file has them -/
def am_hrel (own : String) : List (Nat × Nat × Nat × Nat) → List (Nat × Nat × Nat × Nat) → Prop
  | [], [] => True
  | u :: r, v :: r' => (u.1 = v.1 ∧ u.2.1 = v.2.1 ∧ u.2.2.1 = v.2.2.1 ∧ v.2.2.2 ≠ 0 ∧ (10 ≤ u.2.2.2 ∧ u.2.2.2 < 14) ∧ ∃ q : vw_C, am_cl[u.2.2.2]? = some q ∧ Cond.classLink own v.2.2.2 q.1 ∈ am_tbl) ∧ am_hrel own r r'
  | _, _ => False
def am_hok (k : Nat) (hh : List (Nat × Nat × Nat × Nat)) : Prop := am_hrel (am_y k).cls (am_hs k) hh
/-- what a walk of a method stands on -/
def am_X (p : Program) (S0 : State) (s : State) (m : MethodId) (meth : Method) (c : Code) (mid : Nat) : Prop :=
  p.tables.exec = Jvm.exec ∧ S0.WarmedH s.vm ∧ s.methodNamed? (am_y mid) = some m ∧ c.code = am_b mid ∧ c.maxLocals = am_ml mid ∧ meth.sig.returnType = am_rt mid ∧ meth.locks = false ∧ s.vm.method? m = some meth ∧ (am_y mid).cls = am_on (am_oc mid) ∧ am_hok mid (c.exceptionTable.toList.map (fun h => (h.startPc, h.endPc, h.handlerPc, h.catchType)))
theorem am_word {S0 : State} {D : va_G} {base : Nat} {ad : Nat → Nat} {A0 : Array Value} {s : State} (hZ : am_Z S0 D base ad A0) (hW : S0.WarmedH s.vm) {w : Cond} (hw : w ∈ am_tbl) (hg : goodWord w = true) (a : Array Value) : w.before a s = true :=
  word_at hW (good_of_word hg) (hZ.1 w hw)
section AMH
variable {p : Program} {l : Launch} {e : Env} {R : Room} {s : State} {m : MethodId} {args : Array Value} {below : List Frame} {meth : Method} {c : Code} {H : Heap} {locs : List Loc} {cells slots : Nat} {Q : State → Prop}
variable {S0 : State} {D : va_G} {base : Nat} {ad : Nat → Nat} {A0 : Array Value}
/-- the array at a place -/
theorem am_P.arr {h : am_H} (hP : am_P S0 D base ad h H) {a tg : Nat} {fs : List Value} (ha : h[a]? = some (tg, fs)) {ty : FieldType} (ht : am_aty tg = some ty) : ∃ (cell : Cell) (ext : List Value), H[ad a]? = some cell ∧ S0.isArrayOf cell ty ∧ cell.vm ≠ .unknown ∧ cell.slots = (fs.map (am_rv ad) ++ ext).toArray ∧ (ty = .int → ∀ v ∈ fs, am_isI v = true) ∧ cell.slots.size.toInt32 = Int32.ofNat fs.length := by
  have h1 := hP.2.1 a _ ha
  unfold am_cell at h1
  rw [ht] at h1
  exact h1
theorem am_arr_cell {a tg : Nat} {fs : List Value} {ty : FieldType} (ht : am_aty tg = some ty) {cell : Cell} (h1 : H[a]? = some cell) (h2 : S0.isArrayOf cell ty) (h3 : cell.vm ≠ .unknown) (h4 : cell.slots = (fs.map (am_rv ad)).toArray) (h5 : ty = .int → ∀ v ∈ fs, am_isI v = true) : am_cell S0 D ad a (tg, fs) H := by
  unfold am_cell
  rw [ht]
  refine ⟨cell, [], h1, h2, h3, by rw [h4, List.append_nil], h5, ?_⟩
  rw [h4]
  simp
/-- with more behind it, that nobody looks at -/
theorem am_arr_ext {a tg : Nat} {fs ext : List Value} {ty : FieldType} (ht : am_aty tg = some ty) {cell : Cell} (h1 : H[a]? = some cell) (h2 : S0.isArrayOf cell ty) (h3 : cell.vm ≠ .unknown) (h4 : cell.slots = (fs.map (am_rv ad) ++ ext).toArray) (h5 : ty = .int → ∀ v ∈ fs, am_isI v = true) (h6 : cell.slots.size.toInt32 = Int32.ofNat fs.length) : am_cell S0 D ad a (tg, fs) H := by
  unfold am_cell
  rw [ht]
  exact ⟨cell, ext, h1, h2, h3, h4, h5, h6⟩
theorem am_ext_get {fs ext : List Value} {k : Nat} {v : Value} (h : fs[k]? = some v) : ((fs.map (am_rv ad) ++ ext).toArray)[k]? = some (am_rv ad v) := by
  have hl : k < fs.length := (List.getElem?_eq_some_iff.mp h).1
  rw [List.getElem?_toArray, List.getElem?_append_left (by rw [List.length_map]; exact hl), List.getElem?_map, h]
  rfl
theorem am_ext_lt {fs ext : List Value} {cell : Cell} {k : Nat} (h : cell.slots = (fs.map (am_rv ad) ++ ext).toArray) (hk : k < fs.length) : k < cell.slots.size := by
  rw [h]
  simp
  omega
theorem am_ext_set {cell : Cell} {fs ext : List Value} {k : Nat} {v : Value} (h : cell.slots = (fs.map (am_rv ad) ++ ext).toArray) (hk : k < fs.length) : (cell.setSlot k (am_rv ad v)).slots = ((fs.set k v).map (am_rv ad) ++ ext).toArray := by
  have hl : k < (fs.map (am_rv ad)).length := by rw [List.length_map]; exact hk
  simp only [Cell.setSlot, h, List.map_set]
  rw [← List.set_append_left k (am_rv ad v) hl]
  simp
theorem am_ext_sz {cell : Cell} {fs : List Value} {k j : Nat} {v w : Value} (h : cell.slots.size.toInt32 = Int32.ofNat fs.length) : (cell.setSlot k v).slots.size.toInt32 = Int32.ofNat (fs.set j w).length := by
  rw [List.length_set, ← h]
  simp [Cell.setSlot]
theorem am_loc {a i : Nat} (h : ∀ q ∈ locs, base ≤ q.base) (ha : base ≤ a) : ∀ q ∈ locs ++ [⟨a, i⟩], base ≤ q.base := t_lc h ha
theorem am_ad.bs (hA : am_ad base ad) {k : Nat} (hk : 2 ≤ k) : base ≤ ad k := by rw [hA.ge hk]; omega
/-- a step of an instruction, cells and all -/
abbrev am_St (p : Program) (l : Launch) (e : Env) (R : Room) (s : State) (m : MethodId) (args : Array Value) (below : List Frame) (meth : Method) (c : Code) (H : Heap) (locs : List Loc) (cells slots : Nat) (Q : State → Prop) (S0 : State) (D : va_G) (base : Nat) (ad : Nat → Nat) (A0 : Array Value) (i : Jvm.ClassFile.Instr) : Prop :=
  ∀ (nL mid pc len : Nat) (L st : List Value) (h : am_H) (pc' : Nat) (L' st' : List Value) (h' : am_H) (ls : Array Slot), am_X p S0 s m meth c mid → am_Z S0 D base ad A0 → decode c.code pc = .ok (i, len) → am_lenok pc i len = true → am_step mid pc L st h i = some (pc', L', st', h') → am_L ad L nL ls → am_P S0 D base ad h H → 2 ≤ h.length → (∀ q ∈ locs, base ≤ q.base) →
    cells + h'.length ≤ R.cells + h.length → slots + am_sz h' ≤ R.slots + am_sz h →
    (∀ (H' : Heap) (locs' : List Loc) (cells' slots' : Nat) (ls' : Array Slot), am_L ad L' nL ls' → am_P S0 D base ad h' H' → h.length ≤ h'.length → (∀ q ∈ locs', base ≤ q.base) → cells' + h.length = cells + h'.length → slots' + am_sz h = slots + am_sz h' → W p l e R s m args below meth c H' locs' cells' slots' Q (F0 m pc' ls' (st'.map (am_rv ad)))) → W p l e R s m args below meth c H locs cells slots Q (F0 m pc ls (st.map (am_rv ad)))
/-- those that touch no cell -/
theorem am_St.pure {i : Jvm.ClassFile.Instr} (h : am_Ok p l e R s m args below meth c H locs cells slots Q i) : am_St p l e R s m args below meth c H locs cells slots Q S0 D base ad A0 i := by
  intro nL mid pc len L st h0 pc' L' st' h' ls hX hZ hd hn hs hl hP h2 hlo hc hz kk
  refine h ad nL mid pc len L st h0 pc' L' st' h' ls hd hn hs hl (fun e ls' hl' => ?_)
  subst e
  exact kk H locs cells slots ls' hl' hP (Nat.le_refl _) hlo rfl rfl
theorem am_k_iaload : am_St p l e R s m args below meth c H locs cells slots Q S0 D base ad A0 (.iaload) := by
  intro nL mid pc len L st h pc' L' st' h' ls hX hZ hd hn hs hl hP h2 hlo hc hz kk
  obtain rfl : len = 1 := Nat.eq_of_beq_eq_true hn
  simp only [am_step, am_ald] at hs
  split at hs
  · rename_i j a r
    split at hs
    · rename_i tg fs ha
      split at hs
      · rename_i hq
        obtain rfl := Nat.eq_of_beq_eq_true hq
        split at hs
        · cases hs
        · rename_i hj
          split at hs
          · rename_i v hv
            cases hs
            obtain ⟨cell, ext, h1, h3, h4, h5, h6, h7⟩ := hP.arr ha (ty := .int) rfl
            have hlt : j.toNatClampNeg < cell.slots.size := am_ext_lt h5 (List.getElem?_eq_some_iff.mp hv).1
            exact W.iald hX.1 rfl h1 (State.isArrayOf_alike hX.2.1.alike h3) h4 (fun z => z.elim hj (fun z => by omega)) (by rw [h5]; exact am_ext_get hv) rfl rfl hd (kk H locs cells slots ls hl hP (Nat.le_refl _) hlo rfl rfl)
          · cases hs
      · cases hs
    · cases hs
  · cases hs
theorem am_k_baload : am_St p l e R s m args below meth c H locs cells slots Q S0 D base ad A0 (.baload) := by
  intro nL mid pc len L st h pc' L' st' h' ls hX hZ hd hn hs hl hP h2 hlo hc hz kk
  obtain rfl : len = 1 := Nat.eq_of_beq_eq_true hn
  simp only [am_step, am_ald] at hs
  split at hs
  · rename_i j a r
    split at hs
    · rename_i tg fs ha
      split at hs
      · rename_i hq
        obtain rfl := Nat.eq_of_beq_eq_true hq
        split at hs
        · cases hs
        · rename_i hj
          split at hs
          · rename_i v hv
            cases hs
            obtain ⟨cell, ext, h1, h3, h4, h5, h6, h7⟩ := hP.arr ha (ty := .boolean) rfl
            have hlt : j.toNatClampNeg < cell.slots.size := am_ext_lt h5 (List.getElem?_eq_some_iff.mp hv).1
            exact W.zald hX.1 rfl h1 (State.isArrayOf_alike hX.2.1.alike h3) h4 (fun z => z.elim hj (fun z => by omega)) (by rw [h5]; exact am_ext_get hv) rfl rfl hd (kk H locs cells slots ls hl hP (Nat.le_refl _) hlo rfl rfl)
          · cases hs
      · cases hs
    · cases hs
  · cases hs
theorem am_k_laload : am_St p l e R s m args below meth c H locs cells slots Q S0 D base ad A0 (.laload) := by
  intro nL mid pc len L st h pc' L' st' h' ls hX hZ hd hn hs hl hP h2 hlo hc hz kk
  obtain rfl : len = 1 := Nat.eq_of_beq_eq_true hn
  simp only [am_step, am_ald] at hs
  split at hs
  · rename_i j a r
    split at hs
    · rename_i tg fs ha
      split at hs
      · rename_i hq
        obtain rfl := Nat.eq_of_beq_eq_true hq
        split at hs
        · cases hs
        · rename_i hj
          split at hs
          · rename_i v hv
            cases hs
            obtain ⟨cell, ext, h1, h3, h4, h5, h6, h7⟩ := hP.arr ha (ty := .long) rfl
            have hlt : j.toNatClampNeg < cell.slots.size := am_ext_lt h5 (List.getElem?_eq_some_iff.mp hv).1
            exact W.lald hX.1 rfl h1 (State.isArrayOf_alike hX.2.1.alike h3) h4 (fun z => z.elim hj (fun z => by omega)) (by rw [h5]; exact am_ext_get hv) rfl rfl hd (kk H locs cells slots ls hl hP (Nat.le_refl _) hlo rfl rfl)
          · cases hs
      · cases hs
    · cases hs
  · cases hs
theorem am_k_aaload : am_St p l e R s m args below meth c H locs cells slots Q S0 D base ad A0 (.aaload) := by
  intro nL mid pc len L st h pc' L' st' h' ls hX hZ hd hn hs hl hP h2 hlo hc hz kk
  obtain rfl : len = 1 := Nat.eq_of_beq_eq_true hn
  simp only [am_step, am_ald] at hs
  split at hs
  · rename_i j a r
    split at hs
    · rename_i tg fs ha
      split at hs
      · rename_i hq
        obtain rfl := Nat.eq_of_beq_eq_true hq
        split at hs
        · cases hs
        · rename_i hj
          split at hs
          · rename_i v hv
            cases hs
            obtain ⟨cell, ext, h1, h3, h4, h5, h6, h7⟩ := hP.arr ha (ty := (.array .int)) rfl
            have hlt : j.toNatClampNeg < cell.slots.size := am_ext_lt h5 (List.getElem?_eq_some_iff.mp hv).1
            exact W.aald hX.1 rfl h1 (State.isArrayOf_alike hX.2.1.alike h3) rfl h4 (fun z => z.elim hj (fun z => by omega)) (by rw [h5]; exact am_ext_get hv) rfl rfl hd (kk H locs cells slots ls hl hP (Nat.le_refl _) hlo rfl rfl)
          · cases hs
      · cases hs
    · cases hs
  · cases hs
theorem am_k_iastore : am_St p l e R s m args below meth c H locs cells slots Q S0 D base ad A0 (.iastore) := by
  intro nL mid pc len L st h pc' L' st' h' ls hX hZ hd hn hs hl hP h2 hlo hc hz kk
  obtain rfl : len = 1 := Nat.eq_of_beq_eq_true hn
  simp only [am_step, am_ast] at hs
  split at hs
  · rename_i v j a r
    split at hs
    · rename_i tg fs ha
      split at hs
      · rename_i hq
        simp only [Bool.and_eq_true] at hq
        obtain rfl := Nat.eq_of_beq_eq_true hq.1
        have ha2 : 2 ≤ a := Nat.le_of_ble_eq_true hq.2
        split at hs
        · cases hs
        · rename_i hj
          split at hs
          · rename_i hb
            cases hs
            have hlt : j.toNatClampNeg < fs.length := Nat.le_of_ble_eq_true hb
            obtain ⟨cell, ext, h1, h3, h4, h5, h6, h7⟩ := hP.arr ha (ty := .int) rfl
            have hlt' : j.toNatClampNeg < cell.slots.size := am_ext_lt h5 hlt
            refine W.iast hX.1 rfl h1 (State.isArrayOf_alike hX.2.1.alike h3) h4 (fun z => z.elim hj (fun z => by omega)) rfl rfl hd (fun H' e1 e2 e3 => ?_)
            refine kk H' _ cells slots ls hl (hP.set hZ.2.2.2 ha2 (am_arr_ext (ty := .int) rfl e1 (am_arr_of h3) h4 (am_ext_set (v := .int v) h5 hlt) (am_int_set h6 (fun _ => rfl)) (am_ext_sz h7)) e2 e3) (by simp) (am_loc hlo (hZ.2.2.2.bs ha2)) (by simp) ?_
            rw [am_sz_set h a _ _ ha (by simp [am_csz, am_aty])]
          · cases hs
      · cases hs
    · cases hs
  · cases hs
theorem am_k_bastore : am_St p l e R s m args below meth c H locs cells slots Q S0 D base ad A0 (.bastore) := by
  intro nL mid pc len L st h pc' L' st' h' ls hX hZ hd hn hs hl hP h2 hlo hc hz kk
  obtain rfl : len = 1 := Nat.eq_of_beq_eq_true hn
  simp only [am_step, am_ast] at hs
  split at hs
  · rename_i v j a r
    split at hs
    · rename_i tg fs ha
      split at hs
      · rename_i hq
        simp only [Bool.and_eq_true] at hq
        obtain rfl := Nat.eq_of_beq_eq_true hq.1
        have ha2 : 2 ≤ a := Nat.le_of_ble_eq_true hq.2
        split at hs
        · cases hs
        · rename_i hj
          split at hs
          · rename_i hb
            cases hs
            have hlt : j.toNatClampNeg < fs.length := Nat.le_of_ble_eq_true hb
            obtain ⟨cell, ext, h1, h3, h4, h5, h6, h7⟩ := hP.arr ha (ty := .boolean) rfl
            have hlt' : j.toNatClampNeg < cell.slots.size := am_ext_lt h5 hlt
            refine W.zast hX.1 rfl h1 (State.isArrayOf_alike hX.2.1.alike h3) h4 (fun z => z.elim hj (fun z => by omega)) rfl rfl hd (fun H' e1 e2 e3 => ?_)
            refine kk H' _ cells slots ls hl (hP.set hZ.2.2.2 ha2 (am_arr_ext (ty := .boolean) rfl e1 (am_arr_of h3) h4 (am_ext_set (v := .int (v &&& 1)) h5 hlt) (am_int_set h6 (fun _ => rfl)) (am_ext_sz h7)) e2 e3) (by simp) (am_loc hlo (hZ.2.2.2.bs ha2)) (by simp) ?_
            rw [am_sz_set h a _ _ ha (by simp [am_csz, am_aty])]
          · cases hs
      · cases hs
    · cases hs
  · cases hs
theorem am_k_lastore : am_St p l e R s m args below meth c H locs cells slots Q S0 D base ad A0 (.lastore) := by
  intro nL mid pc len L st h pc' L' st' h' ls hX hZ hd hn hs hl hP h2 hlo hc hz kk
  obtain rfl : len = 1 := Nat.eq_of_beq_eq_true hn
  simp only [am_step, am_ast] at hs
  split at hs
  · rename_i v j a r
    split at hs
    · rename_i tg fs ha
      split at hs
      · rename_i hq
        simp only [Bool.and_eq_true] at hq
        obtain rfl := Nat.eq_of_beq_eq_true hq.1
        have ha2 : 2 ≤ a := Nat.le_of_ble_eq_true hq.2
        split at hs
        · cases hs
        · rename_i hj
          split at hs
          · rename_i hb
            cases hs
            have hlt : j.toNatClampNeg < fs.length := Nat.le_of_ble_eq_true hb
            obtain ⟨cell, ext, h1, h3, h4, h5, h6, h7⟩ := hP.arr ha (ty := .long) rfl
            have hlt' : j.toNatClampNeg < cell.slots.size := am_ext_lt h5 hlt
            refine W.last hX.1 rfl h1 (State.isArrayOf_alike hX.2.1.alike h3) h4 (fun z => z.elim hj (fun z => by omega)) rfl rfl hd (fun H' e1 e2 e3 => ?_)
            refine kk H' _ cells slots ls hl (hP.set hZ.2.2.2 ha2 (am_arr_ext (ty := .long) rfl e1 (am_arr_of h3) h4 (am_ext_set (v := .long v) h5 hlt) (am_int_set h6 (fun z => by cases z)) (am_ext_sz h7)) e2 e3) (by simp) (am_loc hlo (hZ.2.2.2.bs ha2)) (by simp) ?_
            rw [am_sz_set h a _ _ ha (by simp [am_csz, am_aty])]
          · cases hs
      · cases hs
    · cases hs
  · cases hs
theorem am_k_arraylength : am_St p l e R s m args below meth c H locs cells slots Q S0 D base ad A0 (.arraylength) := by
  intro nL mid pc len L st h pc' L' st' h' ls hX hZ hd hn hs hl hP h2 hlo hc hz kk
  obtain rfl : len = 1 := Nat.eq_of_beq_eq_true hn
  simp only [am_step] at hs
  split at hs
  · rename_i a r
    split at hs
    · rename_i tg fs ha
      split at hs
      · rename_i ty ht
        cases hs
        obtain ⟨cell, ext, h1, h3, h4, h5, h6, h7⟩ := hP.arr ha ht
        exact W.alen hX.1 rfl h1 (State.isArrayOf_alike hX.2.1.alike h3) h7 rfl rfl hd (kk H locs cells slots ls hl hP (Nat.le_refl _) hlo rfl rfl)
      · cases hs
    · cases hs
  · cases hs
theorem am_rep {ad : Nat → Nat} {v : Value} (hv : am_rv ad v = v) (n : Nat) : Array.replicate n v = ((List.replicate n v).map (am_rv ad)).toArray := by
  rw [List.map_replicate, hv]
  apply Array.ext'
  simp
theorem am_k_newarray (t : Jvm.ClassFile.ArrayType) : am_St p l e R s m args below meth c H locs cells slots Q S0 D base ad A0 (.newarray t) := by
  intro nL mid pc len L st h pc' L' st' h' ls hX hZ hd hn hs hl hP h2 hlo hc hz kk
  obtain rfl : len = 2 := Nat.eq_of_beq_eq_true hn
  simp only [am_step] at hs
  split at hs
  · rename_i n r
    split at hs
    · rename_i k hk
      split at hs
      · cases hs
      · rename_i hneg
        split at hs
        · rename_i hb
          cases hs
          have hn5 : n.toNatClampNeg ≤ 100000 := Nat.le_of_ble_eq_true hb
          have hty : am_aty (32 + k) = some (newarray.typeOf t) ∧ Cond.arrayClass (newarray.typeOf t) ∈ am_tbl ∧ am_dv k = defaultValue (newarray.typeOf t) ∧ am_rv ad (am_dv k) = am_dv k ∧ componentBytes (newarray.typeOf t) ≤ 8 := by
            cases t <;> cases hk <;> exact ⟨rfl, by decide +kernel, rfl, rfl, by decide⟩
          have hl1 : (h ++ [(32 + k, List.replicate n.toNatClampNeg (am_dv k))]).length = h.length + 1 := by simp
          have hl2 : am_sz (h ++ [(32 + k, List.replicate n.toNatClampNeg (am_dv k))]) = am_sz h + n.toNatClampNeg := by
            rw [am_sz_app]
            simp [am_sz, am_csz, hty.1]
          rw [hl1] at hc
          rw [hl2] at hz
          refine W.newa hX.1 rfl (am_word hZ hX.2.1 hty.2.1 rfl _) rfl hd rfl hneg ?_ (by omega) (by omega) (fun cA kA comp g1 g2 g3 => ?_)
          · have := Nat.mul_le_mul hn5 hty.2.2.2.2
            omega
          have hb0 : base ≤ H.size := by have := hP.1; omega
          have hnew := hP.new hZ.2.2.2 h2
          have hof : S0.isArrayOf ({ cls := cA, slots := Array.replicate n.toNatClampNeg (defaultValue (newarray.typeOf t)), vm := .none } : Cell) (newarray.typeOf t) := by
            refine ⟨fun _ q => (by cases q), ?_⟩
            obtain ⟨k3, hk3, he3⟩ := hX.2.1.alike.symm.2.2 _ _ g2
            exact ⟨k3, hk3, comp, by rw [he3]; exact g3⟩
          have kk2 := kk (H.push { cls := cA, slots := Array.replicate n.toNatClampNeg (defaultValue (newarray.typeOf t)), vm := .none }) locs (cells + 1) (slots + n.toNatClampNeg) ls hl
            (hP.push hZ.2.2.2 h2 hb0 (am_arr_cell (cell := { cls := cA, slots := Array.replicate n.toNatClampNeg (defaultValue (newarray.typeOf t)), vm := .none }) hty.1 (by rw [hnew]; simp) hof (fun q => by cases q) (by rw [← hty.2.2.1]; exact am_rep hty.2.2.2.1 _) (fun z v hv => by rw [List.mem_replicate] at hv; rw [hv.2, hty.2.2.1, z]; rfl)) (by simp) (fun q hq => by rw [Array.getElem?_push, if_neg (Nat.ne_of_lt hq)])) (by simp) hlo (by rw [hl1]; omega) (by rw [hl2]; omega)
          rw [List.map_cons, show am_rv ad (.ref h.length) = .ref H.size by simp only [am_rv, hnew]] at kk2
          exact kk2
        · cases hs
    · cases hs
  · cases hs
end AMH
