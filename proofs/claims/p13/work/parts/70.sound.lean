/-! WHAT THE ABSTRACT MACHINE DOES, THE MACHINE DOES -/
/-- the abstract machine's runs are walks -/
def am_So (p : Program) (l : Launch) (e : Env) (S0 : State) (D : va_G) (base : Nat) (ad : Nat → Nat) (rec : am_R) : Prop :=
  ∀ (d : Nat × Nat) (mid pc : Nat) (L st : List Value) (h : am_H) (o : am_O) (h' : am_H), rec d mid pc L st h = some (o, h') →
  ∀ (R : Room) (s : State) (m : MethodId) (args : Array Value) (below : List Frame) (meth : Method) (c : Code) (H : Heap) (locs : List Loc) (cells slots : Nat) (ls : Array Slot), am_X p S0 s m meth c mid → am_mok mid → (d.1 ≤ R.frames ∧ d.2 ≤ R.locals) → am_L ad L (am_ml mid) ls → am_P S0 D base ad h H → 2 ≤ h.length → (∀ q ∈ locs, base ≤ q.base) →
    cells + h'.length ≤ R.cells + h.length → slots + am_sz h' ≤ R.slots + am_sz h →
    W p l e R s m args below meth c H locs cells slots (am_Q S0 D base ad below s o h' (cells + (h'.length - h.length)) (slots + (am_sz h' - am_sz h))) (F0 m pc ls (st.map (am_rv ad)))
/-- cells are only added -/
def am_gr (rec : am_R) : Prop := ∀ (d : Nat × Nat) (mid pc : Nat) (L st : List Value) (h : am_H) (o : am_O) (h' : am_H), rec d mid pc L st h = some (o, h') → h.length ≤ h'.length ∧ am_sz h ≤ am_sz h'
section AMS
variable {p : Program} {l : Launch} {e : Env} {R : Room} {s : State} {m : MethodId} {args : Array Value} {below : List Frame} {meth : Method} {c : Code} {H : Heap} {locs : List Loc} {cells slots : Nat} {Q : State → Prop}
variable {S0 : State} {D : va_G} {base : Nat} {ad : Nat → Nat} {A0 : Array Value}
theorem am_mq {h : am_H} {v : Option Value} {g : JFrame} (k : W p l e R s m args below meth c H locs cells slots (MQ below (fun _ _ o t => o = .returned (v.map (am_rv ad)) ∧ am_P S0 D base ad h t.heap) args s cells slots (fun q => base ≤ q)) g) : W p l e R s m args below meth c H locs cells slots (am_Q S0 D base ad below s (.inl v) h cells slots) g := by
  intro T hT X
  obtain ⟨t, st, o, h1, h2, ⟨rfl, hP⟩, L, ⟨-, hW, hs⟩, hL⟩ := k T hT X
  exact ⟨t, st, _, L, h1, h2, rfl, hW, hs, hL, hP⟩
theorem am_ireturn {mid : Nat} (hX : am_X p S0 s m meth c mid) {h : am_H} (hP : am_P S0 D base ad h H) (hlo : ∀ q ∈ locs, base ≤ q.base) {pc : Nat} {ls : Array Slot} {v : Int32} (hn : am_nw (am_rt mid) v = true) (hd : decode c.code pc = .ok (.ireturn, 1)) : W p l e R s m args below meth c H locs cells slots (am_Q S0 D base ad below s (.inl (some (.int v))) h cells slots) (F0 m pc ls [.int v]) := by
  have hr := hX.2.2.2.2.2.1
  have hlk := hX.2.2.2.2.2.2.1
  refine am_mq ?_
  cases hq : am_rt mid with
  | none => rw [hq] at hn; cases hn
  | some ty =>
    rw [hq] at hn hr
    refine W.zret hX.1 rfl hr ?_ (fun t ht _ => ⟨rfl, by rw [ht]; exact hP⟩) hlo hd hlk
    cases ty <;> first | rfl | (simp [am_nw] at hn; done) | skip
    simp only [am_nw, Bool.or_eq_true, beq_iff_eq] at hn
    rcases hn with rfl | rfl <;> rfl
theorem am_return {mid : Nat} (hX : am_X p S0 s m meth c mid) {h : am_H} (hP : am_P S0 D base ad h H) (hlo : ∀ q ∈ locs, base ≤ q.base) {pc : Nat} {ls : Array Slot} (hn : am_vo (am_rt mid) = true) (hd : decode c.code pc = .ok (.return_, 1)) : W p l e R s m args below meth c H locs cells slots (am_Q S0 D base ad below s (.inl none) h cells slots) (F0 m pc ls []) := by
  have hr := hX.2.2.2.2.2.1
  have hlk := hX.2.2.2.2.2.2.1
  refine am_mq ?_
  cases hq : am_rt mid with
  | none =>
    rw [hq] at hr
    exact W.vret hX.1 rfl hr (fun t ht _ => ⟨rfl, by rw [ht]; exact hP⟩) hlo hd hlk
  | some ty => rw [hq] at hn; cases hn
theorem am_areturn {mid : Nat} (hX : am_X p S0 s m meth c mid) {h : am_H} (hP : am_P S0 D base ad h H) (hlo : ∀ q ∈ locs, base ≤ q.base) {pc : Nat} {ls : Array Slot} {a : Nat} (hn : am_ro (am_rt mid) = true) (hd : decode c.code pc = .ok (.areturn, 1)) : W p l e R s m args below meth c H locs cells slots (am_Q S0 D base ad below s (.inl (some (.ref a))) h cells slots) (F0 m pc ls [.ref (ad a)]) := by
  have hr := hX.2.2.2.2.2.1
  have hlk := hX.2.2.2.2.2.2.1
  refine am_mq ?_
  cases hq : am_rt mid with
  | none => rw [hq] at hn; cases hn
  | some ty =>
    rw [hq] at hn hr
    refine W.aret hX.1 rfl hr ?_ (Or.inr ⟨_, rfl⟩) (fun t ht _ => ⟨rfl, by rw [ht]; exact hP⟩) hlo hd hlk
    cases ty <;> first | (simp [am_ro] at hn; done) | exact Or.inl ⟨_, rfl⟩ | exact Or.inr ⟨_, rfl⟩
theorem am_wt_eq : ∀ r : List Value, ((r.map (am_rv ad)).map fun v => v.category).sum = am_wt r
  | [] => rfl
  | v :: r => by
    simp only [List.map_cons, List.sum_cons, am_wt, am_wt_eq r]
    cases v <;> rfl
theorem am_args : ∀ (as : List Value) (i k : Nat) (v : Value), am_kns as = true → as[k]? = some v → (i + k, am_rv ad v) ∈ lv_args i (as.map (am_rv ad))
  | [], i, k, v, _, h => by simp at h
  | w :: as, i, k, v, hk, h => by
    simp only [am_kns, Bool.and_eq_true] at hk
    simp only [List.map_cons, lv_args]
    have hc := am_kn_cat (ad := ad) hk.1
    cases k with
    | zero =>
      rw [List.getElem?_cons_zero] at h
      cases h
      exact List.mem_cons_self
    | succ k =>
      rw [List.getElem?_cons_succ] at h
      refine List.mem_cons_of_mem _ ?_
      rw [if_neg (by rw [hc]; decide)]
      have := am_args as (i + 1) k v hk.2 h
      rw [show i + 1 + k = i + (k + 1) by omega] at this
      exact this
theorem am_sl_len : ∀ as : List Value, am_kns as = true → (lg_sl (as.map (am_rv ad))).length = as.length
  | [], _ => rfl
  | w :: as, hk => by
    simp only [am_kns, Bool.and_eq_true] at hk
    have hc := am_kn_cat (ad := ad) hk.1
    have := am_sl_len as hk.2
    simp only [lg_sl, List.map_cons, List.flatMap_cons, hc] at this ⊢
    simp [this]
/-- the locals with which a method begins -/
theorem am_L.entry {as : List Value} {n : Nat} (hk : am_kns as = true) (hn : as.length ≤ n) : am_L ad (as ++ List.replicate (n - as.length) (.retAddr 0)) n ((lg_sl (as.map (am_rv ad)) ++ List.replicate (n - (lg_sl (as.map (am_rv ad))).length) Slot.unset).toArray) := by
  refine ⟨by simp; omega, _, lv_entry (as.map (am_rv ad)) (by rw [am_sl_len as hk]; exact hn), fun k v h hv => ?_⟩
  by_cases hl : k < as.length
  · rw [List.getElem?_append_left hl] at h
    have := am_args (ad := ad) as 0 k v hk h
    rwa [Nat.zero_add] at this
  · rw [List.getElem?_append_right (by omega)] at h
    have := List.mem_of_getElem? h
    rw [List.mem_replicate] at this
    rw [this.2] at hv
    cases hv
theorem am_callW (hZ : am_Z S0 D base ad A0) {rec : am_R} (IH : am_So p l e S0 D base ad rec) {mid : Nat} (hX : am_X p S0 s m meth c mid) {k : Nat} (hk : am_mok k) {pc : Nat} {d : Nat × Nat} {ls : Array Slot} {as r : List Value} {h h1 : am_H} {o1 : am_O} {ig : Jvm.ClassFile.Instr}
    (hent : am_Ent p l e R s m args below meth c H locs cells slots k pc ls (as.map (am_rv ad)) (r.map (am_rv ad))) (hkn : am_kns as = true) (hal : as.length ≤ am_ml k) (hsize : ls.size = c.maxLocals)
    (hR : d.1 ≤ R.frames ∧ d.2 ≤ R.locals) (hd1 : 1 ≤ d.1) (hd2 : am_wt r + (am_ml k + 11) ≤ d.2) (hd : decode c.code pc = .ok (ig, 3)) (hrun : rec (d.1 - 1, d.2 - (am_wt r + (am_ml k + 11))) k 0 (as ++ List.replicate (am_ml k - as.length) (.retAddr 0)) [] h = some (o1, h1)) (hg1 : h.length ≤ h1.length) (hg2 : am_sz h ≤ am_sz h1)
    (hc : cells + h1.length ≤ R.cells + h.length) (hz : slots + am_sz h1 ≤ R.slots + am_sz h) (hP : am_P S0 D base ad h H) (h2 : 2 ≤ h.length) (hlo : ∀ q ∈ locs, base ≤ q.base)
    (kret : ∀ v : Option Value, o1 = .inl v → ∀ (H1 : Heap) (locs1 : List Loc), am_P S0 D base ad h1 H1 → (∀ q ∈ locs1, base ≤ q.base) → W p l e R s m args below meth c H1 locs1 (cells + (h1.length - h.length)) (slots + (am_sz h1 - am_sz h)) Q (F0 m (pc + 3) ls ((v.map (am_rv ad)).toList ++ r.map (am_rv ad))))
    (kthr : ∀ Xc : Nat, o1 = .inr Xc → h1[h1.length - 1]? = some (Xc, []) → ∀ (T1 : State) (locs1 : List Loc), Stand p l e R s m args below meth c T1 locs1 (cells + (h1.length - h.length)) (slots + (am_sz h1 - am_sz h)) → am_P S0 D base ad h1 T1.heap → (∀ q ∈ locs1, base ≤ q.base) → ∃ t, Steps p.tables e below ((T1.setTop (F0 m pc ls (r.map (am_rv ad)))).pushFrame (.throwing (ad (h1.length - 1)))) t ∧ Q t) :
    W p l e R s m args below meth c H locs cells slots Q (F0 m pc ls ((as.map (am_rv ad)).reverse ++ r.map (am_rv ad))) := by
  intro T hT X
  obtain ⟨vm1, mk, X1, hmk, hstep⟩ := hent T hT X
  obtain ⟨mk', mt, ck, g1, g2, g3, g4, g5, g6, g7, g8, g9⟩ := am_meth hZ hX.2.1 hk
  cases Option.some.inj (hmk.symm.trans g1)
  have hW1 : S0.WarmedH (T.setVm vm1).vm := State.WarmedH.trans hX.2.1 X1.warmed
  have hmk1 : (T.setVm vm1).vm.method? mk = some mt := by rw [X1.warmed.alike.method?]; exact g2
  have hpk : (T.setVm vm1).plainMethod mk := State.plainMethod.of_named hk.2.1 (X1.named hmk) hmk1
  have hwt := am_wt_eq (ad := ad) r
  obtain ⟨Y, hin⟩ := X1.into (g := F0 m pc ls (r.map (am_rv ad))) rfl hsize hd (as.map (am_rv ad)).toArray (R' := { frames := R.frames - 1, cells := R.cells - cells, slots := R.slots - slots, locals := R.locals - (am_wt r + (am_ml k + 11)) }) hmk1 g3 g7 hpk
    (by show R.frames - 1 + 1 ≤ _; omega) (by show 2 * 0 + _ + (ck.maxLocals + 11) + (R.locals - (am_wt r + (am_ml k + 11))) ≤ _; rw [hwt, g5]; omega) (by show cells + (R.cells - cells) ≤ _; omega) (by show slots + (R.slots - slots) ≤ _; omega)
  have hXk : am_X p S0 ((T.setVm vm1).calling (F0 m pc ls (r.map (am_rv ad))) mk (as.map (am_rv ad)).toArray) mk mt ck k := by
    exact ⟨hX.1, hW1, X1.named hmk, g4, g5, g6, g7, hmk1, hk.2.2.2.2, g9⟩
  have hI := IH _ k 0 _ [] h o1 h1 hrun { frames := R.frames - 1, cells := R.cells - cells, slots := R.slots - slots, locals := R.locals - (am_wt r + (am_ml k + 11)) } _ mk (as.map (am_rv ad)).toArray (.java (F0 m pc ls (r.map (am_rv ad))) :: below) mt ck H [] 0 0 _ hXk hk
    ⟨by show d.1 - 1 ≤ R.frames - 1; omega, by show d.2 - (am_wt r + (am_ml k + 11)) ≤ R.locals - (am_wt r + (am_ml k + 11)); omega⟩ (am_L.entry (ad := ad) hkn hal) hP h2 (fun q hq => by cases hq) (by show 0 + h1.length ≤ R.cells - cells + h.length; omega) (by show 0 + am_sz h1 ≤ R.slots - slots + am_sz h; omega)
  obtain ⟨t, hst, oc, L, q1, q2, q3, q4, q5, q6, q7⟩ := hI _ (by show T.heap = H; exact hT) Y
  have hst2 : Steps p.tables e below (((T.setVm vm1).setTop (F0 m pc ls (r.map (am_rv ad)))).pushFrame (.java (entryFrame mk (as.map (am_rv ad)).toArray ck.maxLocals)) |>.setTop (entryFrame mk (as.map (am_rv ad)).toArray ck.maxLocals)) t := by
    refine Steps.weaken (mid := [.java (F0 m pc ls (r.map (am_rv ad)))]) ?_
    have he := lg_entry_eq mk (as.map (am_rv ad)) ck.maxLocals
    rw [g5] at he hst ⊢
    rw [he] at hst ⊢
    exact hst
  have hlocs : ∀ q ∈ locs ++ L, base ≤ q.base := t_lL hlo q6
  cases o1 with
  | inl v =>
    cases q3
    obtain ⟨T', X', hW', hs', ht⟩ := X1.outOf (g := F0 m pc ls (r.map (am_rv ad))) rfl hd q2 q4 q5
    rw [Nat.zero_add, Nat.zero_add] at X'
    have hh : t.heap = T'.heap := by rw [ht]; rfl
    obtain ⟨t2, a1, b1⟩ := kret v rfl T'.heap (locs ++ L) (by rw [← hh]; exact q7) hlocs T' rfl X'
    refine ⟨t2, hstep _ (fun acts => ?_), b1⟩
    rw [hin acts]
    refine hst2.trans ?_
    rw [ht]
    exact a1
  | inr Xc =>
    obtain ⟨q3a, q3b⟩ := q3
    subst q3a
    obtain ⟨T', X', hW', hs', ht⟩ := X1.outOfThrown (g := F0 m pc ls (r.map (am_rv ad))) rfl q2 q4 q5
    rw [Nat.zero_add, Nat.zero_add] at X'
    have hh : t.heap = T'.heap := by rw [ht]; exact Stand.throwing_heap T' _ _
    obtain ⟨t2, a1, b1⟩ := kthr Xc rfl q3b T' (locs ++ L) X' (by rw [← hh]; exact q7) hlocs
    refine ⟨t2, hstep _ (fun acts => ?_), b1⟩
    rw [hin acts]
    refine hst2.trans ?_
    rw [ht]
    exact a1
end AMS
