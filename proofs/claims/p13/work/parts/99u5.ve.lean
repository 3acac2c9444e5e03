/-! runs of the view machine: rules -/
section VMF
def vm_le (f g : vm_R) : Prop := ∀ (mid pc : Nat) (L st : List Value) (v : vm_V) (y : vm_Y), f mid pc L st v = some y → g mid pc L st v = some y
theorem vm_back_le {f g : vm_R} (hfg : vm_le f g) {mid pc : Nat} {L r : List Value} {y x : vm_Y} (h : vm_back f mid pc L r y = some x) : vm_back g mid pc L r y = some x := by
  match y, h with
  | (.inl u, v), h => exact hfg _ _ _ _ _ _ h
  | (.inr X, v), h =>
    simp only [vm_back] at h ⊢
    cases hq : am_hdl (am_hs mid) pc X with
    | none => rw [hq] at h; exact h
    | some q => rw [hq] at h; exact hfg _ _ _ _ _ _ h
theorem vm_call_le {f g : vm_R} (hfg : vm_le f g) {mid pc : Nat} {L st : List Value} {v : vm_V} {q : Option (Nat × Nat)} {x : vm_Y} (h : vm_call f mid pc L st v q = some x) : vm_call g mid pc L st v q = some x := by
  match q, h with
  | none, h => cases h
  | some (0, k), h =>
    simp only [vm_call] at h ⊢
    split at h
    · rename_i y hy
      rw [hfg _ _ _ _ _ _ hy]
      exact vm_back_le hfg h
    · cases h
  | some (1, _), h => cases h
  | some (2, _), h =>
    simp only [vm_call] at h ⊢
    split at h
    · exact hfg _ _ _ _ _ _ h
    · cases h
  | some (n + 3, _), h => cases h
theorem vm_ctl_le {f g : vm_R} (hfg : vm_le f g) {mid pc : Nat} {L st : List Value} {v : vm_V} {i : Jvm.ClassFile.Instr} {x : vm_Y} (h : vm_ctl f mid pc L st v i = some x) : vm_ctl g mid pc L st v i = some x := by
  unfold vm_ctl at h ⊢
  split at h
  · exact h
  · exact h
  · exact h
  · exact vm_call_le hfg h
  · exact vm_call_le hfg h
  · exact vm_call_le hfg h
  · exact h
  · cases h
theorem vm_go_le1 : ∀ n : Nat, vm_le (vm_go n) (vm_go (n + 1))
  | 0 => fun _ _ _ _ _ _ h => by cases h
  | n + 1 => fun mid pc L st v y h => by
    have h : vm_body (vm_go n) mid pc L st v = some y := h
    show vm_body (vm_go (n + 1)) mid pc L st v = some y
    unfold vm_body at h ⊢
    cases hi : am_code mid pc with
    | none => rw [hi] at h; cases h
    | some i =>
      rw [hi] at h
      dsimp only at h ⊢
      cases hs : vm_step mid pc L st v i with
      | none => rw [hs] at h; exact vm_ctl_le (vm_go_le1 n) h
      | some f => rw [hs] at h; exact vm_go_le1 n _ _ _ _ _ _ h
theorem vm_go_le {n : Nat} : ∀ k : Nat, vm_le (vm_go n) (vm_go (n + k))
  | 0 => fun _ _ _ _ _ _ h => h
  | k + 1 => fun mid pc L st v r h => vm_go_le1 (n + k) mid pc L st v r (vm_go_le k mid pc L st v r h)
theorem vm_go_max {n k : Nat} (h : n ≤ k) : vm_le (vm_go n) (vm_go k) := by
  obtain ⟨j, rfl⟩ := Nat.exists_eq_add_of_le h
  exact vm_go_le j
def vE (m pc : Nat) (L st : List Value) (v : vm_V) (x : vm_Y) : Prop := ∃ n : Nat, vm_go n m pc L st v = some x
def vB (m pc : Nat) (L r : List Value) (y x : vm_Y) : Prop := ∃ n : Nat, vm_back (vm_go n) m pc L r y = some x
def vr (a : Int32) (v : vm_V) : vm_Y := (.inl (some (.int a)), v)
def vd (v : vm_V) : vm_Y := (.inl none, v)
def va (p : Nat) (v : vm_V) : vm_Y := (.inl (some (.ref p)), v)
def vt (X : Nat) (v : vm_V) : vm_Y := (.inr X, vm_nx v)
variable {m pc : Nat} {L st : List Value} {v : vm_V} {x y : vm_Y}
theorem vE_det (h1 : vE m pc L st v x) (h2 : vE m pc L st v y) : x = y := by
  obtain ⟨a, h1⟩ := h1
  obtain ⟨b, h2⟩ := h2
  have e1 := vm_go_max (Nat.le_max_left a b) _ _ _ _ _ _ h1
  have e2 := vm_go_max (Nat.le_max_right a b) _ _ _ _ _ _ h2
  rw [e1] at e2
  exact Option.some.inj e2
/-- what the abstract machine does -/
theorem vE_of {d : Nat × Nat} {H H' : am_H} {o : am_O} (hs : vm_ent m pc = true) (hv : vw v H) (h : am_Ev ((d, m, pc, L, st), H, []) (o, H')) : ∃ v' : vm_V, vE m pc L st v (o, v') ∧ vw v' H' := by
  obtain ⟨n, z, h1, h2⟩ := h
  have h2 : z = (o, H') := h2
  subst h2
  obtain ⟨v', e1, e2⟩ := vm_sim n d m pc L st H o H' v hs hv h1
  exact ⟨v', ⟨n, e1⟩, e2⟩
theorem vE_s {i : Jvm.ClassFile.Instr} {pc' : Nat} {L' st' : List Value} {v' : vm_V} (hc : am_code m pc = some i) (hs : vm_step m pc L st v i = some (pc', L', st', v')) : vE m pc L st v x ↔ vE m pc' L' st' v' x := by
  constructor
  · rintro ⟨n, h⟩
    cases n with
    | zero => cases h
    | succ n =>
      have h : vm_body (vm_go n) m pc L st v = some x := h
      simp only [vm_body, hc, hs] at h
      exact ⟨n, h⟩
  · rintro ⟨n, h⟩
    refine ⟨n + 1, ?_⟩
    show vm_body (vm_go n) m pc L st v = some x
    simp only [vm_body, hc, hs]
    exact h
theorem vE_if {i : Jvm.ClassFile.Instr} {c : Prop} [Decidable c] {p1 p2 : Nat} {L' st' : List Value} {v' : vm_V} (hc : am_code m pc = some i) (hs : vm_step m pc L st v i = some (if c then p1 else p2, L', st', v')) : vE m pc L st v x ↔ if c then vE m p1 L' st' v' x else vE m p2 L' st' v' x := by
  rw [vE_s hc hs]
  split <;> exact Iff.rfl
theorem vE_c {i : Jvm.ClassFile.Instr} (hc : am_code m pc = some i) (hs : vm_step m pc L st v i = none) : vE m pc L st v x ↔ ∃ n : Nat, vm_ctl (vm_go n) m pc L st v i = some x := by
  constructor
  · rintro ⟨n, h⟩
    cases n with
    | zero => cases h
    | succ n =>
      have h : vm_body (vm_go n) m pc L st v = some x := h
      simp only [vm_body, hc, hs] at h
      exact ⟨n, h⟩
  · rintro ⟨n, h⟩
    refine ⟨n + 1, ?_⟩
    show vm_body (vm_go n) m pc L st v = some x
    simp only [vm_body, hc, hs]
    exact h
theorem vm_ex {y x : vm_Y} : (∃ _ : Nat, some y = some x) ↔ x = y := ⟨fun h => (Option.some.inj h.choose_spec).symm, fun h => ⟨0, by rw [h]⟩⟩
theorem vE_ir {a : Int32} (hc : am_code m pc = some .ireturn) : vE m pc L [.int a] v x ↔ x = vr a v := (vE_c hc rfl).trans vm_ex
theorem vE_vr (hc : am_code m pc = some .return_) : vE m pc L [] v x ↔ x = vd v := (vE_c hc rfl).trans vm_ex
theorem vE_ar {p : Nat} (hc : am_code m pc = some .areturn) : vE m pc L [.ref p] v x ↔ x = va p v := (vE_c hc rfl).trans vm_ex
theorem vE_new {j X : Nat} (hc : am_code m pc = some (.new j)) (hX : am_pe (am_oc m) j = some X) : vE m pc L st v x ↔ x = vt X v := by
  rw [vE_c hc rfl]
  simp only [vm_ctl, hX]
  exact vm_ex
theorem vE_call {k : Nat} {A r : List Value} {i : Jvm.ClassFile.Instr} (hc : am_code m pc = some i) (hs : vm_step m pc L st v i = none) (hm : ∀ f : vm_R, vm_ctl f m pc L st v i = vm_call f m pc L st v (some (0, k))) (hA : (st.take (am_na k)).reverse ++ List.replicate (am_ml k - am_na k) (.retAddr 0) = A) (hr : st.drop (am_na k) = r) : vE m pc L st v x ↔ ∃ y : vm_Y, vE k 0 A [] v y ∧ vB m pc L r y x := by
  rw [vE_c hc hs]
  simp only [hm, vm_call, hA, hr]
  constructor
  · rintro ⟨n, h⟩
    split at h
    · rename_i y hy
      exact ⟨y, ⟨n, hy⟩, ⟨n, h⟩⟩
    · cases h
  · rintro ⟨y, ⟨n1, h1⟩, ⟨n2, h2⟩⟩
    refine ⟨max n1 n2, ?_⟩
    rw [vm_go_max (Nat.le_max_left n1 n2) _ _ _ _ _ _ h1]
    exact vm_back_le (vm_go_max (Nat.le_max_right n1 n2)) h2
theorem vE_cv {k j : Nat} {A r : List Value} (hc : am_code m pc = some (.invokevirtual j)) (hm : am_pm (am_oc m) j = some (0, k)) (hA : (st.take (am_na k)).reverse ++ List.replicate (am_ml k - am_na k) (.retAddr 0) = A) (hr : st.drop (am_na k) = r) : vE m pc L st v x ↔ ∃ y : vm_Y, vE k 0 A [] v y ∧ vB m pc L r y x := vE_call hc rfl (fun f => by simp only [vm_ctl, hm]) hA hr
theorem vE_cs {k j : Nat} {A r : List Value} (hc : am_code m pc = some (.invokestatic j)) (hm : am_pm (am_oc m) j = some (0, k)) (hA : (st.take (am_na k)).reverse ++ List.replicate (am_ml k - am_na k) (.retAddr 0) = A) (hr : st.drop (am_na k) = r) : vE m pc L st v x ↔ ∃ y : vm_Y, vE k 0 A [] v y ∧ vB m pc L r y x := vE_call hc rfl (fun f => by simp only [vm_ctl, hm]) hA hr
theorem vE_ac {j z : Nat} {r : List Value} {n dp sp : Int32} {a b : Nat} (hc : am_code m pc = some (.invokestatic j)) (hm : am_pm (am_oc m) j = some (2, z)) : vE m pc L (.int n :: .int dp :: .ref b :: .int sp :: .ref a :: r) v x ↔ vE m (pc + 3) L r (vm_cp v n.toNatClampNeg dp.toNatClampNeg b sp.toNatClampNeg a) x := by
  rw [vE_c hc rfl]
  simp only [vm_ctl, hm, vm_call]
  exact Iff.rfl
theorem vB_r {r : List Value} {a : Int32} : vB m pc L r (vr a v) x ↔ vE m (pc + 3) L (.int a :: r) v x := Iff.rfl
theorem vB_d {r : List Value} : vB m pc L r (vd v) x ↔ vE m (pc + 3) L r v x := Iff.rfl
theorem vB_a {r : List Value} {p : Nat} : vB m pc L r (va p v) x ↔ vE m (pc + 3) L (.ref p :: r) v x := Iff.rfl
theorem vB_t {r : List Value} {X : Nat} (hh : am_hdl (am_hs m) pc X = none) : vB m pc L r (vt X v) x ↔ x = vt X v := by
  unfold vB vt
  simp only [vm_back, hh]
  exact vm_ex
theorem vB_h {r : List Value} {X q : Nat} (hh : am_hdl (am_hs m) pc X = some q) : vB m pc L r (vt X v) x ↔ vE m q L [.ref v.2.2.1] (vm_nx v) x := by
  unfold vB vt
  simp only [vm_back, hh]
  exact Iff.rfl
theorem vB_if {r : List Value} {c : Prop} [Decidable c] {y1 y2 : vm_Y} : vB m pc L r (if c then y1 else y2) x ↔ if c then vB m pc L r y1 x else vB m pc L r y2 x := by
  split <;> exact Iff.rfl
theorem vm_eqif {c : Prop} [Decidable c] {y1 y2 : vm_Y} : (if c then x = y1 else x = y2) ↔ x = if c then y1 else y2 := by
  split <;> exact Iff.rfl
theorem vr_if {c : Prop} [Decidable c] {a b : Int32} : (if c then vr a v else vr b v) = vr (if c then a else b) v := by
  split <;> rfl
theorem vd_if {c : Prop} [Decidable c] {v' : vm_V} : (if c then vd v else vd v') = vd (if c then v else v') := by
  split <;> rfl
/-- a switch -/
def vm_sw (m pc : Nat) (L r : List Value) (v : vm_V) (x : vm_Y) (w : Int32) (d : Int) : Int → List Int → Prop
  | _, [] => vE m (am_jmp pc d) L r v x
  | lo, o :: os => if w = Int32.ofInt lo then vE m (am_jmp pc o) L r v x else vm_sw m pc L r v x w d (lo + 1) os
theorem vm_sw_eq {r : List Value} {w : Int32} {d : Int} : ∀ (os : List Int) (lo : Int), -2147483648 ≤ lo → lo + os.length ≤ 2147483648 → (vm_sw m pc L r v x w d lo os ↔ if w.toInt < lo then vE m (am_jmp pc d) L r v x else match os[(w.toInt - lo).toNat]? with
    | some o => vE m (am_jmp pc o) L r v x
    | none => vE m (am_jmp pc d) L r v x)
  | [], lo, _, _ => by simp [vm_sw]
  | o :: os, lo, h1, h2 => by
    simp only [List.length_cons] at h2
    have ih := vm_sw_eq (r := r) (w := w) (d := d) os (lo + 1) (by omega) (by omega)
    have hlo : (Int32.ofInt lo).toInt = lo := ty_ofi (by omega) (by omega)
    simp only [vm_sw]
    rw [ih]
    by_cases e : w = Int32.ofInt lo
    · subst e
      rw [if_pos rfl, hlo, if_neg (by omega)]
      simp
    · rw [if_neg e]
      have hne : w.toInt ≠ lo := fun q => e (Int32.toInt_inj.mp (by rw [q, hlo]))
      by_cases q : w.toInt < lo
      · rw [if_pos (by omega), if_pos q]
      · rw [if_neg (by omega), if_neg q]
        have : (w.toInt - lo).toNat = (w.toInt - (lo + 1)).toNat + 1 := by omega
        rw [this, List.getElem?_cons_succ]
theorem vE_ts {r : List Value} {w : Int32} {d lo hi : Int} {os : Array Int} (hc : am_code m pc = some (.tableswitch d lo hi os)) (h1 : -2147483648 ≤ lo) (h2 : hi < 2147483648) (h3 : (os.toList.length : Int) = hi + 1 - lo) : vE m pc L (.int w :: r) v x ↔ vm_sw m pc L r v x w d lo os.toList := by
  rw [vm_sw_eq os.toList lo h1 (by omega)]
  by_cases q : w.toInt < lo
  · rw [if_pos q]
    refine vE_s hc ?_
    show (match am_step m pc L (.int w :: r) [] (.tableswitch d lo hi os) with
      | some f => some (f.1, f.2.1, f.2.2.1, v)
      | none => none) = _
    simp only [am_step, if_pos q]
  · rw [if_neg q]
    by_cases q2 : hi < w.toInt
    · have : os.toList[(w.toInt - lo).toNat]? = none := List.getElem?_eq_none (by omega)
      rw [this]
      refine vE_s hc ?_
      show (match am_step m pc L (.int w :: r) [] (.tableswitch d lo hi os) with
        | some f => some (f.1, f.2.1, f.2.2.1, v)
        | none => none) = _
      simp only [am_step, if_neg q, if_pos q2]
    · have hl : (w.toInt - lo).toNat < os.toList.length := by omega
      have e1 : os.toList[(w.toInt - lo).toNat]? = some os.toList[(w.toInt - lo).toNat] := List.getElem?_eq_getElem hl
      have e2 : os[(w.toInt - lo).toNat]? = some os.toList[(w.toInt - lo).toNat] := by
        rw [← Array.getElem?_toList]
        exact e1
      rw [e1]
      refine vE_s hc ?_
      show (match am_step m pc L (.int w :: r) [] (.tableswitch d lo hi os) with
        | some f => some (f.1, f.2.1, f.2.2.1, v)
        | none => none) = _
      simp only [am_step, if_neg q, if_neg q2, e2]
end VMF
