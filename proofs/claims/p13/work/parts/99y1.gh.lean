/-! CALLS OF THE LAW, with the cells that stand behind the views -/
section GHA
variable {xs : List Int32} {H H1 : am_H} {v v1 : vm_V}
def gh_ok : List ty_V → List Value → Prop
  | [], [] => True
  | s :: r, u :: l => (ty_kd s.1 = true → ty_vok s u) ∧ gh_ok r l
  | _, _ => False
theorem gh_ok_a : ∀ {ss : List ty_V} {L : List Value}, gh_ok ss L → L.length = ss.length ∧ ∀ (k : Nat) (s : ty_V), ss[k]? = some s → ty_kd s.1 = true → ∃ u : Value, L[k]? = some u ∧ ty_vok s u
  | [], [], _ => ⟨rfl, fun k s hk => by simp at hk⟩
  | s :: r, u :: l, h => by
    obtain ⟨i1, i2⟩ := gh_ok_a h.2
    refine ⟨by rw [List.length_cons, List.length_cons, i1], fun k t hk ht => ?_⟩
    cases k with
    | zero =>
      simp only [List.getElem?_cons_zero, Option.some.injEq] at hk
      subst hk
      exact ⟨u, rfl, h.1 ht⟩
    | succ k =>
      rw [List.getElem?_cons_succ] at hk ⊢
      exact i2 k t hk ht
  | [], _ :: _, h => h.elim
  | _ :: _, [], h => h.elim
theorem gh_i (x : Int32) : ty_vok (0, -2147483648, 2147483647) (.int x) := by
  have nb := ty_nb_full (σ := fun _ => x) 0 x
  exact ⟨x, rfl, nb.1, nb.2.1⟩
theorem gh {C : ty_C} (hC : ∀ (d : Nat × Nat) (L : List Value) (h : am_H), ty_ar0 tc_g C d L h → ty_vd tc_g C d L h) (hI : lw_I xs H) (hw : vw v H) {L : List Value} (hs : vm_ent C.1.1 C.1.2.1 = true) (hm : ty_sub C.2.1.2.2.1 lw_ms = true) (hp : C.2.1.2.2.2.1 = []) {y : vm_Y} (e : vE C.1.1 C.1.2.1 L [] v y) (ha : gh_ok C.1.2.2.1 L) : ∃ H1 : am_H, lw_I xs H1 ∧ vw y.2 H1 ∧ ty_un C.2.1.2.2.1 H H1 ∧ ty_rs tc_g C H (y.1, H1) := by
  obtain ⟨a1, a2⟩ := gh_ok_a ha
  obtain ⟨⟨o, H1⟩, r1, r2⟩ := hC C.1.2.2.2 L H ⟨⟨Nat.le_refl _, Nat.le_refl _⟩, a1, a2, hI.1, fun q hq => by rw [hp] at hq; exact absurd hq List.not_mem_nil⟩
  obtain ⟨v', e1, e2⟩ := vE_of hs hw r1
  obtain rfl := vE_det e e1
  have hl : H1.length = H.length ∨ ty_gr H H1 := by
    cases o with
    | inl u =>
      rcases r2.2.2.1 with q | ⟨q, _⟩
      · exact Or.inl q
      · exact Or.inr q
    | inr X => exact Or.inr r2.2.2.2
  exact ⟨H1, lw_I_un hI r2.1 (ty_un_tr (ms := lw_ms) (fun _ _ _ hx => hx) r2.2.1 (ty_sub_ok hm)) hl, e2, r2.2.1, r2⟩
theorem gh_r {C : ty_C} (hC : ∀ (d : Nat × Nat) (L : List Value) (h : am_H), ty_ar0 tc_g C d L h → ty_vd tc_g C d L h) (hI : lw_I xs H) (hw : vw v H) {L : List Value} (hs : vm_ent C.1.1 C.1.2.1 = true) (hm : ty_sub C.2.1.2.2.1 lw_ms = true) (hp : C.2.1.2.2.2.1 = []) (hx : C.2.1.2.1 = []) (hr : (!C.2.1.1.isEmpty && C.2.1.1.all (fun s => Nat.beq s.1 0)) = true) {y : vm_Y} (e : vE C.1.1 C.1.2.1 L [] v y) (ha : gh_ok C.1.2.2.1 L) : ∃ (w1 : Int32) (v1 : vm_V) (H1 : am_H), y = vr w1 v1 ∧ lw_I xs H1 ∧ vw v1 H1 ∧ ty_un C.2.1.2.2.1 H H1 := by
  obtain ⟨H1, g1, g2, g3, g4⟩ := gh hC hI hw hs hm hp e ha
  simp only [Bool.and_eq_true, Bool.not_eq_true'] at hr
  obtain ⟨o, v1⟩ := y
  cases o with
  | inr X =>
    have := g4.2.2.1
    rw [hx] at this
    exact absurd this List.not_mem_nil
  | inl u =>
    cases u with
    | none =>
      have h3 : C.2.1.1 = [] := g4.2.2.2.2
      rw [h3] at hr
      cases hr.1
    | some z =>
      obtain ⟨s, s1, s2⟩ := g4.2.2.2.2
      have hs0 := Nat.eq_of_beq_eq_true (List.all_eq_true.mp hr.2 s s1)
      obtain ⟨k, lo, hi⟩ := s
      have hs0 : k = 0 := hs0
      subst hs0
      obtain ⟨w, rfl, _⟩ := s2
      exact ⟨w, v1, H1, rfl, g1, g2, g3⟩
theorem gh_v {C : ty_C} (hC : ∀ (d : Nat × Nat) (L : List Value) (h : am_H), ty_ar0 tc_g C d L h → ty_vd tc_g C d L h) (hI : lw_I xs H) (hw : vw v H) {L : List Value} (hs : vm_ent C.1.1 C.1.2.1 = true) (hm : ty_sub C.2.1.2.2.1 lw_ms = true) (hp : C.2.1.2.2.2.1 = []) (hx : C.2.1.2.1 = []) (hr : C.2.1.1 = []) {y : vm_Y} (e : vE C.1.1 C.1.2.1 L [] v y) (ha : gh_ok C.1.2.2.1 L) : ∃ (v1 : vm_V) (H1 : am_H), y = vd v1 ∧ lw_I xs H1 ∧ vw v1 H1 ∧ ty_un C.2.1.2.2.1 H H1 := by
  obtain ⟨H1, g1, g2, g3, g4⟩ := gh hC hI hw hs hm hp e ha
  obtain ⟨o, v1⟩ := y
  cases o with
  | inr X =>
    have := g4.2.2.1
    rw [hx] at this
    exact absurd this List.not_mem_nil
  | inl u =>
    cases u with
    | none => exact ⟨v1, H1, rfl, g1, g2, g3⟩
    | some z =>
      obtain ⟨s, s1, s2⟩ := g4.2.2.2.2
      have s1 : s ∈ C.2.1.1 := s1
      rw [hr] at s1
      exact absurd s1 List.not_mem_nil
/-- what lies at an index -/
def gh_int (p k : Nat) : Bool := match tc_g[p]? with
  | some (tg, len, ss) => !(Nat.beq tg 98) && (!(Nat.beq tg 99) && (if ty_one tg then Nat.blt k len && !(Nat.beq tg 33) else Nat.blt k ss.length && (!(Nat.beq tg 35) && (!(Nat.beq tg 33) && Nat.beq (vm_o tg k) 0))))
  | none => false
theorem gh_rd (hI : lw_I xs H) (hw : vw v H) {p k : Nat} (h : gh_int p k = true) : ∃ (tg : Nat) (fs : List Value), H[p]? = some (tg, fs) ∧ fs[k]? = some (.int (v.1 p k)) ∧ vm_o tg k = 0 ∧ tg ≠ 33 ∧ tg ≠ 35 := by
  unfold gh_int at h
  split at h
  · rename_i tg len ss hg
    simp only [Bool.and_eq_true, Bool.not_eq_true'] at h
    obtain ⟨h98, h99, h⟩ := h
    obtain ⟨⟨tg', fs⟩, e1, e2⟩ := hI.1 p _ hg
    have key : tg' = tg ∧ k < fs.length ∧ vm_o tg k = 0 ∧ tg ≠ 33 ∧ tg ≠ 35 := by
      rcases ty_ite h with ⟨ho, h⟩ | ⟨ho, h⟩
      · rw [ty_cok_arr ho] at e2
        simp only [Bool.and_eq_true, Bool.not_eq_true', Nat.blt_eq] at h
        obtain ⟨a1, a2, _⟩ := e2
        dsimp only at a1 a2
        simp only [ty_one, Bool.or_eq_true] at ho
        have h33 : tg ≠ 33 := fun q => by rw [q] at h; cases h.2
        refine ⟨a1, by omega, ?_, h33, ?_⟩
        · rcases ho with ho | ho | ho
          · rw [Nat.eq_of_beq_eq_true ho]; rfl
          · exact absurd (Nat.eq_of_beq_eq_true ho) h33
          · rw [Nat.eq_of_beq_eq_true ho]; rfl
        · rcases ho with ho | ho | ho <;> rw [Nat.eq_of_beq_eq_true ho] <;> decide
      · rw [ty_cok_obj ho ⟨h99, h98⟩] at e2
        simp only [Bool.and_eq_true, Bool.not_eq_true', Nat.blt_eq] at h
        obtain ⟨a1, a2, _⟩ := e2
        dsimp only at a1 a2
        exact ⟨a1, by omega, Nat.eq_of_beq_eq_true h.2.2.2, fun q => (by rw [q] at h; cases h.2.2.1), fun q => (by rw [q] at h; cases h.2.1)⟩
    obtain ⟨rfl, k1, k2, k3, k4⟩ := key
    have e : fs[k]? = some fs[k] := List.getElem?_eq_getElem k1
    refine ⟨tg', fs, e1, ?_, k2, k3, k4⟩
    rw [e, (hw.2 p tg' fs e1).2 k _ e, vm_val_int k2 k3 k4]
  · cases h
theorem gh_arr {p n k : Nat} {ss : List ty_V} (hp : tc_g[p]? = some (32, n, ss)) (hk : k < n) : gh_int p k = true := by
  unfold gh_int
  rw [hp]
  simp [ty_one, hk]
  exact ⟨rfl, rfl, rfl⟩
/-- what is not written stays -/
theorem gh_fr (hI : lw_I xs H) (hw : vw v H) (hw1 : vw v1 H1) {ms : List Nat} (hu : ty_un ms H H1) {p k : Nat} (hp : ty_in p ms = false) (h : gh_int p k = true) : v1.1 p k = v.1 p k := by
  obtain ⟨tg, fs, e1, e2, e3, e4, e5⟩ := gh_rd hI hw h
  have hn : p ∉ ms := fun q => by
    have : ty_in p ms = true := by
      clear hu hp
      induction ms with
      | nil => exact absurd q List.not_mem_nil
      | cons a r ih =>
        simp only [ty_in, Bool.or_eq_true]
        rcases List.mem_cons.mp q with q | q
        · left; rw [q]; exact Nat.beq_refl a
        · exact Or.inr (ih q)
    rw [this] at hp
    cases hp
  have e6 := (hw1.2 p tg fs (hu p hn _ e1)).2 k _ e2
  rw [vm_val_int e3 e4 e5] at e6
  exact (Value.int.inj e6).symm
/-- bounds -/
theorem gh_bd (hI : lw_I xs H) (hw : vw v H) {p n k : Nat} {lo hi : Int} (hp : tc_g[p]? = some (32, n, [(0, lo, hi)])) (hk : k < n) : lo ≤ (v.1 p k).toInt ∧ (v.1 p k).toInt ≤ hi := by
  obtain ⟨tg, fs, e1, e2, _⟩ := gh_rd hI hw (gh_arr hp hk)
  obtain ⟨x, f1, f2⟩ := hI.1 p _ hp
  rw [e1] at f1
  cases f1
  rw [ty_cok_arr rfl] at f2
  obtain ⟨z, z1, z2⟩ := f2.2.2.1 k (0, lo, hi) _ (by simp [Nat.mod_one]) e2
  cases z1
  exact z2
/-- the script -/
theorem gh_sc (hI : lw_I xs H) (hw : vw v H) {k : Nat} (hk : k < xs.length) : v.1 0 k = xs.getD k 0 := by
  have e : (xs.map Value.int)[k]? = some (.int (xs.getD k 0)) := by
    rw [List.getElem?_map, List.getElem?_eq_getElem hk, List.getD_eq_getElem?_getD, List.getElem?_eq_getElem hk]
    rfl
  have := (hw.2 0 32 _ hI.2.1).2 k _ e
  rw [vm_val_int rfl (by decide) (by decide)] at this
  exact (Value.int.inj this).symm
end GHA
