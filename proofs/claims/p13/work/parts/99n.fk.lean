/-! A FIELD THAT NO METHOD OF A SET WRITES STAYS AS IT IS -/
section FKA
variable {f : Nat}
def fk_k (f : Nat) (h h' : am_H) : Prop := ∀ (p : Nat) (fs : List Value), h[p]? = some (9, fs) → ∃ fs' : List Value, h'[p]? = some (9, fs') ∧ fs'[f]? = fs[f]?
theorem fk_k.rf (h : am_H) : fk_k f h h := fun _ fs hp => ⟨fs, hp, rfl⟩
theorem fk_k.tr {a b c : am_H} (h1 : fk_k f a b) (h2 : fk_k f b c) : fk_k f a c := fun p fs hp => by
  obtain ⟨g1, e1, e2⟩ := h1 p fs hp
  obtain ⟨g2, e3, e4⟩ := h2 p g1 e1
  exact ⟨g2, e3, e4.trans e2⟩
theorem fk_app (h e : am_H) : fk_k f h (h ++ e) := fun p fs hp => ⟨fs, by rw [List.getElem?_append_left (List.getElem?_eq_some_iff.mp hp).1]; exact hp, rfl⟩
theorem fk_arr {h : am_H} {a tg : Nat} {fs gs : List Value} (ha : h[a]? = some (tg, fs)) (ht : tg ≠ 9) : fk_k f h (h.set a (tg, gs)) := fun p ps hp => by
  by_cases q : a = p
  · subst q
    rw [ha] at hp
    cases hp
    exact absurd rfl ht
  · exact ⟨ps, by rw [List.getElem?_set_ne q]; exact hp, rfl⟩
theorem fk_obj {h : am_H} {a tg k : Nat} {fs : List Value} {v : Value} (ha : h[a]? = some (tg, fs)) (ht : ¬ (tg = 9 ∧ k = f)) : fk_k f h (h.set a (tg, fs.set k v)) := fun p ps hp => by
  by_cases q : a = p
  · subst q
    rw [ha] at hp
    cases hp
    refine ⟨_, List.getElem?_set_self (List.getElem?_eq_some_iff.mp ha).1, ?_⟩
    rw [List.getElem?_set_ne (fun e => ht ⟨rfl, e⟩)]
  · exact ⟨ps, by rw [List.getElem?_set_ne q]; exact hp, rfl⟩
theorem fk_ast {pc : Nat} {L r : List Value} {h : am_H} {t a : Nat} {j : Int32} {v : Value} {x : am_F} (hs : am_ast pc L r h t a j v = some x) : fk_k f h x.2.2.2 := by
  unfold am_ast at hs
  split at hs
  · rename_i tg fs ha
    split at hs
    · rename_i hq
      simp only [Bool.and_eq_true] at hq
      have ht := Nat.eq_of_beq_eq_true hq.1
      split at hs
      · cases hs
      · split at hs
        · cases hs
          exact fk_arr ha (by omega)
        · cases hs
    · cases hs
  · cases hs
theorem fk_ald {pc : Nat} {L st : List Value} {h : am_H} {t : Nat} {x : am_F} (hs : am_ald pc L st h t = some x) : x.2.2.2 = h := by
  unfold am_ald at hs
  repeat' (split at hs)
  all_goals first
    | (cases hs; done)
    | (cases hs; rfl)
theorem fk_step {mid pc : Nat} {L st : List Value} {h : am_H} {i : Jvm.ClassFile.Instr} {x : am_F} (hs : am_step mid pc L st h i = some x) (hp : ∀ y : Nat, i = .putfield y → am_pf (am_oc mid) y ≠ some (9, f)) : fk_k f h x.2.2.2 := by
  cases i with
  | iastore =>
    simp only [am_step] at hs
    split at hs
    · exact fk_ast hs
    · cases hs
  | bastore =>
    simp only [am_step] at hs
    split at hs
    · exact fk_ast hs
    · cases hs
  | lastore =>
    simp only [am_step] at hs
    split at hs
    · exact fk_ast hs
    · cases hs
  | iaload => rw [fk_ald hs]; exact fk_k.rf _
  | baload => rw [fk_ald hs]; exact fk_k.rf _
  | laload => rw [fk_ald hs]; exact fk_k.rf _
  | aaload => rw [fk_ald hs]; exact fk_k.rf _
  | putfield y =>
    simp only [am_step] at hs
    split at hs
    · rename_i ci k hk
      split at hs
      · split at hs
        · rename_i tg fs ha
          split at hs
          · rename_i hq
            cases hs
            simp only [Bool.and_eq_true] at hq
            have ht := Nat.eq_of_beq_eq_true hq.1
            refine fk_obj ha (fun e => hp y rfl ?_)
            rw [hk, ← ht, e.1, e.2]
          · cases hs
        · cases hs
      · cases hs
    · cases hs
  | _ =>
    simp only [am_step] at hs
    repeat' (split at hs)
    all_goals first
      | (cases hs; done)
      | (cases hs; exact fk_k.rf _)
      | (cases hs; exact fk_app _ _)
/-- what may stand in a method of the set -/
def fk_i (M : List Nat) (f oc : Nat) (i : Jvm.ClassFile.Instr) : Bool := match i with
  | .putfield y => (match am_pf oc y with
    | some (ci, k) => !(Nat.beq ci 9 && Nat.beq k f)
    | none => true)
  | .invokevirtual y => (match am_pm oc y with
    | some (0, k) => ty_in k M
    | some (2, _) => false
    | _ => true)
  | .invokespecial y => (match am_pm oc y with
    | some (0, k) => ty_in k M
    | some (2, _) => false
    | _ => true)
  | .invokestatic y => (match am_pm oc y with
    | some (0, k) => ty_in k M
    | some (2, _) => false
    | _ => true)
  | _ => true
def fk_M (M : List Nat) (f : Nat) : Prop := ∀ mid ∈ M, ∀ (pc : Nat) (i : Jvm.ClassFile.Instr), am_code mid pc = some i → fk_i M f (am_oc mid) i = true
theorem fk_back {rec : am_R} {d : Nat × Nat} {mid pc : Nat} {L r : List Value} {x : Option (am_O × am_H)} {y : am_O × am_H} {h : am_H} (hx : ∀ z, x = some z → fk_k f h z.2) (hr : ∀ (d : Nat × Nat) (pc : Nat) (L st : List Value) (h : am_H) (z : am_O × am_H), rec d mid pc L st h = some z → fk_k f h z.2) (hb : am_back rec d mid pc L r x = some y) : fk_k f h y.2 := by
  match x, hx, hb with
  | none, _, hb => cases hb
  | some (.inl v, z), hx, hb => exact (hx _ rfl).tr (hr _ _ _ _ _ _ hb)
  | some (.inr X, z), hx, hb =>
    simp only [am_back] at hb
    split at hb
    · exact (hx _ rfl).tr (hr _ _ _ _ _ _ hb)
    · split at hb
      · cases hb
      · cases hb
        exact hx _ rfl
theorem fk_call {M : List Nat} {rec : am_R} {kd : Nat} {d : Nat × Nat} {mid pc : Nat} {L st : List Value} {h : am_H} {x : Option (Nat × Nat)} {y : am_O × am_H} (hm : mid ∈ M) (hr : ∀ (d : Nat × Nat) (mid pc : Nat) (L st : List Value) (h : am_H) (z : am_O × am_H), mid ∈ M → rec d mid pc L st h = some z → fk_k f h z.2) (hx : (match x with
    | some (0, k) => ty_in k M
    | some (2, _) => false
    | _ => true) = true) (hc : am_call rec kd d mid pc L st h x = some y) : fk_k f h y.2 := by
  match x, hx, hc with
  | none, _, hc => cases hc
  | some (0, k), hx, hc =>
    simp only [am_call] at hc
    split at hc
    · exact fk_back (fun z hz => hr _ _ _ _ _ _ _ (ty_in_ok.mp hx) hz) (fun d pc L st h z hz => hr _ _ _ _ _ _ _ hm hz) hc
    · cases hc
  | some (1, k), hx, hc =>
    simp only [am_call] at hc
    split at hc
    · split at hc
      · exact hr _ _ _ _ _ _ _ hm hc
      · cases hc
    · cases hc
  | some (2, k), hx, hc => cases hx
  | some (n + 3, k), _, hc => cases hc
theorem fk_run {M : List Nat} (hM : fk_M M f) : ∀ (n : Nat) (d : Nat × Nat) (mid pc : Nat) (L st : List Value) (h : am_H) (z : am_O × am_H), mid ∈ M → am_run n d mid pc L st h = some z → fk_k f h z.2
  | 0, _, _, _, _, _, _, _, _, hz => by cases hz
  | n + 1, d, mid, pc, L, st, h, z, hm, hz => by
    have hz : am_body (am_run n) d mid pc L st h = some z := hz
    unfold am_body at hz
    cases hi : am_code mid pc with
    | none => rw [hi] at hz; cases hz
    | some i =>
      rw [hi] at hz
      dsimp only at hz
      have hok := hM mid hm pc i hi
      cases hs : am_step mid pc L st h i with
      | some x =>
        rw [hs] at hz
        refine fk_k.tr (fk_step hs (fun y hy he => ?_)) (fk_run hM n _ _ _ _ _ _ _ hm hz)
        subst hy
        simp only [fk_i, he] at hok
        simp at hok
      | none =>
        rw [hs] at hz
        dsimp only at hz
        have hr : ∀ (d : Nat × Nat) (mid pc : Nat) (L st : List Value) (h : am_H) (z : am_O × am_H), mid ∈ M → am_run n d mid pc L st h = some z → fk_k f h z.2 := fun d mid pc L st h z => fk_run hM n d mid pc L st h z
        unfold am_ctl at hz
        split at hz
        · split at hz
          · split at hz
            · cases hz; exact fk_k.rf _
            · cases hz
          · cases hz
        · split at hz
          · split at hz
            · cases hz; exact fk_k.rf _
            · cases hz
          · cases hz
        · split at hz
          · split at hz
            · cases hz; exact fk_k.rf _
            · cases hz
          · cases hz
        · exact fk_call hm hr hok hz
        · exact fk_call hm hr hok hz
        · exact fk_call hm hr hok hz
        · split at hz
          · split at hz
            · cases hz; exact fk_app _ _
            · cases hz
          · cases hz
        · cases hz
theorem fk_at {n : Nat} {t : am_T am_E n} {F : Jvm.ClassFile.Instr → Bool} (h : am_allT (fun e => F e.2.1) n t = true) {pc : Nat} {i : Jvm.ClassFile.Instr} (hi : am_at t pc = some i) : F i = true := by
  unfold am_at at hi
  split at hi
  · cases hi
    exact am_allT_get n t pc h
  · cases hi
end FKA
