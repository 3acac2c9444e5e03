/-! THE START: both objects are made -/
def lw_rest : am_H := [(32, [.int 1, .int 1, .int 1, .int 1, .int 3, .int 1, .int 1, .int 4, .int 2, .int 1]), (0, [.ref 3, .ref 7, .ref 11, .ref 14, .ref 15, .ref 18, .ref 61, .int 0]), (1, [.ref 4, .ref 5, .ref 6, .int 0]), (32, List.replicate 192 (.int 0)), (32, List.replicate 24 (.int 0)), (32, List.replicate 6 (.int 0)), (1, [.ref 8, .ref 9, .ref 10, .int 0]), (32, List.replicate 192 (.int 0)), (32, List.replicate 24 (.int 0)), (32, List.replicate 6 (.int 0)), (2, [.ref 12, .ref 13]), (34, List.replicate 6 (.int 0)), (32, List.replicate 6 (.int 0)), (3, []), (4, [.ref 16, .ref 17]), (32, List.replicate 8 (.int 0)), (34, List.replicate 8 (.int 0)), (5, [.ref 19, .ref 49, .ref 54, .ref 59, .ref 60, .int 0, .int 0, .int (-1), .int (-1)]), (6, [.ref 20, .ref 43, .ref 44, .ref 45, .ref 46, .ref 47, .ref 48, .int 0, .int 0]), (35, [.ref 21, .ref 22, .ref 23, .ref 24, .ref 25, .ref 26, .ref 27, .ref 28, .ref 29, .ref 30, .ref 31, .ref 32, .ref 33, .ref 34, .ref 35, .ref 36, .ref 37, .ref 38, .ref 39, .ref 40, .ref 41, .ref 42]), (32, List.replicate 23 (.int 0)), (32, List.replicate 23 (.int 0)), (32, List.replicate 23 (.int 0)), (32, List.replicate 23 (.int 0)), (32, List.replicate 23 (.int 0)), (32, List.replicate 23 (.int 0)), (32, List.replicate 23 (.int 0)), (32, List.replicate 23 (.int 0)), (32, List.replicate 23 (.int 0)), (32, List.replicate 23 (.int 0)), (32, List.replicate 23 (.int 0)), (32, List.replicate 23 (.int 0)), (32, List.replicate 23 (.int 0)), (32, List.replicate 23 (.int 0)), (32, List.replicate 23 (.int 0)), (32, List.replicate 23 (.int 0)), (32, List.replicate 23 (.int 0)), (32, List.replicate 23 (.int 0)), (32, List.replicate 23 (.int 0)), (32, List.replicate 23 (.int 0)), (32, List.replicate 23 (.int 0)), (32, List.replicate 23 (.int 0)), (34, List.replicate 22 (.int 0)), (32, List.replicate 22 (.int 0)), (32, List.replicate 22 (.int 0)), (32, List.replicate 22 (.int 0)), (32, List.replicate 22 (.int 0)), (32, List.replicate 23 (.int 0)), (7, [.ref 50, .ref 51, .ref 52, .ref 53, .int 0, .int 0, .int 2, .int 0, .int 0, .int 0]), (32, List.replicate 6 (.int 0)), (32, List.replicate 8 (.int 0)), (32, List.replicate 8 (.int 0)), (32, List.replicate 8 (.int 0)), (7, [.ref 55, .ref 56, .ref 57, .ref 58, .int 0, .int 0, .int 2, .int 0, .int 0, .int 0]), (32, List.replicate 6 (.int 0)), (32, List.replicate 8 (.int 0)), (32, List.replicate 8 (.int 0)), (32, List.replicate 8 (.int 0)), (32, List.replicate 6 (.int 0)), (32, List.replicate 6 (.int 0)), (8, [.ref 62, .ref 63, .int 0, .int 0, .int 0, .int 0]), (32, List.replicate 6 (.int 0)), (32, List.replicate 8 (.int 0)), (9, [.int 0, .ref 65, .ref 66, .ref 67, .ref 68, .int 0, .ref 69, .ref 70, .ref 71, .ref 72, .ref 73, .ref 74, .ref 75, .ref 76, .ref 77, .ref 78, .ref 79, .ref 80, .ref 81, .ref 82, .int (-1), .int (-1), .int (-1), .ref 83, .ref 84, .int 0, .ref 85, .ref 86, .ref 87, .ref 88, .ref 89, .ref 90, .ref 91, .int 0, .int 0, .ref 92]), (32, List.replicate 2 (.int 0)), (32, List.replicate 12 (.int 0)), (32, List.replicate 384 (.int 0)), (32, List.replicate 48 (.int 0)), (32, List.replicate 22 (.int 0)), (32, List.replicate 528 (.int 0)), (32, List.replicate 528 (.int 0)), (32, List.replicate 288 (.int 0)), (32, List.replicate 2 (.int 0)), (32, List.replicate 16 (.int 0)), (32, List.replicate 384 (.int 0)), (32, List.replicate 384 (.int 0)), (32, List.replicate 24 (.int 0)), (32, List.replicate 24 (.int 0)), (32, List.replicate 2 (.int 0)), (32, List.replicate 2 (.int 0)), (32, List.replicate 2 (.int 0)), (32, List.replicate 2 (.int 0)), (32, List.replicate 40 (.int 0)), (32, List.replicate 40 (.int 0)), (32, List.replicate 6 (.int 0)), (34, List.replicate 6 (.int 0)), (32, List.replicate 6 (.int 0)), (32, List.replicate 8 (.int 0)), (34, List.replicate 8 (.int 0)), (32, List.replicate 6 (.int 0)), (32, List.replicate 8 (.int 0)), (34, List.replicate 22 (.int 0)), (33, [.long 0])]
def lw_tk : am_C := (32, [.int 1, .int 1, .int 1, .int 1, .int 3, .int 1, .int 1, .int 4, .int 2, .int 1])
section LWA
def lw_vq : Value → Value → Bool
  | .int a, .int b => decide (a = b)
  | .ref a, .ref b => Nat.beq a b
  | .long a, .long b => decide (a = b)
  | .retAddr a, .retAddr b => Nat.beq a b
  | .null, .null => true
  | _, _ => false
def lw_lq : List Value → List Value → Bool
  | [], [] => true
  | a :: r, b :: s => lw_vq a b && lw_lq r s
  | _, _ => false
def lw_hq : am_H → am_H → Bool
  | [], [] => true
  | a :: r, b :: s => Nat.beq a.1 b.1 && (lw_lq a.2 b.2 && lw_hq r s)
  | _, _ => false
theorem lw_vq_ok {a b : Value} (h : lw_vq a b = true) : a = b := by
  match a, b, h with
  | .int a, .int b, h => rw [of_decide_eq_true h]
  | .ref a, .ref b, h => rw [Nat.eq_of_beq_eq_true h]
  | .long a, .long b, h => rw [of_decide_eq_true h]
  | .retAddr a, .retAddr b, h => rw [Nat.eq_of_beq_eq_true h]
  | .null, .null, _ => rfl
theorem lw_lq_ok : ∀ {a b : List Value}, lw_lq a b = true → a = b
  | [], [], _ => rfl
  | a :: r, b :: s, h => by
    simp only [lw_lq, Bool.and_eq_true] at h
    rw [lw_vq_ok h.1, lw_lq_ok h.2]
theorem lw_hq_ok : ∀ {a b : am_H}, lw_hq a b = true → a = b
  | [], [], _ => rfl
  | (t, a) :: r, (u, b) :: s, h => by
    simp only [lw_hq, Bool.and_eq_true] at h
    rw [Nat.eq_of_beq_eq_true h.1, lw_lq_ok h.2.1, lw_hq_ok h.2.2]
/-- the cell 0 is not looked at -/
def z0_d : am_C := (99999, [])
variable {X : am_C}
theorem z0_get {h : am_H} {a tg : Nat} {fs : List Value} (h0 : h[0]? = some z0_d) (ha : h[a]? = some (tg, fs)) (hn : tg ≠ 99999 ∨ fs ≠ []) : (h.set 0 X)[a]? = some (tg, fs) := by
  by_cases q : 0 = a
  · subst q
    rw [h0] at ha
    cases ha
    rcases hn with hn | hn <;> exact absurd rfl hn
  · rw [List.getElem?_set_ne q]
    exact ha
theorem z0_app {h e : am_H} (h0 : h[0]? = some z0_d) : (h ++ e).set 0 X = h.set 0 X ++ e ∧ (h ++ e)[0]? = some z0_d := by
  have hl := (List.getElem?_eq_some_iff.mp h0).1
  exact ⟨List.set_append_left 0 X hl, by rw [List.getElem?_append_left hl]; exact h0⟩
theorem z0_set {h : am_H} {a : Nat} {y : am_C} (h0 : h[0]? = some z0_d) (ha : 2 ≤ a) : (h.set a y).set 0 X = (h.set 0 X).set a y ∧ (h.set a y)[0]? = some z0_d := ⟨List.set_comm _ _ (by omega), by rw [List.getElem?_set_ne (by omega)]; exact h0⟩
theorem z0_ald {pc : Nat} {L st : List Value} {h : am_H} {t : Nat} {x : am_F} (h0 : h[0]? = some z0_d) (hs : am_ald pc L st h t = some x) : am_ald pc L st (h.set 0 X) t = some (x.1, x.2.1, x.2.2.1, x.2.2.2.set 0 X) ∧ x.2.2.2[0]? = some z0_d := by
  unfold am_ald at hs ⊢
  split at hs
  · split at hs
    · rename_i j a r tg fs ha
      split at hs
      · rename_i hq
        split at hs
        · cases hs
        · rename_i hj
          split at hs
          · rename_i v hv
            cases hs
            have hne : fs ≠ [] := fun e => by rw [e] at hv; simp at hv
            simp only [z0_get (X := X) h0 ha (Or.inr hne)]
            rw [if_pos hq, if_neg hj, hv]
            exact ⟨rfl, h0⟩
          · cases hs
      · cases hs
    · cases hs
  · cases hs
theorem z0_ast {pc : Nat} {L r : List Value} {h : am_H} {t a : Nat} {j : Int32} {v : Value} {x : am_F} (h0 : h[0]? = some z0_d) (hs : am_ast pc L r h t a j v = some x) : am_ast pc L r (h.set 0 X) t a j v = some (x.1, x.2.1, x.2.2.1, x.2.2.2.set 0 X) ∧ x.2.2.2[0]? = some z0_d := by
  unfold am_ast at hs ⊢
  split at hs
  · rename_i tg fs ha
    split at hs
    · rename_i hq
      split at hs
      · cases hs
      · rename_i hj
        split at hs
        · rename_i hl
          cases hs
          have h2 : 2 ≤ a := by
            simp only [Bool.and_eq_true] at hq
            exact Nat.le_of_ble_eq_true hq.2
          have ha' : (h.set 0 X)[a]? = some (tg, fs) := by rw [List.getElem?_set_ne (by omega)]; exact ha
          obtain ⟨s1, s2⟩ := z0_set (X := X) (y := (tg, fs.set j.toNatClampNeg v)) h0 h2
          simp only [ha']
          rw [if_pos hq, if_neg hj, if_pos hl, s1]
          exact ⟨rfl, s2⟩
        · cases hs
    · cases hs
  · cases hs
theorem z0_step {mid pc : Nat} {L st : List Value} {h : am_H} {i : Jvm.ClassFile.Instr} {x : am_F} (h0 : h[0]? = some z0_d) (hs : am_step mid pc L st h i = some x) : am_step mid pc L st (h.set 0 X) i = some (x.1, x.2.1, x.2.2.1, x.2.2.2.set 0 X) ∧ x.2.2.2[0]? = some z0_d := by
  cases i with
  | iaload => exact z0_ald h0 hs
  | baload => exact z0_ald h0 hs
  | laload => exact z0_ald h0 hs
  | aaload => exact z0_ald h0 hs
  | iastore =>
    simp only [am_step] at hs ⊢
    split at hs
    · exact z0_ast h0 hs
    · cases hs
  | bastore =>
    simp only [am_step] at hs ⊢
    split at hs
    · exact z0_ast h0 hs
    · cases hs
  | lastore =>
    simp only [am_step] at hs ⊢
    split at hs
    · exact z0_ast h0 hs
    · cases hs
  | arraylength =>
    simp only [am_step] at hs ⊢
    split at hs
    · split at hs
      · rename_i a r tg fs ha
        split at hs
        · rename_i ty hty
          cases hs
          have hne : tg ≠ 99999 := fun e => by rw [e] at hty; cases hty
          simp only [z0_get (X := X) h0 ha (Or.inl hne), hty]
          exact ⟨trivial, h0⟩
        · cases hs
      · cases hs
    · cases hs
  | getfield y =>
    simp only [am_step] at hs ⊢
    split at hs
    · rename_i ci k hk
      split at hs
      · split at hs
        · rename_i a r tg fs ha
          split at hs
          · rename_i hq
            split at hs
            · rename_i v hv
              cases hs
              have hne : fs ≠ [] := fun e => by rw [e] at hv; simp at hv
              simp only [hk, z0_get (X := X) h0 ha (Or.inr hne)]
              rw [if_pos hq, hv]
              exact ⟨rfl, h0⟩
            · cases hs
          · cases hs
        · cases hs
      · cases hs
    · cases hs
  | putfield y =>
    simp only [am_step] at hs ⊢
    split at hs
    · rename_i ci k hk
      split at hs
      · rename_i v a r
        split at hs
        · rename_i tg fs ha
          split at hs
          · rename_i hq
            cases hs
            have h2 : (2 : Nat) ≤ a := by
              simp only [Bool.and_eq_true] at hq
              exact Nat.le_of_ble_eq_true hq.2.1
            have hn0 : (0 : Nat) ≠ a := fun e => by
              rw [← e] at h2
              exact absurd h2 (by decide)
            have ha' : (h.set 0 X)[a]? = some (tg, fs) := by rw [List.getElem?_set_ne hn0]; exact ha
            obtain ⟨s1, s2⟩ := z0_set (X := X) (y := (tg, fs.set k v)) h0 h2
            simp only [hk, ha']
            rw [if_pos hq, s1]
            exact ⟨rfl, s2⟩
          · cases hs
        · cases hs
      · cases hs
    · cases hs
  | newarray t =>
    simp only [am_step] at hs ⊢
    split at hs
    · split at hs
      · rename_i n r k hk
        split at hs
        · cases hs
        · rename_i hn
          split at hs
          · rename_i hq
            cases hs
            simp only [hk]
            rw [if_neg hn, if_pos hq, List.length_set, (z0_app h0).1]
            exact ⟨rfl, (z0_app h0 (X := X)).2⟩
          · cases hs
      · cases hs
    · cases hs
  | multianewarray y dm =>
    simp only [am_step] at hs ⊢
    split at hs
    · rename_i k n r
      split at hs
      · rename_i hq
        split at hs
        · cases hs
        · rename_i hn
          split at hs
          · cases hs
          · rename_i hk
            split at hs
            · rename_i hz
              cases hs
              rw [if_pos hq, if_neg hn, if_neg hk, if_pos hz, List.length_set, (z0_app h0).1]
              exact ⟨rfl, (z0_app h0 (X := X)).2⟩
            · cases hs
      · cases hs
    · cases hs
  | new y =>
    simp only [am_step] at hs ⊢
    split at hs
    · rename_i ci hc
      cases hs
      simp only [hc]
      rw [List.length_set]
      rw [(z0_app h0).1]
      exact ⟨rfl, (z0_app h0 (X := X)).2⟩
    · cases hs
  | _ =>
    simp only [am_step] at hs ⊢
    repeat' (split at hs)
    all_goals first
      | (cases hs; done)
      | (cases hs; refine ⟨?_, h0⟩; simp [*]; done)
def z0_g (X : am_C) (c : am_G) : am_G := (c.1, c.2.1.set 0 X, c.2.2)
theorem z0_oc (k : Nat) : am_oc k ≠ 99999 := by
  have h : am_allT (fun q : am_MI => !(Nat.beq q.2.2.2.2.2.2.1 99999)) 8 am_mt = true := by decide +kernel
  have := am_allT_get 8 am_mt k h
  intro e
  unfold am_oc am_mi at e
  rw [e] at this
  cases this
theorem z0_rcv {k : Nat} {as : List Value} {h : am_H} (h0 : h[0]? = some z0_d) (hr : am_rcv k as h = true) : am_rcv k as (h.set 0 X) = true := by
  unfold am_rcv at hr ⊢
  split at hr
  · rename_i he
    simp [he]
  · rename_i he
    split at hr
    · split at hr
      · rename_i tg fs ha
        have ht : tg ≠ 99999 := fun e => by
          have := Nat.eq_of_beq_eq_true hr
          exact z0_oc k (by rw [← this, e])
        simp only [z0_get (X := X) h0 ha (Or.inl ht)]
        exact hr
      · cases hr
    · cases hr
theorem z0_pop : ∀ {K : List am_K} {o : am_O} {h : am_H} {c : am_G}, h[0]? = some z0_d → am_pop K o h = some c → am_pop K o (h.set 0 X) = some (z0_g X c) ∧ c.2.1[0]? = some z0_d
  | [], _, _, _, _, hp => by cases hp
  | q :: K, .inl v, h, c, h0, hp => by
    cases hp
    exact ⟨rfl, h0⟩
  | q :: K, .inr Y, h, c, h0, hp => by
    simp only [am_pop] at hp ⊢
    cases hq : am_hdl (am_hs q.2.1) q.2.2.1 Y with
    | some z =>
      rw [hq] at hp
      cases hp
      dsimp only
      rw [List.length_set]
      exact ⟨rfl, h0⟩
    | none =>
      rw [hq] at hp
      dsimp only at hp ⊢
      split at hp
      · cases hp
      · rename_i hc
        rw [if_neg hc]
        exact z0_pop h0 hp
theorem z0_smc {kd : Nat} {d : Nat × Nat} {mid pc : Nat} {L st : List Value} {h : am_H} {K : List am_K} {x : Option (Nat × Nat)} {c : am_G} (h0 : h[0]? = some z0_d) (hx : ∀ k, x ≠ some (2, k)) (hs : am_smc kd d mid pc L st h K x = some c) : am_smc kd d mid pc L st (h.set 0 X) K x = some (z0_g X c) ∧ c.2.1[0]? = some z0_d := by
  match x, hx, hs with
  | none, _, hs => cases hs
  | some (0, k), _, hs =>
    simp only [am_smc] at hs ⊢
    split at hs
    · rename_i hq
      cases hs
      simp only [Bool.and_eq_true] at hq
      obtain ⟨a1, a2, a3, a4, a5, a6⟩ := hq
      rw [if_pos (by simp only [Bool.and_eq_true]; exact ⟨a1, a2, a3, a4, a5, z0_rcv h0 a6⟩)]
      exact ⟨rfl, h0⟩
    · cases hs
  | some (1, k), _, hs =>
    simp only [am_smc] at hs ⊢
    split at hs
    · split at hs
      · rename_i hq
        cases hs
        rw [if_pos hq]
        exact ⟨rfl, h0⟩
      · cases hs
    · cases hs
  | some (2, k), hx, _ => exact absurd rfl (hx k)
  | some (n + 3, k), _, hs => cases hs
/-- no arraycopy, no throw -/
def z0_i (mid : Nat) (i : Jvm.ClassFile.Instr) : Bool := match i with
  | .invokestatic _ => false
  | .new x => (am_pc (am_oc mid) x).isSome
  | .invokevirtual x => (match am_pm (am_oc mid) x with
    | some (2, _) => false
    | _ => true)
  | .invokespecial x => (match am_pm (am_oc mid) x with
    | some (2, _) => false
    | _ => true)
  | _ => true
def z0_ok (c : am_G) : Bool := match am_code c.1.2.1 c.1.2.2.1 with
  | some i => z0_i c.1.2.1 i
  | none => false
theorem z0_sm {c c' : am_G} (h0 : c.2.1[0]? = some z0_d) (hk : z0_ok c = true) (hs : am_sm c = some c') : am_sm (z0_g X c) = some (z0_g X c') ∧ c'.2.1[0]? = some z0_d := by
  obtain ⟨⟨d, mid, pc, L, st⟩, h, K⟩ := c
  simp only [am_sm] at hs
  simp only [z0_ok] at hk
  simp only [z0_g, am_sm]
  cases hi : am_code mid pc with
  | none => rw [hi] at hs; cases hs
  | some i =>
    rw [hi] at hs hk
    dsimp only at hs hk h0 ⊢
    cases hf : am_step mid pc L st h i with
    | some f =>
      rw [hf] at hs
      cases hs
      obtain ⟨e1, e2⟩ := z0_step (X := X) h0 hf
      rw [e1]
      exact ⟨rfl, e2⟩
    | none =>
      rw [hf] at hs
      dsimp only at hs
      have hx : ∀ y : Nat, (match am_pm (am_oc mid) y with
        | some (2, _) => false
        | _ => true) = true → ∀ k, am_pm (am_oc mid) y ≠ some (2, k) := fun y hy k e => by rw [e] at hy; cases hy
      have key : ∀ j : Jvm.ClassFile.Instr, i = j → am_step mid pc L st (h.set 0 X) j = none → (am_smt d mid pc L st (h.set 0 X) K j = some (z0_g X c') ∧ c'.2.1[0]? = some z0_d) → (match am_step mid pc L st (h.set 0 X) i with
        | some f => some ((d, mid, f.1, f.2.1, f.2.2.1), f.2.2.2, K)
        | none => am_smt d mid pc L st (h.set 0 X) K i) = some (z0_g X c') ∧ c'.2.1[0]? = some z0_d := by
        intro j hj h1 h2
        subst hj
        rw [h1]
        exact h2
      unfold am_smt at hs
      split at hs
      · split at hs
        · split at hs
          · rename_i hq
            refine key _ rfl rfl ?_
            simp only [am_smt]
            rw [if_pos hq]
            exact z0_pop h0 hs
          · cases hs
        · cases hs
      · split at hs
        · split at hs
          · rename_i hq
            refine key _ rfl rfl ?_
            simp only [am_smt]
            rw [if_pos hq]
            exact z0_pop h0 hs
          · cases hs
        · cases hs
      · split at hs
        · split at hs
          · rename_i hq
            refine key _ rfl rfl ?_
            simp only [am_smt]
            rw [if_pos hq]
            exact z0_pop h0 hs
          · cases hs
        · cases hs
      · exact key _ rfl rfl (z0_smc h0 (hx _ hk) hs)
      · exact key _ rfl rfl (z0_smc h0 (hx _ hk) hs)
      · cases hk
      · rename_i y
        have hk : (am_pc (am_oc mid) y).isSome = true := hk
        simp only [am_step] at hf
        cases hp : am_pc (am_oc mid) y with
        | none => rw [hp] at hk; cases hk
        | some ci => rw [hp] at hf; cases hf
      · cases hs
/-- the run, and that nothing else is in it -/
def z0_run : Nat → am_G → Option am_G
  | 0, c => some c
  | n + 1, c => if z0_ok c then (match am_sm c with
    | some c' => z0_run n c'
    | none => none) else none
theorem z0_run_ev : ∀ (n : Nat) {c c' : am_G}, c.2.1[0]? = some z0_d → z0_run n c = some c' → ∀ r : am_O × am_H, am_Ev (z0_g X c') r → am_Ev (z0_g X c) r
  | 0, c, c', _, hs, r, hr => by cases hs; exact hr
  | n + 1, c, c', h0, hs, r, hr => by
    simp only [z0_run] at hs
    rcases ty_ite hs with ⟨hk, hs⟩ | ⟨_, hs⟩
    · cases hq : am_sm c with
      | none => rw [hq] at hs; cases hs
      | some c2 =>
        rw [hq] at hs
        obtain ⟨e1, e2⟩ := z0_sm (X := X) h0 hk hq
        exact am_sm_ev e1 (z0_run_ev n e2 hs r hr)
    · cases hs
def lw_c0 : am_G := (((11, 452), 0, 0, [.ref 0, .retAddr 0, .retAddr 0, .retAddr 0, .retAddr 0, .retAddr 0, .retAddr 0], []), [z0_d, lw_tk], [])
def lw_ini : Bool := match z0_run 412 lw_c0 with
  | some ((d, mid, pc, L, st), h, K) => Nat.beq d.1 11 && (Nat.beq d.2 452 && (Nat.beq mid 0 && (Nat.beq pc 23 && (lw_lq L [.ref 0, .ref 2, .ref 64, .ref 93, .int 0, .retAddr 0, .retAddr 0] && (lw_lq st [] && (lw_hq h (z0_d :: lw_rest) && K.isEmpty))))))
  | none => false
theorem lw_ini_ok : lw_ini = true := by decide +kernel
theorem lw_init (l : List Value) (r : am_O × am_H) (hr : am_Ev (((11, 452), 0, 23, [.ref 0, .ref 2, .ref 64, .ref 93, .int 0, .retAddr 0, .retAddr 0], []), (32, l) :: lw_rest, []) r) : am_Ev (((11, 452), 0, 0, [.ref 0, .retAddr 0, .retAddr 0, .retAddr 0, .retAddr 0, .retAddr 0, .retAddr 0], []), [(32, l), lw_tk], []) r := by
  have h := lw_ini_ok
  unfold lw_ini at h
  split at h
  · rename_i d mid pc L st h' K hrun
    simp only [Bool.and_eq_true] at h
    obtain ⟨h1, h2, h3, h4, h5, h6, h7, h8⟩ := h
    obtain ⟨d1, d2⟩ := d
    have e1 := Nat.eq_of_beq_eq_true h1
    have e2 := Nat.eq_of_beq_eq_true h2
    have e3 := Nat.eq_of_beq_eq_true h3
    have e4 := Nat.eq_of_beq_eq_true h4
    have e5 := lw_lq_ok h5
    have e6 := lw_lq_ok h6
    have e7 := lw_hq_ok h7
    have e8 := List.isEmpty_iff.mp h8
    dsimp only at e1 e2
    subst e1 e2 e3 e4 e5 e6 e7 e8
    exact z0_run_ev (X := (32, l)) 412 (c := lw_c0) rfl hrun r hr
  · cases h
end LWA
