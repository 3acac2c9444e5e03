/-! what the abstract machine does, the view machine does -/
section VMD
theorem vm_pure {mid pc : Nat} {L st : List Value} {H : am_H} {i : Jvm.ClassFile.Instr} {x : am_F} (hh : vm_heap i = false) (hs : am_step mid pc L st H i = some x) : am_step mid pc L st [] i = some (x.1, x.2.1, x.2.2.1, []) ∧ x.2.2.2 = H := by
  unfold am_step at hs
  split at hs
  all_goals (try (cases hh; done))
  all_goals (repeat' (split at hs))
  all_goals first
    | (cases hs; done)
    | (cases hs; simp [am_step, *]; done)
theorem vm_val_si {v : vm_V} {a k : Nat} {x : Int32} {b tg j : Nat} (hne : ¬ (b = a ∧ j = k)) : vm_val (vm_si v a k x) b tg j = vm_val v b tg j := by
  have h1 : (vm_si v a k x).1 b j = v.1 b j := if_neg hne
  unfold vm_val
  split
  · rfl
  · split
    · rfl
    · cases vm_o tg j with
      | zero => simp only [vm_fv, h1]
      | succ n => rfl
theorem vm_val_sl {v : vm_V} {a k : Nat} {x : Int64} {b tg j : Nat} (hne : ¬ (b = a ∧ j = k)) : vm_val (vm_sl v a k x) b tg j = vm_val v b tg j := by
  have h1 : (vm_sl v a k x).2.1 b j = v.2.1 b j := if_neg hne
  unfold vm_val
  split
  · rw [h1]
  · split
    · rfl
    · cases vm_o tg j with
      | zero => rfl
      | succ n => rfl
theorem vm_val_sl2 {v : vm_V} {a k : Nat} {x : Int64} {b tg j : Nat} (hne : tg ≠ 33) : vm_val (vm_sl v a k x) b tg j = vm_val v b tg j := by
  unfold vm_val
  split
  · rename_i h
    exact absurd (Nat.eq_of_beq_eq_true h) hne
  · split
    · rfl
    · cases vm_o tg j with
      | zero => rfl
      | succ n => rfl
theorem vm_val_int {v : vm_V} {a tg k : Nat} (h1 : vm_o tg k = 0) (h2 : tg ≠ 33) (h3 : tg ≠ 35) : vm_val v a tg k = .int (v.1 a k) := by
  unfold vm_val
  rw [if_neg (fun q => h2 (Nat.eq_of_beq_eq_true q)), if_neg (fun q => h3 (Nat.eq_of_beq_eq_true q)), h1]
  rfl
theorem vw_set {v : vm_V} {H : am_H} (h : vw v H) {a tg : Nat} {fs : List Value} (ha : H[a]? = some (tg, fs)) {k : Nat} {x : Int32} (h1 : vm_o tg k = 0) (h2 : tg ≠ 33) (h3 : tg ≠ 35) : vw (vm_si v a k x) (H.set a (tg, fs.set k (.int x))) := by
  refine ⟨by rw [List.length_set]; exact h.1, fun b tg' fs' hb => ?_⟩
  by_cases e : a = b
  · subst e
    rw [List.getElem?_set_self (List.getElem?_eq_some_iff.mp ha).1] at hb
    cases hb
    refine ⟨fun hn => by rw [List.length_set]; exact (h.2 a tg fs ha).1 hn, fun j u hj => ?_⟩
    by_cases ej : k = j
    · subst ej
      have hl : k < fs.length := by
        have := (List.getElem?_eq_some_iff.mp hj).1
        rwa [List.length_set] at this
      rw [List.getElem?_set_self hl] at hj
      cases hj
      rw [vm_val_int h1 h2 h3]
      exact congrArg Value.int (if_pos ⟨rfl, rfl⟩).symm
    · rw [List.getElem?_set_ne ej] at hj
      rw [vm_val_si (fun q => ej q.2.symm)]
      exact (h.2 a tg fs ha).2 j u hj
  · rw [List.getElem?_set_ne e] at hb
    refine ⟨(h.2 b tg' fs' hb).1, fun j u hj => ?_⟩
    rw [vm_val_si (fun q => e q.1.symm)]
    exact (h.2 b tg' fs' hb).2 j u hj
theorem vw_setl {v : vm_V} {H : am_H} (h : vw v H) {a : Nat} {fs : List Value} (ha : H[a]? = some (33, fs)) {k : Nat} {x : Int64} : vw (vm_sl v a k x) (H.set a (33, fs.set k (.long x))) := by
  refine ⟨by rw [List.length_set]; exact h.1, fun b tg' fs' hb => ?_⟩
  by_cases e : a = b
  · subst e
    rw [List.getElem?_set_self (List.getElem?_eq_some_iff.mp ha).1] at hb
    cases hb
    refine ⟨fun hn => by rw [List.length_set]; exact (h.2 a 33 fs ha).1 hn, fun j u hj => ?_⟩
    by_cases ej : k = j
    · subst ej
      have hl : k < fs.length := by
        have := (List.getElem?_eq_some_iff.mp hj).1
        rwa [List.length_set] at this
      rw [List.getElem?_set_self hl] at hj
      cases hj
      exact congrArg Value.long (if_pos ⟨rfl, rfl⟩).symm
    · rw [List.getElem?_set_ne ej] at hj
      rw [vm_val_sl (fun q => ej q.2.symm)]
      exact (h.2 a 33 fs ha).2 j u hj
  · rw [List.getElem?_set_ne e] at hb
    refine ⟨(h.2 b tg' fs' hb).1, fun j u hj => ?_⟩
    rw [vm_val_sl (fun q => e q.1.symm)]
    exact (h.2 b tg' fs' hb).2 j u hj
theorem vm_val_cp {v : vm_V} {n dp b sp a c tg j : Nat} (hne : ¬ (c = b ∧ dp ≤ j ∧ j < dp + n)) : vm_val (vm_cp v n dp b sp a) c tg j = vm_val v c tg j := by
  have h1 : (vm_cp v n dp b sp a).1 c j = v.1 c j := if_neg hne
  unfold vm_val
  split
  · rfl
  · split
    · rfl
    · cases vm_o tg j with
      | zero => simp only [vm_fv, h1]
      | succ n => rfl
theorem vm_o32 (k : Nat) : vm_o 32 k = 0 := rfl
theorem vm_o34 (k : Nat) : vm_o 34 k = 0 := rfl
theorem vw_copy {v : vm_V} {H H' : am_H} (h : vw v H) {n dp sp : Int32} {a b : Nat} (hc : am_copy H n dp b sp a = some H') : vw (vm_cp v n.toNatClampNeg dp.toNatClampNeg b sp.toNatClampNeg a) H' := by
  unfold am_copy at hc
  split at hc
  · rename_i tg fs ha
    split at hc
    · rename_i tg2 gs hb
      split at hc
      · rename_i ht
        simp only [Bool.and_eq_true] at ht
        obtain ⟨t1, t2, _⟩ := ht
        obtain rfl := Nat.eq_of_beq_eq_true t1
        obtain rfl := Nat.eq_of_beq_eq_true t2
        repeat' (split at hc)
        all_goals first | (cases hc; done) | skip
        rename_i hl
        simp only [Bool.and_eq_true] at hl
        have l1 := Nat.le_of_ble_eq_true hl.1
        have l2 := Nat.le_of_ble_eq_true hl.2
        cases hc
        generalize n.toNatClampNeg = n at *
        generalize dp.toNatClampNeg = dp at *
        generalize sp.toNatClampNeg = sp at *
        have len : (gs.take dp ++ (fs.drop sp).take n ++ gs.drop (dp + n)).length = gs.length := by
          simp only [List.length_append, List.length_take, List.length_drop]
          omega
        refine ⟨by rw [List.length_set]; exact h.1, fun c tg' fs' hb' => ?_⟩
        by_cases e : b = c
        · subst e
          rw [List.getElem?_set_self (List.getElem?_eq_some_iff.mp hb).1] at hb'
          cases hb'
          refine ⟨fun hn => by rw [len]; exact (h.2 b 32 gs hb).1 hn, fun j u hj => ?_⟩
          by_cases q : dp ≤ j ∧ j < dp + n
          · have e1 : fs[sp + (j - dp)]? = some u := by
              rw [List.getElem?_append_left (by simp only [List.length_append, List.length_take, List.length_drop]; omega), List.getElem?_append_right (by rw [List.length_take]; omega), List.getElem?_take_of_lt (by rw [List.length_take]; omega), List.getElem?_drop, List.length_take, Nat.min_eq_left (by omega)] at hj
              exact hj
            rw [(h.2 a 32 fs ha).2 _ u e1, vm_val_int rfl (by decide) (by decide), vm_val_int rfl (by decide) (by decide)]
            exact congrArg Value.int (if_pos ⟨rfl, q⟩).symm
          · have e1 : gs[j]? = some u := by
              by_cases q1 : j < dp
              · rw [List.getElem?_append_left (by simp only [List.length_append, List.length_take, List.length_drop]; omega), List.getElem?_append_left (by rw [List.length_take]; omega), List.getElem?_take_of_lt q1] at hj
                exact hj
              · rw [List.getElem?_append_right (by simp only [List.length_append, List.length_take, List.length_drop]; omega), List.getElem?_drop] at hj
                simp only [List.length_append, List.length_take, List.length_drop] at hj
                rw [show dp + n + (j - (min dp gs.length + min n (fs.length - sp))) = j by omega] at hj
                exact hj
            rw [vm_val_cp (fun q2 => q q2.2)]
            exact (h.2 b 32 gs hb).2 j u e1
        · rw [List.getElem?_set_ne e] at hb'
          refine ⟨(h.2 c tg' fs' hb').1, fun j u hj => ?_⟩
          rw [vm_val_cp (fun q => e q.1.symm)]
          exact (h.2 c tg' fs' hb').2 j u hj
      · cases hc
    · cases hc
  · cases hc
theorem vw_new {v : vm_V} {H : am_H} (h : vw v H) {X : Nat} (hX : X < 32) : vw (vm_nx v) (H ++ [(X, [])]) := by
  refine ⟨by rw [List.length_append, h.1]; rfl, fun a tg fs ha => ?_⟩
  by_cases q : a < H.length
  · rw [List.getElem?_append_left q] at ha
    exact h.2 a tg fs ha
  · rw [List.getElem?_append_right (by omega)] at ha
    have : a - H.length = 0 := by
      have := (List.getElem?_eq_some_iff.mp ha).1
      simp at this
      omega
    rw [this] at ha
    cases ha
    refine ⟨fun hn => absurd ?_ hn, fun k u hu => by simp at hu⟩
    unfold am_aty
    split <;> first | rfl | omega
end VMD
