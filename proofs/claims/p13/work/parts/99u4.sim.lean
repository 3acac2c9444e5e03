section VME
theorem vm_ald {pc : Nat} {L st : List Value} {H : am_H} {t : Nat} {x : am_F} {v : vm_V} (hv : vw v H) (hs : am_ald pc L st H t = some x) : ∃ (j : Int32) (a : Nat) (r : List Value), st = .int j :: .ref a :: r ∧ x = (pc + 1, L, vm_val v a (32 + t) j.toNatClampNeg :: r, H) := by
  unfold am_ald at hs
  split at hs
  · rename_i j a r
    split at hs
    · rename_i tg fs ha
      split at hs
      · rename_i ht
        split at hs
        · cases hs
        · split at hs
          · rename_i u hu
            cases hs
            have ht := Nat.eq_of_beq_eq_true ht
            subst ht
            exact ⟨j, a, r, rfl, by rw [(hv.2 a _ fs ha).2 _ u hu]⟩
          · cases hs
      · cases hs
    · cases hs
  · cases hs
theorem vm_ast {pc : Nat} {L r : List Value} {H : am_H} {t a : Nat} {j : Int32} {u : Value} {x : am_F} (hs : am_ast pc L r H t a j u = some x) : ∃ fs : List Value, H[a]? = some (32 + t, fs) ∧ x = (pc + 1, L, r, H.set a (32 + t, fs.set j.toNatClampNeg u)) := by
  unfold am_ast at hs
  split at hs
  · rename_i tg fs ha
    split at hs
    · rename_i ht
      simp only [Bool.and_eq_true] at ht
      split at hs
      · cases hs
      · split at hs
        · cases hs
          have ht := Nat.eq_of_beq_eq_true ht.1
          subst ht
          exact ⟨fs, ha, rfl⟩
        · cases hs
    · cases hs
  · cases hs
theorem vm_val_obj {v : vm_V} {a ci k : Nat} (h : Nat.blt ci 32 = true) : vm_val v a ci k = vm_fv v a k (vm_o ci k) := by
  rw [Nat.blt_eq] at h
  unfold vm_val
  rw [if_neg (fun q => by have := Nat.eq_of_beq_eq_true q; omega), if_neg (fun q => by have := Nat.eq_of_beq_eq_true q; omega)]
theorem vm_sim1 {mid pc : Nat} {L st : List Value} {H : am_H} {i : Jvm.ClassFile.Instr} {x : am_F} {v : vm_V} (hi : vm_iok (am_oc mid) i = true) (hv : vw v H) (hs : am_step mid pc L st H i = some x) : ∃ v' : vm_V, vm_step mid pc L st v i = some (x.1, x.2.1, x.2.2.1, v') ∧ vw v' x.2.2.2 := by
  cases hh : vm_heap i with
  | false =>
    have hp := vm_pure hh hs
    refine ⟨v, ?_, by rw [hp.2]; exact hv⟩
    unfold vm_step
    rw [if_neg (by rw [hh]; decide), hp.1]
  | true =>
    unfold vm_heap at hh
    split at hh
    · have hs : am_ald pc L st H 0 = some x := hs
      obtain ⟨j, a, r, rfl, rfl⟩ := vm_ald hv hs
      exact ⟨v, rfl, hv⟩
    · have hs : am_ald pc L st H 2 = some x := hs
      obtain ⟨j, a, r, rfl, rfl⟩ := vm_ald hv hs
      exact ⟨v, rfl, hv⟩
    · have hs : am_ald pc L st H 1 = some x := hs
      obtain ⟨j, a, r, rfl, rfl⟩ := vm_ald hv hs
      exact ⟨v, rfl, hv⟩
    · have hs : am_ald pc L st H 3 = some x := hs
      obtain ⟨j, a, r, rfl, rfl⟩ := vm_ald hv hs
      exact ⟨v, rfl, hv⟩
    · simp only [am_step] at hs
      split at hs
      · rename_i y j a r
        obtain ⟨fs, h1, rfl⟩ := vm_ast hs
        exact ⟨vm_si v a j.toNatClampNeg y, rfl, vw_set hv h1 rfl (by decide) (by decide)⟩
      · cases hs
    · simp only [am_step] at hs
      split at hs
      · rename_i y j a r
        obtain ⟨fs, h1, rfl⟩ := vm_ast hs
        exact ⟨vm_si v a j.toNatClampNeg (y &&& 1), rfl, vw_set hv h1 rfl (by decide) (by decide)⟩
      · cases hs
    · simp only [am_step] at hs
      split at hs
      · rename_i y j a r
        obtain ⟨fs, h1, rfl⟩ := vm_ast hs
        exact ⟨vm_sl v a j.toNatClampNeg y, rfl, vw_setl hv h1⟩
      · cases hs
    · rename_i z
      simp only [am_step] at hs
      simp only [vm_iok] at hi
      split at hs
      · rename_i ci k hk
        rw [hk] at hi
        dsimp only at hi
        split at hs
        · rename_i a r
          split at hs
          · rename_i tg fs ha
            split at hs
            · rename_i ht
              split at hs
              · rename_i u hu
                cases hs
                have ht := Nat.eq_of_beq_eq_true ht
                subst ht
                refine ⟨v, ?_, hv⟩
                show vm_hp mid pc L (.ref a :: r) v (.getfield z) = _
                simp only [vm_hp, hk]
                rw [(hv.2 a _ fs ha).2 _ u hu, vm_val_obj hi]
              · cases hs
            · cases hs
          · cases hs
        · cases hs
      · cases hs
    · rename_i z
      simp only [am_step] at hs
      simp only [vm_iok] at hi
      split at hs
      · rename_i ci k hk
        rw [hk] at hi
        simp only [Bool.and_eq_true] at hi
        obtain ⟨i1, i2, i3⟩ := hi
        split at hs
        · rename_i u a r
          split at hs
          · rename_i tg fs ha
            split at hs
            · rename_i ht
              simp only [Bool.and_eq_true] at ht
              obtain ⟨t1, _, _, t4, _⟩ := ht
              cases hs
              have ht := Nat.eq_of_beq_eq_true t1
              subst ht
              have hu : ∃ y : Int32, u = .int y := by
                split at i3
                · rename_i hf
                  rw [hf] at t4
                  match u, t4 with
                  | .int y, _ => exact ⟨y, rfl⟩
                · rename_i hf
                  rw [hf] at t4
                  match u, t4 with
                  | .int y, _ => exact ⟨y, rfl⟩
                · cases i3
              obtain ⟨y, rfl⟩ := hu
              rw [Nat.blt_eq] at i2
              refine ⟨vm_si v a k y, ?_, vw_set hv ha (Nat.eq_of_beq_eq_true i1) (by omega) (by omega)⟩
              show vm_hp mid pc L (.int y :: .ref a :: r) v (.putfield z) = _
              simp only [vm_hp, hk]
            · cases hs
          · cases hs
        · cases hs
      · cases hs
    · simp only [am_step] at hs
      split at hs
      · rename_i a r
        split at hs
        · rename_i tg fs ha
          split at hs
          · rename_i ty hty
            cases hs
            refine ⟨v, ?_, hv⟩
            show some _ = some _
            rw [(hv.2 a tg fs ha).1 (by rw [hty]; exact Option.some_ne_none _)]
          · cases hs
        · cases hs
      · cases hs
    · cases hi
    · cases hi
    · rename_i z
      simp only [am_step] at hs
      simp only [vm_iok, Bool.and_eq_true] at hi
      split at hs
      · rename_i ci hci
        rw [hci] at hi
        cases hi.1
      · cases hs
    · cases hh
theorem vm_simc {n : Nat} (IH : ∀ (d : Nat × Nat) (mid pc : Nat) (L st : List Value) (H : am_H) (o : am_O) (H' : am_H) (v : vm_V), vm_ent mid pc = true → vw v H → am_run n d mid pc L st H = some (o, H') → ∃ v' : vm_V, vm_go n mid pc L st v = some (o, v') ∧ vw v' H') {kd : Nat} {d : Nat × Nat} {mid pc : Nat} {L st : List Value} {H : am_H} {o : am_O} {H' : am_H} {v : vm_V} {q : Option (Nat × Nat)} (hs : vm_ent mid pc = true) (hq : (match q with
    | some (0, k) => vm_sup k
    | some (1, _) => false
    | _ => true) = true) (hv : vw v H) (h : am_call (am_run n) kd d mid pc L st H q = some (o, H')) : ∃ v' : vm_V, vm_call (vm_go n) mid pc L st v q = some (o, v') ∧ vw v' H' := by
  match q, hq, h with
  | none, _, h => cases h
  | some (0, k), hq, h =>
    simp only [am_call] at h
    split at h
    · generalize hr : am_run n (d.1 - 1, d.2 - (am_wt (st.drop (am_na k)) + (am_ml k + 11))) k 0 ((st.take (am_na k)).reverse ++ List.replicate (am_ml k - am_na k) (.retAddr 0)) [] H = y at h
      match y, hr, h with
      | none, _, h => cases h
      | some (.inl u, H1), hr, h =>
        obtain ⟨v1, e1, e2⟩ := IH _ _ _ _ _ _ _ _ _ (by unfold vm_ent; rw [show vm_sup k = true from hq]; rfl) hv hr
        obtain ⟨v2, e3, e4⟩ := IH _ _ _ _ _ _ _ _ _ (vm_ent3 hs) e2 h
        refine ⟨v2, ?_, e4⟩
        simp only [vm_call, e1]
        exact e3
      | some (.inr X, H1), hr, h =>
        obtain ⟨v1, e1, e2⟩ := IH _ _ _ _ _ _ _ _ _ (by unfold vm_ent; rw [show vm_sup k = true from hq]; rfl) hv hr
        simp only [vm_call, e1]
        simp only [am_back] at h
        simp only [vm_back]
        cases hd : am_hdl (am_hs mid) pc X with
        | some z =>
          rw [hd] at h
          dsimp only at h
          rw [e2.1] at h
          exact IH _ _ _ _ _ _ _ _ _ (vm_enth hs hd) e2 h
        | none =>
          rw [hd] at h
          dsimp only at h
          split at h
          · cases h
          · cases h
            exact ⟨v1, rfl, e2⟩
    · cases h
  | some (1, _), hq, _ => cases hq
  | some (2, _), _, h =>
    simp only [am_call] at h
    split at h
    · split at h
      · split at h
        · rename_i hz
          obtain ⟨v2, e3, e4⟩ := IH _ _ _ _ _ _ _ _ _ (vm_ent3 hs) (vw_copy hv hz) h
          exact ⟨v2, e3, e4⟩
        · cases h
      · cases h
    · cases h
  | some (n + 3, _), _, h => cases h
theorem vm_sim : ∀ (n : Nat) (d : Nat × Nat) (mid pc : Nat) (L st : List Value) (H : am_H) (o : am_O) (H' : am_H) (v : vm_V), vm_ent mid pc = true → vw v H → am_run n d mid pc L st H = some (o, H') → ∃ v' : vm_V, vm_go n mid pc L st v = some (o, v') ∧ vw v' H'
  | 0, _, _, _, _, _, _, _, _, _, _, _, h => by cases h
  | n + 1, d, mid, pc, L, st, H, o, H', v, hs, hv, h => by
    have h : am_body (am_run n) d mid pc L st H = some (o, H') := h
    show ∃ v' : vm_V, vm_body (vm_go n) mid pc L st v = some (o, v') ∧ _
    unfold am_body at h
    unfold vm_body
    cases hc : am_code mid pc with
    | none => rw [hc] at h; cases h
    | some i =>
      rw [hc] at h
      dsimp only at h ⊢
      have hi := vm_entok hs hc
      cases hst : am_step mid pc L st H i with
      | some x =>
        rw [hst] at h
        obtain ⟨v1, e1, e2⟩ := vm_sim1 hi hv hst
        rw [e1]
        exact vm_sim n d mid _ _ _ _ o H' v1 (vm_ents hs hc hst) e2 h
      | none =>
        rw [hst] at h
        dsimp only at h
        clear hst hc
        unfold am_ctl at h
        split at h
        · split at h
          · split at h
            · cases h
              exact ⟨v, rfl, hv⟩
            · cases h
          · cases h
        · split at h
          · split at h
            · cases h
              exact ⟨v, rfl, hv⟩
            · cases h
          · cases h
        · split at h
          · split at h
            · cases h
              exact ⟨v, rfl, hv⟩
            · cases h
          · cases h
        · exact vm_simc (vm_sim n) hs hi hv h
        · exact vm_simc (vm_sim n) hs hi hv h
        · exact vm_simc (vm_sim n) hs hi hv h
        · rename_i z
          simp only [vm_iok, Bool.and_eq_true] at hi
          split at h
          · rename_i X hX
            rw [hX] at hi
            split at h
            · cases h
              refine ⟨vm_nx v, ?_, vw_new hv (by simpa [Nat.blt_eq] using hi.2)⟩
              show vm_ctl (vm_go n) mid pc L st v (.new z) = _
              simp only [vm_ctl, hX]
            · cases h
          · cases h
        · cases h
end VME
