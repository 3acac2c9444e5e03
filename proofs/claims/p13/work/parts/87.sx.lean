/-! ONE STEP OVER UNKNOWN INTS: what the machine itself does; what moves them; what compares them where their bounds decide it -/
section SXB
variable {σ : Nat → Int32}
def sx_smc (kd : Nat) (d : Nat × Nat) (mid pc : Nat) (L st : List Value) (h : am_H) (K : List am_K) (x : Option (Nat × Nat)) : Option am_G := match x with
  | some (0, k) => if Nat.beq (am_kd k) kd && (Nat.ble (am_na k) st.length && (Nat.ble 1 d.1 && (Nat.ble (am_wt (st.drop (am_na k)) + (am_ml k + 11)) d.2 && (sx_kvs (st.take (am_na k)) && am_rcv k (st.take (am_na k)).reverse h)))) then some (((d.1 - 1, d.2 - (am_wt (st.drop (am_na k)) + (am_ml k + 11))), k, 0, (st.take (am_na k)).reverse ++ List.replicate (am_ml k - am_na k) (.retAddr 0), []), h, (d, mid, pc, L, st.drop (am_na k)) :: K) else none
  | _ => none
theorem sx_smc_ok {kd : Nat} {d : Nat × Nat} {mid pc : Nat} {L st : List Value} {h : am_H} {K : List am_K} {x : Option (Nat × Nat)} {c : am_G} (hs : sx_smc kd d mid pc L st h K x = some c) : am_smc kd d mid pc (L.map (sx_v σ)) (st.map (sx_v σ)) (h.map (sx_c σ)) (K.map (sx_k σ)) x = some (sx_g σ c) := by
  match x, hs with
  | none, hs => cases hs
  | some (0, k), hs =>
    simp only [sx_smc] at hs
    split at hs
    · rename_i hq
      cases hs
      simp only [Bool.and_eq_true] at hq
      obtain ⟨a1, a2, a3, a4, a5, a6⟩ := hq
      have b6 := sx_rcv (σ := σ) a6
      have b5 := sx_kvs_kns (σ := σ) _ a5
      simp only [am_smc, ← List.map_drop, ← List.map_take, ← List.map_reverse, sx_wt, List.length_map, a1, a2, a3, a4, b5, b6, Bool.and_true, if_true]
      simp [sx_g, sx_k, sx_v]
    · cases hs
  | some (n + 1, k), hs => cases hs
theorem sx_smc_ok2 {kd : Nat} {d : Nat × Nat} {mid pc : Nat} {L st : List Value} {h : am_H} {K : List am_K} {x : Option (Nat × Nat)} {c : am_G} (hs : am_smc kd d mid pc L st h K x = some c) : am_smc kd d mid pc (L.map (sx_v σ)) (st.map (sx_v σ)) (h.map (sx_c σ)) (K.map (sx_k σ)) x = some (sx_g σ c) := by
  match x, hs with
  | none, hs => cases hs
  | some (0, k), hs =>
    apply sx_smc_ok
    simp only [am_smc] at hs
    split at hs
    · rename_i hq
      cases hs
      simp only [Bool.and_eq_true] at hq
      obtain ⟨a1, a2, a3, a4, a5, a6⟩ := hq
      simp only [sx_smc, a1, a2, a3, a4, sx_kns_kvs _ a5, a6, Bool.and_true, if_true]
    · cases hs
  | some (1, k), hs =>
    simp only [am_smc] at hs
    split at hs
    · split at hs
      · rename_i hq
        cases hs
        simp only [List.map_cons, sx_vref, am_smc, sx_wt]
        rw [if_pos hq]
        rfl
      · cases hs
    · cases hs
  | some (2, k), hs =>
    simp only [am_smc] at hs
    split at hs
    · split at hs
      · rename_i hq
        split at hs
        · rename_i hz
          cases hs
          simp only [List.map_cons, sx_vref, sx_vint, am_smc, sx_wt]
          rw [if_pos hq, sx_copy hz]
          rfl
        · cases hs
      · cases hs
    · cases hs
  | some (n + 3, k), hs => cases hs
theorem sx_smt {d : Nat × Nat} {mid pc : Nat} {L st : List Value} {h : am_H} {K : List am_K} {i : Jvm.ClassFile.Instr} {c : am_G} (hf : am_step mid pc L st h i = none) (hs : am_smt d mid pc L st h K i = some c) : am_step mid pc (L.map (sx_v σ)) (st.map (sx_v σ)) (h.map (sx_c σ)) i = none ∧ am_smt d mid pc (L.map (sx_v σ)) (st.map (sx_v σ)) (h.map (sx_c σ)) (K.map (sx_k σ)) i = some (sx_g σ c) := by
  unfold am_smt at hs
  split at hs
  · split at hs
    · split at hs
      · rename_i hq
        refine ⟨rfl, ?_⟩
        simp only [List.map_cons, List.map_nil, sx_vint, am_smt]
        rw [if_pos hq]
        exact sx_pop (o := .inl (some _)) hs
      · cases hs
    · cases hs
  · split at hs
    · split at hs
      · rename_i hq
        refine ⟨rfl, ?_⟩
        simp only [List.map_nil, am_smt]
        rw [if_pos hq]
        exact sx_pop (o := .inl none) hs
      · cases hs
    · cases hs
  · split at hs
    · split at hs
      · rename_i hq
        refine ⟨rfl, ?_⟩
        simp only [List.map_cons, List.map_nil, sx_vref, am_smt]
        rw [if_pos hq]
        exact sx_pop (o := .inl (some _)) hs
      · cases hs
    · cases hs
  · exact ⟨rfl, sx_smc_ok2 hs⟩
  · exact ⟨rfl, sx_smc_ok2 hs⟩
  · exact ⟨rfl, sx_smc_ok2 hs⟩
  · rename_i x
    split at hs
    · rename_i X hX
      split at hs
      · rename_i hq
        constructor
        · simp only [am_step] at hf ⊢
          cases hp : am_pc (am_oc mid) x with
          | none => rfl
          | some ci => rw [hp] at hf; cases hf
        · simp only [am_smt, sx_wt]
          rw [hX]
          dsimp only
          rw [if_pos hq]
          have h1 := sx_pop (σ := σ) hs
          simpa [sx_c] using h1
      · cases hs
    · cases hs
  · cases hs
theorem sx_sm {c c' : am_G} (hs : am_sm c = some c') : am_sm (sx_g σ c) = some (sx_g σ c') := by
  obtain ⟨⟨d, mid, pc, L, st⟩, h, K⟩ := c
  simp only [am_sm] at hs
  cases hi : am_code mid pc with
  | none => rw [hi] at hs; cases hs
  | some i =>
    rw [hi] at hs
    dsimp only at hs
    show (match am_code mid pc with
      | none => none
      | some i => match am_step mid pc (L.map (sx_v σ)) (st.map (sx_v σ)) (h.map (sx_c σ)) i with
        | some f => some ((d, mid, f.1, f.2.1, f.2.2.1), f.2.2.2, K.map (sx_k σ))
        | none => am_smt d mid pc (L.map (sx_v σ)) (st.map (sx_v σ)) (h.map (sx_c σ)) (K.map (sx_k σ)) i) = _
    rw [hi]
    dsimp only
    cases hf : am_step mid pc L st h i with
    | some f =>
      rw [hf] at hs
      cases hs
      rw [sx_step (σ := σ) (pc' := f.1) (L' := f.2.1) (st' := f.2.2.1) (h' := f.2.2.2) hf]
      rfl
    | none =>
      rw [hf] at hs
      obtain ⟨e1, e2⟩ := sx_smt (σ := σ) hf hs
      rw [e1]
      exact e2
end SXB
