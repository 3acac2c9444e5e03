/-! MORE ROOM, LOCALS THAT NOBODY READS, STEPS THAT TOUCH NO CELL -/
def mo_d (d d' : Nat × Nat) : Prop := d.1 ≤ d'.1 ∧ d.2 ≤ d'.2
/-- the same with more room -/
def mo_le (f : am_R) : Prop := ∀ (d d' : Nat × Nat) (mid pc : Nat) (L st : List Value) (h : am_H) (r : am_O × am_H), mo_d d d' → f d mid pc L st h = some r → f d' mid pc L st h = some r
theorem mo_back {f : am_R} (hf : mo_le f) {d d' : Nat × Nat} (hd : mo_d d d') {mid pc : Nat} {L r : List Value} {x : Option (am_O × am_H)} {y : am_O × am_H} (h : am_back f d mid pc L r x = some y) : am_back f d' mid pc L r x = some y := by
  match x, h with
  | none, h => cases h
  | some (.inl v, z), h => exact hf _ _ _ _ _ _ _ _ hd h
  | some (.inr X, z), h =>
    simp only [am_back] at h ⊢
    cases hq : am_hdl (am_hs mid) pc X with
    | none => rw [hq] at h; exact h
    | some q => rw [hq] at h; exact hf _ _ _ _ _ _ _ _ hd h
theorem mo_ble {a b c : Nat} (h : Nat.ble a b = true) (hbc : b ≤ c) : Nat.ble a c = true := Nat.ble_eq_true_of_le (Nat.le_trans (Nat.le_of_ble_eq_true h) hbc)
theorem mo_call {f : am_R} (hf : mo_le f) {d d' : Nat × Nat} (hd : mo_d d d') {kd : Nat} {mid pc : Nat} {L st : List Value} {h : am_H} {x : Option (Nat × Nat)} {y : am_O × am_H} (hc : am_call f kd d mid pc L st h x = some y) : am_call f kd d' mid pc L st h x = some y := by
  match x, hc with
  | none, hc => cases hc
  | some (0, k), hc =>
    simp only [am_call] at hc ⊢
    split at hc
    · rename_i hq
      simp only [Bool.and_eq_true] at hq
      obtain ⟨a1, a2, a3, a4, a5, a6⟩ := hq
      rw [if_pos (by simp only [Bool.and_eq_true]; exact ⟨a1, a2, mo_ble a3 hd.1, mo_ble a4 hd.2, a5, a6⟩)]
      cases hz : f (d.1 - 1, d.2 - (am_wt (st.drop (am_na k)) + (am_ml k + 11))) k 0 ((st.take (am_na k)).reverse ++ List.replicate (am_ml k - am_na k) (.retAddr 0)) [] h with
      | none => rw [hz] at hc; cases hc
      | some z =>
        rw [hz] at hc
        rw [hf _ (d'.1 - 1, d'.2 - (am_wt (st.drop (am_na k)) + (am_ml k + 11))) _ _ _ _ _ _ ⟨Nat.sub_le_sub_right hd.1 _, Nat.sub_le_sub_right hd.2 _⟩ hz]
        exact mo_back hf hd hc
    · cases hc
  | some (1, k), hc =>
    simp only [am_call] at hc ⊢
    split at hc
    · split at hc
      · rename_i hq
        simp only [Bool.and_eq_true] at hq
        rw [if_pos (by simp only [Bool.and_eq_true]; exact ⟨hq.1, mo_ble hq.2.1 hd.1, mo_ble hq.2.2 hd.2⟩)]
        exact hf _ _ _ _ _ _ _ _ hd hc
      · cases hc
    · cases hc
  | some (2, k), hc =>
    simp only [am_call] at hc ⊢
    split at hc
    · split at hc
      · rename_i hq
        simp only [Bool.and_eq_true] at hq
        rw [if_pos (by simp only [Bool.and_eq_true]; exact ⟨hq.1, mo_ble hq.2.1 hd.1, mo_ble hq.2.2 hd.2⟩)]
        split at hc
        · rename_i hz
          try rw [hz]
          exact hf _ _ _ _ _ _ _ _ hd hc
        · cases hc
      · cases hc
    · cases hc
  | some (n + 3, k), hc => cases hc
theorem mo_ctl {f : am_R} (hf : mo_le f) {d d' : Nat × Nat} (hd : mo_d d d') {mid pc : Nat} {L st : List Value} {h : am_H} {i : Jvm.ClassFile.Instr} {y : am_O × am_H} (hc : am_ctl f d mid pc L st h i = some y) : am_ctl f d' mid pc L st h i = some y := by
  unfold am_ctl at hc ⊢
  split at hc
  · exact hc
  · exact hc
  · exact hc
  · exact mo_call hf hd hc
  · exact mo_call hf hd hc
  · exact mo_call hf hd hc
  · split at hc
    · rename_i hX
      split at hc
      · rename_i hq
        simp only [Bool.and_eq_true] at hq
        have hq2 : (Nat.ble 6 d'.1 && (Nat.ble (am_wt st + 82) d'.2 && (am_thr (am_code mid) pc && (am_hs mid).isEmpty))) = true := by
          simp only [Bool.and_eq_true]
          exact ⟨mo_ble hq.1 hd.1, mo_ble hq.2.1 hd.2, hq.2.2⟩
        try simp only [hX]
        rw [if_pos hq2]
        exact hc
      · cases hc
    · cases hc
  · cases hc
theorem mo_body {f : am_R} (hf : mo_le f) : mo_le (am_body f) := by
  intro d d' mid pc L st h r hd hc
  unfold am_body at hc ⊢
  cases hi : am_code mid pc with
  | none => rw [hi] at hc; cases hc
  | some i =>
    rw [hi] at hc
    dsimp only at hc ⊢
    cases hs : am_step mid pc L st h i with
    | none => rw [hs] at hc; exact mo_ctl hf hd hc
    | some q => rw [hs] at hc; exact hf _ _ _ _ _ _ _ _ hd hc
theorem mo_run : ∀ n : Nat, mo_le (am_run n)
  | 0 => fun _ _ _ _ _ _ _ _ _ h => by cases h
  | n + 1 => mo_body (mo_run n)
/-- locals that are known stay known -/
def mo_j (L L' : List Value) : Prop := L.length = L'.length ∧ ∀ (k : Nat) (v : Value), L[k]? = some v → am_kn v = true → L'[k]? = some v
theorem mo_j.rf (L : List Value) : mo_j L L := ⟨rfl, fun _ _ h _ => h⟩
theorem mo_j.set {L L' : List Value} (h : mo_j L L') (k : Nat) (v : Value) : mo_j (L.set k v) (L'.set k v) := by
  refine ⟨by simp [h.1], fun j w hj hw => ?_⟩
  by_cases e : k = j
  · subst e
    by_cases hl : k < L.length
    · rw [List.getElem?_set_self hl] at hj
      rw [List.getElem?_set_self (by rw [← h.1]; exact hl)]
      exact hj
    · rw [List.getElem?_eq_none (by simp; omega)] at hj
      cases hj
  · rw [List.getElem?_set_ne e] at hj ⊢
    exact h.2 j w hj hw
theorem mo_step {mid pc : Nat} {L L' st : List Value} {h : am_H} {i : Jvm.ClassFile.Instr} {pc1 : Nat} {L1 st1 : List Value} {h1 : am_H} (hs : am_step mid pc L st h i = some (pc1, L1, st1, h1)) (hj : mo_j L L') :
    ∃ L2 : List Value, am_step mid pc L' st h i = some (pc1, L2, st1, h1) ∧ mo_j L1 L2 := by
  have hlen := hj.1
  unfold am_step at hs
  split at hs
  all_goals (try simp only [am_ald, am_ast] at hs)
  all_goals (repeat' (split at hs))
  all_goals first
    | (cases hs; done)
    | (rename_i hq; cases hs; have hq2 := hj.2 _ _ hq rfl; refine ⟨L', ?_, hj⟩; simp only [am_step, hq2]; done)
    | (rename_i hq; cases hs; have hq2 := hj.2 _ _ hq rfl; refine ⟨_, ?_, hj.set _ _⟩; simp only [am_step, hq2]; done)
    | (rename_i hq; cases hs; refine ⟨_, ?_, hj.set _ _⟩; simp only [am_step]; rw [← hlen, if_pos hq]; done)
    | (cases hs; refine ⟨L', ?_, hj⟩; simp [am_step, am_ald, am_ast, *]; done)
/-- a step that succeeds over no cells and makes none is the same over all -/
theorem mo_pure {mid pc : Nat} {L st : List Value} {i : Jvm.ClassFile.Instr} {pc1 : Nat} {L1 st1 : List Value} (hs : am_step mid pc L st [] i = some (pc1, L1, st1, [])) (h : am_H) : am_step mid pc L st h i = some (pc1, L1, st1, h) := by
  unfold am_step at hs
  split at hs
  all_goals (try simp only [am_ald, am_ast] at hs)
  all_goals (repeat' (split at hs))
  all_goals first
    | (cases hs; done)
    | (exfalso; simp_all; done)
    | (simp at hs; done)
    | (cases hs; simp [am_step, *]; done)
    | (simp at hs; obtain ⟨rfl, rfl, rfl⟩ := hs; simp [am_step, *]; done)
