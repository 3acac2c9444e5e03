/-! RUNS OF THE ABSTRACT MACHINE: more fuel changes nothing; small steps with the callers that wait -/
abbrev am_R : Type := Nat × Nat → Nat → Nat → List Value → List Value → am_H → Option (am_O × am_H)
def am_le (f g : am_R) : Prop := ∀ (d : Nat × Nat) (mid pc : Nat) (L st : List Value) (h : am_H) (r : am_O × am_H), f d mid pc L st h = some r → g d mid pc L st h = some r
theorem am_back_le {f g : am_R} (hfg : am_le f g) {d : Nat × Nat} {mid pc : Nat} {L r : List Value} {x : Option (am_O × am_H)} {y : am_O × am_H} (h : am_back f d mid pc L r x = some y) : am_back g d mid pc L r x = some y := by
  match x, h with
  | none, h => cases h
  | some (.inl v, z), h => exact hfg _ _ _ _ _ _ _ h
  | some (.inr X, z), h =>
    simp only [am_back] at h ⊢
    cases hq : am_hdl (am_hs mid) pc X with
    | none => rw [hq] at h; exact h
    | some q => rw [hq] at h; exact hfg _ _ _ _ _ _ _ h
theorem am_call_le {f g : am_R} (hfg : am_le f g) {kd : Nat} {d : Nat × Nat} {mid pc : Nat} {L st : List Value} {h : am_H} {x : Option (Nat × Nat)} {y : am_O × am_H} (hc : am_call f kd d mid pc L st h x = some y) : am_call g kd d mid pc L st h x = some y := by
  match x, hc with
  | none, hc => cases hc
  | some (0, k), hc =>
    simp only [am_call] at hc ⊢
    split at hc
    · rename_i hq
      rw [if_pos hq]
      cases hz : f (d.1 - 1, d.2 - (am_wt (st.drop (am_na k)) + (am_ml k + 11))) k 0 ((st.take (am_na k)).reverse ++ List.replicate (am_ml k - am_na k) (.retAddr 0)) [] h with
      | none => rw [hz] at hc; cases hc
      | some z =>
        rw [hz] at hc
        rw [hfg _ _ _ _ _ _ _ hz]
        exact am_back_le hfg hc
    · cases hc
  | some (1, k), hc =>
    simp only [am_call] at hc ⊢
    split at hc
    · split at hc
      · rename_i hq
        rw [if_pos hq]
        exact hfg _ _ _ _ _ _ _ hc
      · cases hc
    · cases hc
  | some (2, k), hc =>
    simp only [am_call] at hc ⊢
    split at hc
    · split at hc
      · rename_i hq
        rw [if_pos hq]
        split at hc
        · rename_i hz
          try rw [hz]
          exact hfg _ _ _ _ _ _ _ hc
        · cases hc
      · cases hc
    · cases hc
  | some (n + 3, k), hc => cases hc
theorem am_ctl_le {f g : am_R} (hfg : am_le f g) {d : Nat × Nat} {mid pc : Nat} {L st : List Value} {h : am_H} {i : Jvm.ClassFile.Instr} {y : am_O × am_H} (hc : am_ctl f d mid pc L st h i = some y) : am_ctl g d mid pc L st h i = some y := by
  unfold am_ctl at hc ⊢
  split at hc
  · exact hc
  · exact hc
  · exact hc
  · exact am_call_le hfg hc
  · exact am_call_le hfg hc
  · exact am_call_le hfg hc
  · exact hc
  · cases hc
theorem am_body_le {f g : am_R} (hfg : am_le f g) : am_le (am_body f) (am_body g) := by
  intro d mid pc L st h r hc
  unfold am_body at hc ⊢
  cases hi : am_code mid pc with
  | none => rw [hi] at hc; cases hc
  | some i =>
    rw [hi] at hc
    dsimp only at hc ⊢
    cases hs : am_step mid pc L st h i with
    | none => rw [hs] at hc; exact am_ctl_le hfg hc
    | some q => rw [hs] at hc; exact hfg _ _ _ _ _ _ _ hc
theorem am_run_le1 : ∀ n : Nat, am_le (am_run n) (am_run (n + 1))
  | 0 => fun _ _ _ _ _ _ _ h => by cases h
  | n + 1 => am_body_le (am_run_le1 n)
theorem am_run_le {n : Nat} : ∀ k : Nat, am_le (am_run n) (am_run (n + k))
  | 0 => fun _ _ _ _ _ _ _ h => h
  | k + 1 => fun d mid pc L st h r hr => am_run_le1 (n + k) d mid pc L st h r (am_run_le k d mid pc L st h r hr)
theorem am_run_max {n k : Nat} (h : n ≤ k) : am_le (am_run n) (am_run k) := by
  obtain ⟨j, rfl⟩ := Nat.exists_eq_add_of_le h
  exact am_run_le j
/-- a caller that waits: its depth, its method, the pc of its call, its locals, what is left on its stack -/
abbrev am_K : Type := (Nat × Nat) × Nat × Nat × List Value × List Value
def am_end : List am_K → am_O × am_H → am_O × am_H → Prop
  | [], x, r => x = r
  | q :: K, x, r => ∃ (n : Nat) (y : am_O × am_H), am_back (am_run n) q.1 q.2.1 q.2.2.1 q.2.2.2.1 q.2.2.2.2 (some x) = some y ∧ am_end K y r
/-- a frame that runs, over callers that wait -/
abbrev am_G : Type := am_K × am_H × List am_K
def am_Ev (c : am_G) (r : am_O × am_H) : Prop := ∃ (n : Nat) (x : am_O × am_H), am_run n c.1.1 c.1.2.1 c.1.2.2.1 c.1.2.2.2.1 c.1.2.2.2.2 c.2.1 = some x ∧ am_end c.2.2 x r
/-- what comes of an end, over those that wait -/
def am_pop : List am_K → am_O → am_H → Option am_G
  | [], _, _ => none
  | q :: K, .inl v, h => some ((q.1, q.2.1, q.2.2.1 + 3, q.2.2.2.1, v.toList ++ q.2.2.2.2), h, K)
  | q :: K, .inr X, h => match am_hdl (am_hs q.2.1) q.2.2.1 X with
    | some z => some ((q.1, q.2.1, z, q.2.2.2.1, [.ref (h.length - 1)]), h, K)
    | none => if am_cov (am_hs q.2.1) q.2.2.1 then none else am_pop K (.inr X) h
def am_smc (kd : Nat) (d : Nat × Nat) (mid pc : Nat) (L st : List Value) (h : am_H) (K : List am_K) (x : Option (Nat × Nat)) : Option am_G := match x with
  | none => none
  | some (0, k) => if Nat.beq (am_kd k) kd && (Nat.ble (am_na k) st.length && (Nat.ble 1 d.1 && (Nat.ble (am_wt (st.drop (am_na k)) + (am_ml k + 11)) d.2 && (am_kns (st.take (am_na k)) && am_rcv k (st.take (am_na k)).reverse h)))) then some (((d.1 - 1, d.2 - (am_wt (st.drop (am_na k)) + (am_ml k + 11))), k, 0, (st.take (am_na k)).reverse ++ List.replicate (am_ml k - am_na k) (.retAddr 0), []), h, (d, mid, pc, L, st.drop (am_na k)) :: K) else none
  | some (1, _) => match st with
    | .ref _ :: r => if Nat.beq kd 1 && (Nat.ble 1 d.1 && Nat.ble (am_wt r + 12) d.2) then some ((d, mid, pc + 3, L, r), h, K) else none
    | _ => none
  | some (2, _) => match st with
    | .int n :: .int dp :: .ref b :: .int sp :: .ref a :: r => if Nat.beq kd 2 && (Nat.ble 1 d.1 && Nat.ble (am_wt r + 18) d.2) then match am_copy h n dp b sp a with
        | some h' => some ((d, mid, pc + 3, L, r), h', K)
        | none => none
      else none
    | _ => none
  | some _ => none
def am_smt (d : Nat × Nat) (mid pc : Nat) (L st : List Value) (h : am_H) (K : List am_K) (i : Jvm.ClassFile.Instr) : Option am_G := match i with
  | .ireturn => match st with
    | [.int v] => if am_nw (am_rt mid) v then am_pop K (.inl (some (.int v))) h else none
    | _ => none
  | .return_ => match st with
    | [] => if am_vo (am_rt mid) then am_pop K (.inl none) h else none
    | _ => none
  | .areturn => match st with
    | [.ref a] => if am_ro (am_rt mid) then am_pop K (.inl (some (.ref a))) h else none
    | _ => none
  | .invokevirtual x => am_smc 0 d mid pc L st h K (am_pm (am_oc mid) x)
  | .invokespecial x => am_smc 1 d mid pc L st h K (am_pm (am_oc mid) x)
  | .invokestatic x => am_smc 2 d mid pc L st h K (am_pm (am_oc mid) x)
  | .new x => match am_pe (am_oc mid) x with
    | some X => if Nat.ble 6 d.1 && (Nat.ble (am_wt st + 82) d.2 && (am_thr (am_code mid) pc && (am_hs mid).isEmpty)) then am_pop K (.inr X) (h ++ [(X, [])]) else none
    | none => none
  | _ => none
/-- one small step -/
def am_sm (c : am_G) : Option am_G := match am_code c.1.2.1 c.1.2.2.1 with
  | none => none
  | some i => match am_step c.1.2.1 c.1.2.2.1 c.1.2.2.2.1 c.1.2.2.2.2 c.2.1 i with
    | some f => some ((c.1.1, c.1.2.1, f.1, f.2.1, f.2.2.1), f.2.2.2, c.2.2)
    | none => am_smt c.1.1 c.1.2.1 c.1.2.2.1 c.1.2.2.2.1 c.1.2.2.2.2 c.2.1 c.2.2 i
def am_sms : Nat → am_G → Option am_G
  | 0, c => some c
  | n + 1, c => match am_sm c with
    | some c' => am_sms n c'
    | none => none
theorem am_pop_end : ∀ (K : List am_K) (o : am_O) (h : am_H) (c : am_G) (r : am_O × am_H), am_pop K o h = some c → am_Ev c r → am_end K (o, h) r
  | [], _, _, _, _, hp, _ => by cases hp
  | q :: K, .inl v, h, c, r, hp, he => by
    cases hp
    obtain ⟨n, x, h1, h2⟩ := he
    exact ⟨n, x, h1, h2⟩
  | q :: K, .inr X, h, c, r, hp, he => by
    simp only [am_pop] at hp
    cases hq : am_hdl (am_hs q.2.1) q.2.2.1 X with
    | some z =>
      rw [hq] at hp
      cases hp
      obtain ⟨n, x, h1, h2⟩ := he
      refine ⟨n, x, ?_, h2⟩
      simp only [am_back, hq]
      exact h1
    | none =>
      rw [hq] at hp
      dsimp only at hp
      split at hp
      · cases hp
      · rename_i hc
        refine ⟨0, (.inr X, h), ?_, am_pop_end K _ _ _ _ hp he⟩
        simp only [am_back, hq]
        exact if_neg hc
theorem am_sm_ev {c c' : am_G} {r : am_O × am_H} (hs : am_sm c = some c') (he : am_Ev c' r) : am_Ev c r := by
  obtain ⟨⟨d, mid, pc, L, st⟩, h, K⟩ := c
  simp only [am_sm] at hs
  cases hi : am_code mid pc with
  | none => rw [hi] at hs; cases hs
  | some i =>
    rw [hi] at hs
    dsimp only at hs
    cases hf : am_step mid pc L st h i with
    | some f =>
      rw [hf] at hs
      cases hs
      obtain ⟨n, x, h1, h2⟩ := he
      refine ⟨n + 1, x, ?_, h2⟩
      show am_body (am_run n) d mid pc L st h = some x
      unfold am_body
      rw [hi]
      dsimp only
      rw [hf]
      exact h1
    | none =>
      rw [hf] at hs
      dsimp only at hs
      -- by the kind of the instruction
      have key : ∀ (n : Nat) (x : am_O × am_H), am_ctl (am_run n) d mid pc L st h i = some x → am_run (n + 1) d mid pc L st h = some x := by
        intro n x hx
        show am_body (am_run n) d mid pc L st h = some x
        unfold am_body
        rw [hi]
        dsimp only
        rw [hf]
        exact hx
      have call : ∀ (kd : Nat) (x : Option (Nat × Nat)), am_smc kd d mid pc L st h K x = some c' → ∃ (n : Nat) (y : am_O × am_H), am_call (am_run n) kd d mid pc L st h x = some y ∧ am_end K y r := by
        intro kd x hx
        match x, hx with
        | none, hx => cases hx
        | some (0, k), hx =>
          simp only [am_smc] at hx
          split at hx
          · rename_i hq
            cases hx
            obtain ⟨n, x, h1, n2, y, h2, h3⟩ := he
            refine ⟨max n n2, y, ?_, h3⟩
            simp only [am_call]
            rw [if_pos hq]
            rw [show am_run (max n n2) (d.1 - 1, d.2 - (am_wt (st.drop (am_na k)) + (am_ml k + 11))) k 0 ((st.take (am_na k)).reverse ++ List.replicate (am_ml k - am_na k) (.retAddr 0)) [] h = some x from am_run_max (Nat.le_max_left _ _) _ _ _ _ _ _ _ h1]
            exact am_back_le (am_run_max (Nat.le_max_right n n2)) h2
          · cases hx
        | some (1, k), hx =>
          simp only [am_smc] at hx
          split at hx
          · split at hx
            · rename_i hq
              cases hx
              obtain ⟨n, x, h1, h2⟩ := he
              refine ⟨n, x, ?_, h2⟩
              simp only [am_call]
              rw [if_pos hq]
              exact h1
            · cases hx
          · cases hx
        | some (2, k), hx =>
          simp only [am_smc] at hx
          split at hx
          · split at hx
            · rename_i hq
              split at hx
              · rename_i hz
                cases hx
                obtain ⟨n, x, h1, h2⟩ := he
                refine ⟨n, x, ?_, h2⟩
                simp only [am_call]
                rw [if_pos hq, hz]
                exact h1
              · cases hx
            · cases hx
          · cases hx
        | some (n + 3, k), hx => cases hx
      have wrap : (∃ (n : Nat) (y : am_O × am_H), am_ctl (am_run n) d mid pc L st h i = some y ∧ am_end K y r) → am_Ev ((d, mid, pc, L, st), h, K) r := by
        rintro ⟨n, y, h1, h2⟩
        exact ⟨n + 1, y, key n y h1, h2⟩
      apply wrap
      clear wrap key
      unfold am_smt at hs
      split at hs
      · split at hs
        · split at hs
          · rename_i hq
            exact ⟨0, _, by simp only [am_ctl]; rw [if_pos hq], am_pop_end _ _ _ _ _ hs he⟩
          · cases hs
        · cases hs
      · split at hs
        · split at hs
          · rename_i hq
            exact ⟨0, _, by simp only [am_ctl]; rw [if_pos hq], am_pop_end _ _ _ _ _ hs he⟩
          · cases hs
        · cases hs
      · split at hs
        · split at hs
          · rename_i hq
            exact ⟨0, _, by simp only [am_ctl]; rw [if_pos hq], am_pop_end _ _ _ _ _ hs he⟩
          · cases hs
        · cases hs
      · exact call _ _ hs
      · exact call _ _ hs
      · exact call _ _ hs
      · split at hs
        · rename_i X hX
          split at hs
          · rename_i hq
            exact ⟨0, _, by simp only [am_ctl]; rw [hX]; exact if_pos hq, am_pop_end _ _ _ _ _ hs he⟩
          · cases hs
        · cases hs
      · cases hs
theorem am_sms_ev : ∀ (n : Nat) {c c' : am_G} {r : am_O × am_H}, am_sms n c = some c' → am_Ev c' r → am_Ev c r
  | 0, c, c', r, hs, he => by cases hs; exact he
  | n + 1, c, c', r, hs, he => by
    simp only [am_sms] at hs
    cases hq : am_sm c with
    | none => rw [hq] at hs; cases hs
    | some c2 => rw [hq] at hs; exact am_sm_ev hq (am_sms_ev n hs he)
/-- the last step: an int comes back -/
theorem am_ev_ret {d : Nat × Nat} {mid pc : Nat} {L : List Value} {v : Int32} {h : am_H} (hi : am_code mid pc = some .ireturn) (hn : am_nw (am_rt mid) v = true) : am_Ev ((d, mid, pc, L, [.int v]), h, []) (.inl (some (.int v)), h) := by
  refine ⟨1, _, ?_, rfl⟩
  show am_body (am_run 0) d mid pc L [.int v] h = _
  unfold am_body
  rw [hi]
  show am_ctl _ _ _ _ _ _ _ _ = _
  simp only [am_ctl]
  rw [if_pos hn]
