/-! THE ABSTRACT MACHINE IS SOUND -/
def am_ck (oc x k : Nat) : Prop :=
  (Cond.methodLink (am_on oc) x (am_y k) ∈ am_tbl ∨ ∃ host, Cond.methodLinkNest (am_on oc) x (am_y k) host ∈ am_tbl) ∧ am_na k ≤ am_ml k ∧ ∃ np : Nat, (parseMethodDescriptor (am_y k).desc).map (fun d => d.parameters.length) = some np ∧
    ((am_kd k = 2 ∧ Cond.static (am_y k) ∈ am_tbl ∧ am_na k = np) ∨ (am_kd k = 1 ∧ (am_y k).name = "<init>" ∧ Cond.code (am_y k) (am_b k) (am_ml k) none ∈ am_tbl ∧ Cond.instanceMethod (am_y k) ∈ am_tbl ∧ am_na k = np + 1) ∨
      (am_kd k = 0 ∧ Cond.instanceMethod (am_y k) ∈ am_tbl ∧ Cond.selects (am_y k).cls (am_y k) (am_y k) ∈ am_tbl ∧ am_na k = np + 1 ∧ am_aty (am_oc k) = none ∧ ∃ r : vw_C, am_cl[am_oc k]? = some r ∧ r.1 = (am_y k).cls))
/-- what the tables hold, all told -/
def am_Fc : Prop :=
  (∀ (mid pc : Nat) (i : Jvm.ClassFile.Instr), am_code mid pc = some i → ∃ len, decode (am_b mid) pc = .ok (i, len) ∧ am_lenok pc i len = true) ∧
  (∀ oc x ci k : Nat, am_pf oc x = some (ci, k) → am_fok oc x ci k) ∧ (∀ mid ci k : Nat, am_fnok mid ci k) ∧ (∀ oc x ci : Nat, am_pc oc x = some ci → am_nok oc x ci) ∧ (∀ oc x : Nat, am_ma oc x = true → Cond.classLink (am_on oc) x "[[I" ∈ am_tbl) ∧
  (∀ oc x q k : Nat, am_pm oc x = some (q, k) → (q = 0 → am_mok k ∧ am_ck oc x k) ∧ (q = 1 → Cond.methodLink (am_on oc) x objectInit ∈ am_tbl) ∧ (q = 2 → Cond.methodLink (am_on oc) x arraycopyName ∈ am_tbl)) ∧
  (∀ mid pc x X it ic : Nat, am_code mid pc = some (.new x) → am_pe (am_oc mid) x = some X → am_code mid (pc + 4) = some (.ldc it) → am_code mid (pc + 6) = some (.invokespecial ic) → ∃ (Xn tx : String), am_tok (am_y mid).cls Xn x ic it tx ∧ (∃ r : vw_C, am_cl[X]? = some r ∧ r.1 = Xn ∧ r.2.2 = 0) ∧ am_aty X = none ∧ am_ns X = 6) ∧
  (∀ X Y : Nat, 10 ≤ X → X < 14 → 10 ≤ Y → Y < 14 → X ≠ Y → ∀ rX rY : vw_C, am_cl[X]? = some rX → am_cl[Y]? = some rY → Cond.not (.castable rX.1 rY.1) ∈ am_tbl) ∧
  (∀ X : Nat, 10 ≤ X → X < 14 → ∀ rX : vw_C, am_cl[X]? = some rX → Cond.castable rX.1 rX.1 ∈ am_tbl ∧ rX.2.2 = 0 ∧ am_aty X = none) ∧
  (∀ oc x q : Nat, am_ps oc x = some q → q = 1 ∧ Cond.fieldLink (am_on oc) x "PassChecker$Orderer" "TAKES" "[I" ∈ am_tbl)
theorem am_step_gr {mid pc : Nat} {L st : List Value} {h : am_H} {i : Jvm.ClassFile.Instr} {pc' : Nat} {L' st' : List Value} {h' : am_H} (hs : am_step mid pc L st h i = some (pc', L', st', h')) : h.length ≤ h'.length ∧ am_sz h ≤ am_sz h' := by
  unfold am_step at hs
  split at hs
  all_goals (try simp only [am_ald, am_ast] at hs)
  all_goals (repeat' (split at hs))
  all_goals first
    | (cases hs; exact ⟨Nat.le_refl _, Nat.le_refl _⟩)
    | (cases hs; done)
    | (cases hs; exact ⟨by simp, by rw [am_sz_app]; omega⟩)
    | (rename_i ha _ _ _; cases hs; exact ⟨by simp, Nat.le_of_eq (am_sz_set _ _ _ _ ha (by simp [am_csz])).symm⟩)
    | (rename_i ha _; cases hs; exact ⟨by simp, Nat.le_of_eq (am_sz_set _ _ _ _ ha (by simp [am_csz])).symm⟩)
    | skip
