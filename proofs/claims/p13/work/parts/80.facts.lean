/-! FACTS OF THE TABLES, written by wip/tools/gen.py: each by a program that the kernel runs -/
def am_ckc (b : ByteArray) (e : am_E) : Bool := decide (decode b e.1 = .ok (e.2.1, e.2.2)) && am_lenok e.1 e.2.1 e.2.2
theorem am_pc_of {n : Nat} {t : am_T am_E n} {b : ByteArray} (h : am_allT (am_ckc b) n t = true) (pc : Nat) (i : Jvm.ClassFile.Instr) (hi : am_at t pc = some i) : ∃ len, decode b pc = .ok (i, len) ∧ am_lenok pc i len = true := by
  unfold am_at at hi
  split at hi
  · rename_i hq
    have h1 := am_allT_get n t pc h
    cases hi
    have hp := Nat.eq_of_beq_eq_true hq
    unfold am_ckc at h1
    rw [hp] at h1
    simp only [Bool.and_eq_true, decide_eq_true_eq] at h1
    exact ⟨_, h1.1, h1.2⟩
  · cases hi
def am_forT {α : Type} (P : α → Prop) : (n : Nat) → am_T α n → Prop
  | 0, t => P t
  | n + 1, t => am_forT P n (am_u t).2.1 ∧ am_forT P n (am_u t).2.2
theorem am_forT_get {α : Type} {P : α → Prop} : ∀ (n : Nat) (t : am_T α n) (k : Nat), am_forT P n t → P (am_get n t k)
  | 0, _, _, h => h
  | n + 1, t, k, h => by
    simp only [am_get]
    split
    · exact am_forT_get n _ k h.1
    · exact am_forT_get n _ k h.2
/-- the places that throw: the class, the pool's entries of new, constructor, text -/
def am_sites : List (Nat × Nat × Nat × Nat) := [(11, 66, 70, 68), (10, 149, 153, 237), (12, 81, 85, 83), (11, 66, 70, 104), (10, 149, 153, 242), (12, 81, 85, 208), (12, 81, 85, 110), (12, 81, 85, 244), (12, 81, 85, 122), (10, 149, 153, 151), (12, 81, 85, 154), (12, 81, 85, 160), (13, 189, 193, 191), (12, 81, 85, 203), (10, 149, 153, 208), (12, 81, 85, 217), (10, 149, 153, 229)]
def am_tck (cd : Nat → Option Jvm.ClassFile.Instr) (oc : Nat) (e : am_E) : Bool := match e.2.1 with
  | .new x => match am_pe oc x with
    | none => true
    | some X => match cd (e.1 + 4), cd (e.1 + 6) with
      | some (.ldc it), some (.invokespecial ic) => Nat.beq oc 0 && decide ((X, x, ic, it) ∈ am_sites)
      | _, _ => true
  | _ => true
theorem am_allT_nd {α : Type} {f : α → Bool} {n k : Nat} {l r : am_T α n} (h1 : am_allT f n l = true) (h2 : am_allT f n r = true) : am_allT f (n + 1) (am_nd k l r) = true := by
  show (am_allT f n l && am_allT f n r) = true
  rw [h1, h2]
  rfl
/-- what is asked of a method's row -/
def am_PI (I : am_MI) : Prop :=
  (∀ (pc : Nat) (i : Jvm.ClassFile.Instr), I.2.2.2.2.2.2.2.2 pc = some i → ∃ len, decode I.2.1 pc = .ok (i, len) ∧ am_lenok pc i len = true) ∧
  ((Cond.code I.1 I.2.1 I.2.2.1 I.2.2.2.1 ∈ am_tbl ∧ I.2.2.2.2.2.2.2.1 = [] ∨ ∃ hh, Cond.codeWith I.1 I.2.1 I.2.2.1 I.2.2.2.1 hh ∈ am_tbl ∧ am_hrel I.1.cls I.2.2.2.2.2.2.2.1 hh) ∧ plainFor I.1 = true ∧ (I.1.cls ≠ "java/lang/invoke/MethodHandle" ∧ I.1.cls ≠ "java/lang/invoke/VarHandle") ∧ Cond.initialized I.1.cls ∈ am_tbl ∧ I.1.cls = am_on I.2.2.2.2.2.2.1) ∧
  (I.2.2.2.2.1 = 1 → I.1.name = "<init>") ∧
  (∀ pc x X it ic : Nat, I.2.2.2.2.2.2.2.2 pc = some (.new x) → am_pe I.2.2.2.2.2.2.1 x = some X → I.2.2.2.2.2.2.2.2 (pc + 4) = some (.ldc it) → I.2.2.2.2.2.2.2.2 (pc + 6) = some (.invokespecial ic) → I.2.2.2.2.2.2.1 = 0 ∧ (X, x, ic, it) ∈ am_sites)
theorem am_ts_of {n : Nat} {t : am_T am_E n} {oc : Nat} (h : am_allT (am_tck (am_at t) oc) n t = true) (pc x X it ic : Nat) (hi : am_at t pc = some (.new x)) (hp : am_pe oc x = some X) (h4 : am_at t (pc + 4) = some (.ldc it)) (h6 : am_at t (pc + 6) = some (.invokespecial ic)) : oc = 0 ∧ (X, x, ic, it) ∈ am_sites := by
  have h1 := am_allT_get n t pc h
  unfold am_at at hi
  split at hi
  · rename_i hq
    have hpc := Nat.eq_of_beq_eq_true hq
    cases hz : am_get n t pc with
    | mk a b =>
      obtain ⟨b1, b2⟩ := b
      rw [hz] at hi hpc h1
      cases hi
      simp only at hpc
      subst hpc
      simp only [am_tck, hp, h4, h6, Bool.and_eq_true, decide_eq_true_eq] at h1
      exact ⟨Nat.eq_of_beq_eq_true h1.1, h1.2⟩
  · cases hi
