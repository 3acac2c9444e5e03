/-! THE VIEW MACHINE: cells are functions; what the abstract machine does, it does too -/
section VMA
/-- ints by place and index, longs, how many cells, lengths of arrays -/
abbrev vm_V : Type := (Nat → Nat → Int32) × (Nat → Nat → Int64) × Nat × (Nat → Nat)
/-- how far behind an object its parts lie (0: an int) -/
def vm_offs : List (List Nat) := [[1, 5, 9, 12, 13, 16, 59, 0], [1, 2, 3, 0], [1, 2], [], [1, 2], [1, 31, 36, 41, 42, 0, 0, 0, 0], [1, 24, 25, 26, 27, 28, 29, 0, 0], [1, 2, 3, 4, 0, 0, 0, 0, 0, 0], [1, 2, 0, 0, 0, 0], [0, 1, 2, 3, 4, 0, 5, 6, 7, 8, 9, 10, 11, 12, 13, 14, 15, 16, 17, 18, 0, 0, 0, 19, 20, 0, 21, 22, 23, 24, 25, 26, 27, 0, 0, 28]]
def vm_o (tg k : Nat) : Nat := match vm_offs[tg]? with
  | some l => match l[k]? with
    | some n => n
    | none => 0
  | none => 0
def vm_fv (v : vm_V) (a k : Nat) : Nat → Value
  | 0 => .int (v.1 a k)
  | n + 1 => .ref (a + (n + 1))
def vm_val (v : vm_V) (a tg k : Nat) : Value := if Nat.beq tg 33 then .long (v.2.1 a k) else if Nat.beq tg 35 then .ref (a + 1 + k) else vm_fv v a k (vm_o tg k)
def vw (v : vm_V) (H : am_H) : Prop := H.length = v.2.2.1 ∧ ∀ (a tg : Nat) (fs : List Value), H[a]? = some (tg, fs) → (am_aty tg ≠ none → fs.length = v.2.2.2 a) ∧ ∀ (k : Nat) (u : Value), fs[k]? = some u → u = vm_val v a tg k
def vm_si (v : vm_V) (a k : Nat) (x : Int32) : vm_V := (fun b j => if b = a ∧ j = k then x else v.1 b j, v.2)
def vm_sl (v : vm_V) (a k : Nat) (x : Int64) : vm_V := (v.1, fun b j => if b = a ∧ j = k then x else v.2.1 b j, v.2.2)
def vm_cp (v : vm_V) (n dp b sp a : Nat) : vm_V := (fun c k => if c = b ∧ dp ≤ k ∧ k < dp + n then v.1 a (sp + (k - dp)) else v.1 c k, v.2)
def vm_nx (v : vm_V) : vm_V := (v.1, v.2.1, v.2.2.1 + 1, v.2.2.2)
abbrev vm_F : Type := Nat × List Value × List Value × vm_V
abbrev vm_Y : Type := am_O × vm_V
def vm_heap : Jvm.ClassFile.Instr → Bool
  | .iaload => true
  | .baload => true
  | .laload => true
  | .aaload => true
  | .iastore => true
  | .bastore => true
  | .lastore => true
  | .getfield _ => true
  | .putfield _ => true
  | .arraylength => true
  | .newarray _ => true
  | .multianewarray _ _ => true
  | .new _ => true
  | _ => false
def vm_hp (mid pc : Nat) (L st : List Value) (v : vm_V) (i : Jvm.ClassFile.Instr) : Option vm_F := match i with
  | .iaload => match st with
    | .int j :: .ref a :: r => some (pc + 1, L, .int (v.1 a j.toNatClampNeg) :: r, v)
    | _ => none
  | .baload => match st with
    | .int j :: .ref a :: r => some (pc + 1, L, .int (v.1 a j.toNatClampNeg) :: r, v)
    | _ => none
  | .laload => match st with
    | .int j :: .ref a :: r => some (pc + 1, L, .long (v.2.1 a j.toNatClampNeg) :: r, v)
    | _ => none
  | .aaload => match st with
    | .int j :: .ref a :: r => some (pc + 1, L, .ref (a + 1 + j.toNatClampNeg) :: r, v)
    | _ => none
  | .iastore => match st with
    | .int x :: .int j :: .ref a :: r => some (pc + 1, L, r, vm_si v a j.toNatClampNeg x)
    | _ => none
  | .bastore => match st with
    | .int x :: .int j :: .ref a :: r => some (pc + 1, L, r, vm_si v a j.toNatClampNeg (x &&& 1))
    | _ => none
  | .lastore => match st with
    | .long x :: .int j :: .ref a :: r => some (pc + 1, L, r, vm_sl v a j.toNatClampNeg x)
    | _ => none
  | .getfield x => match am_pf (am_oc mid) x with
    | some (ci, k) => match st with
      | .ref a :: r => some (pc + 3, L, vm_fv v a k (vm_o ci k) :: r, v)
      | _ => none
    | none => none
  | .putfield x => match am_pf (am_oc mid) x with
    | some (_, k) => match st with
      | .int y :: .ref a :: r => some (pc + 3, L, r, vm_si v a k y)
      | _ => none
    | none => none
  | .arraylength => match st with
    | .ref a :: r => some (pc + 1, L, .int (Int32.ofNat (v.2.2.2 a)) :: r, v)
    | _ => none
  | _ => none
def vm_step (mid pc : Nat) (L st : List Value) (v : vm_V) (i : Jvm.ClassFile.Instr) : Option vm_F := if vm_heap i then vm_hp mid pc L st v i else match am_step mid pc L st [] i with
  | some f => some (f.1, f.2.1, f.2.2.1, v)
  | none => none
abbrev vm_R : Type := Nat → Nat → List Value → List Value → vm_V → Option vm_Y
def vm_back (rec : vm_R) (mid pc : Nat) (L r : List Value) (y : vm_Y) : Option vm_Y := match y with
  | (.inl u, v) => rec mid (pc + 3) L (u.toList ++ r) v
  | (.inr X, v) => match am_hdl (am_hs mid) pc X with
    | some q => rec mid q L [.ref (v.2.2.1 - 1)] v
    | none => some (.inr X, v)
def vm_call (rec : vm_R) (mid pc : Nat) (L st : List Value) (v : vm_V) (x : Option (Nat × Nat)) : Option vm_Y := match x with
  | some (0, k) => match rec k 0 ((st.take (am_na k)).reverse ++ List.replicate (am_ml k - am_na k) (.retAddr 0)) [] v with
    | some y => vm_back rec mid pc L (st.drop (am_na k)) y
    | none => none
  | some (2, _) => match st with
    | .int n :: .int dp :: .ref b :: .int sp :: .ref a :: r => rec mid (pc + 3) L r (vm_cp v n.toNatClampNeg dp.toNatClampNeg b sp.toNatClampNeg a)
    | _ => none
  | _ => none
def vm_ctl (rec : vm_R) (mid pc : Nat) (L st : List Value) (v : vm_V) (i : Jvm.ClassFile.Instr) : Option vm_Y := match i with
  | .ireturn => match st with
    | [.int x] => some (.inl (some (.int x)), v)
    | _ => none
  | .return_ => match st with
    | [] => some (.inl none, v)
    | _ => none
  | .areturn => match st with
    | [.ref a] => some (.inl (some (.ref a)), v)
    | _ => none
  | .invokevirtual x => vm_call rec mid pc L st v (am_pm (am_oc mid) x)
  | .invokespecial x => vm_call rec mid pc L st v (am_pm (am_oc mid) x)
  | .invokestatic x => vm_call rec mid pc L st v (am_pm (am_oc mid) x)
  | .new x => match am_pe (am_oc mid) x with
    | some X => some (.inr X, vm_nx v)
    | none => none
  | _ => none
def vm_body (rec : vm_R) : vm_R := fun mid pc L st v => match am_code mid pc with
  | none => none
  | some i => match vm_step mid pc L st v i with
    | some f => rec mid f.1 f.2.1 f.2.2.1 f.2.2.2
    | none => vm_ctl rec mid pc L st v i
def vm_go : Nat → vm_R
  | 0 => fun _ _ _ _ _ => none
  | n + 1 => vm_body (vm_go n)
/-! what may stand in a method -/
def vm_supI (I : am_MI) : Bool := !(Nat.beq I.2.2.2.2.1 1) && !(Nat.beq I.2.2.2.2.2.2.1 14 && Nat.beq I.2.2.2.2.2.1 1)
def vm_sup (k : Nat) : Bool := vm_supI (am_mi k)
def vm_iok (oc : Nat) : Jvm.ClassFile.Instr → Bool
  | .newarray _ => false
  | .multianewarray _ _ => false
  | .new x => (am_pc oc x).isNone && (match am_pe oc x with
    | some X => Nat.blt X 32
    | none => true)
  | .putfield x => match am_pf oc x with
    | some (ci, k) => Nat.beq (vm_o ci k) 0 && (Nat.blt ci 32 && (match am_fty ci k with
      | .int => true
      | .boolean => true
      | _ => false))
    | none => true
  | .getfield x => match am_pf oc x with
    | some (ci, _) => Nat.blt ci 32
    | none => true
  | .invokevirtual x => match am_pm oc x with
    | some (0, k) => vm_sup k
    | some (1, _) => false
    | _ => true
  | .invokespecial x => match am_pm oc x with
    | some (0, k) => vm_sup k
    | some (1, _) => false
    | _ => true
  | .invokestatic x => match am_pm oc x with
    | some (0, k) => vm_sup k
    | some (1, _) => false
    | _ => true
  | _ => true
def vm_PI (I : am_MI) : Prop := vm_supI I = true → ∀ (pc : Nat) (i : Jvm.ClassFile.Instr), I.2.2.2.2.2.2.2.2 pc = some i → vm_iok I.2.2.2.2.2.2.1 i = true
theorem vm_at_ok {n oc : Nat} {t : am_T am_E n} (h : am_allT (fun e => vm_iok oc e.2.1) n t = true) (pc : Nat) (i : Jvm.ClassFile.Instr) (hc : am_at t pc = some i) : vm_iok oc i = true := by
  unfold am_at at hc
  split at hc
  · cases hc
    exact am_allT_get (f := fun e => vm_iok oc e.2.1) n t pc h
  · cases hc
/-- where an instruction may jump to -/
def vm_js : Jvm.ClassFile.Instr → List Int
  | .goto o => [o]
  | .ifCond _ o => [o]
  | .if_icmp _ o => [o]
  | .tableswitch d _ _ os => d :: os.toList
  | _ => []
def vm_nl : Jvm.ClassFile.Instr → Bool
  | .lookupswitch _ _ => false
  | _ => true
/-- the law behind its constructors -/
def vm_lok (e : am_E) : Bool := Nat.blt e.1 23 || (vm_iok 14 e.2.1 && (vm_nl e.2.1 && (vm_js e.2.1).all (fun o => Nat.ble 23 (am_jmp e.1 o))))
def vm_ent (mid pc : Nat) : Bool := vm_sup mid || (Nat.beq mid 0 && Nat.ble 23 pc)
end VMA
