/-! AN ABSTRACT MACHINE OF ONE'S OWN: cells are a list, references are places in it; what it does, the machine does (30.sound). -/
/-! tags: below 32 an object of that class; 32 + k an array: 0 of int, 1 of long, 2 of boolean, 3 of int[] -/
abbrev am_C : Type := Nat × List Value
abbrev am_H : Type := List am_C
abbrev am_O : Type := Option Value ⊕ Nat
abbrev am_F : Type := Nat × List Value × List Value × am_H
def am_aty : Nat → Option FieldType
  | 32 => some .int
  | 33 => some .long
  | 34 => some .boolean
  | 35 => some (.array .int)
  | _ => none
def am_dv : Nat → Value
  | 0 => .int 0
  | 1 => .long 0
  | 2 => .int 0
  | _ => .null
def am_nty : Jvm.ClassFile.ArrayType → Option Nat
  | .int => some 0
  | .long => some 1
  | .boolean => some 2
  | _ => none
def am_ald (pc : Nat) (L st : List Value) (h : am_H) (t : Nat) : Option am_F := match st with
  | .int j :: .ref a :: r => match h[a]? with
    | some (tg, fs) => if Nat.beq tg (32 + t) then if j < 0 then none else match fs[j.toNatClampNeg]? with
      | some v => some (pc + 1, L, v :: r, h)
      | none => none
      else none
    | none => none
  | _ => none
def am_ast (pc : Nat) (L r : List Value) (h : am_H) (t a : Nat) (j : Int32) (v : Value) : Option am_F := match h[a]? with
  | some (tg, fs) => if Nat.beq tg (32 + t) && Nat.ble 2 a then if j < 0 then none else if Nat.blt j.toNatClampNeg fs.length then some (pc + 1, L, r, h.set a (tg, fs.set j.toNatClampNeg v)) else none
    else none
  | none => none
def am_jmp (pc : Nat) (off : Int) : Nat := ((pc : Int) + off).toNat
/-- what is known of a local variable -/
def am_kn : Value → Bool
  | .int _ => true
  | .ref _ => true
  | _ => false
def am_kns : List Value → Bool
  | [] => true
  | v :: r => am_kn v && am_kns r
/-- the words of an operand stack -/
def am_wt : List Value → Nat
  | [] => 0
  | v :: r => v.category + am_wt r
def am_nw : Option FieldType → Int32 → Bool
  | some .int, _ => true
  | some .boolean, v => v == 0 || v == 1
  | _, _ => false
/-- what may be stored in a field of this type -/
def am_fit : FieldType → Value → Bool
  | .int, .int _ => true
  | .boolean, .int v => v == 0 || v == 1
  | .object _, .ref _ => true
  | .array _, .ref _ => true
  | _, _ => false
def am_vo : Option FieldType → Bool
  | none => true
  | _ => false
def am_ro : Option FieldType → Bool
  | some (.object _) => true
  | some (.array _) => true
  | _ => false
/-- new, dup, ldc, the constructor, athrow -/
def am_thr (cd : Nat → Option Jvm.ClassFile.Instr) (pc : Nat) : Bool := match cd (pc + 3), cd (pc + 4), cd (pc + 6), cd (pc + 9) with
  | some .dup, some (.ldc _), some (.invokespecial _), some .athrow => true
  | _, _, _, _ => false
/-- one instruction that neither calls nor ends -/
def am_step (mid pc : Nat) (L st : List Value) (h : am_H) (i : Jvm.ClassFile.Instr) : Option am_F :=
  match i with
  | .iconst n => some (pc + 1, L, .int (Int32.ofInt n) :: st, h)
  | .bipush n => some (pc + 2, L, .int (Int8.ofInt n).toInt32 :: st, h)
  | .sipush n => some (pc + 3, L, .int (Int16.ofInt n).toInt32 :: st, h)
  | .lconst n => some (pc + 1, L, .long (Int64.ofNat (n : Nat)) :: st, h)
  | .iload_n k => match L[(k : Nat)]? with
    | some (.int x) => some (pc + 1, L, .int x :: st, h)
    | _ => none
  | .iload k => match L[k]? with
    | some (.int x) => some (pc + 2, L, .int x :: st, h)
    | _ => none
  | .aload_n k => match L[(k : Nat)]? with
    | some (.ref x) => some (pc + 1, L, .ref x :: st, h)
    | _ => none
  | .aload k => match L[k]? with
    | some (.ref x) => some (pc + 2, L, .ref x :: st, h)
    | _ => none
  | .istore_n k => match st with
    | .int x :: r => if Nat.blt (k : Nat) L.length then some (pc + 1, L.set (k : Nat) (.int x), r, h) else none
    | _ => none
  | .istore k => match st with
    | .int x :: r => if Nat.blt k L.length then some (pc + 2, L.set k (.int x), r, h) else none
    | _ => none
  | .astore_n k => match st with
    | .ref x :: r => if Nat.blt (k : Nat) L.length then some (pc + 1, L.set (k : Nat) (.ref x), r, h) else none
    | _ => none
  | .astore k => match st with
    | .ref x :: r => if Nat.blt k L.length then some (pc + 2, L.set k (.ref x), r, h) else none
    | _ => none
  | .iinc k n => match L[k]? with
    | some (.int x) => some (pc + 3, L.set k (.int (x + Int32.ofInt n)), st, h)
    | _ => none
  | .iadd => match st with
    | .int y :: .int x :: r => some (pc + 1, L, .int (x + y) :: r, h)
    | _ => none
  | .isub => match st with
    | .int y :: .int x :: r => some (pc + 1, L, .int (x - y) :: r, h)
    | _ => none
  | .imul => match st with
    | .int y :: .int x :: r => some (pc + 1, L, .int (x * y) :: r, h)
    | _ => none
  | .iand => match st with
    | .int y :: .int x :: r => some (pc + 1, L, .int (x &&& y) :: r, h)
    | _ => none
  | .idiv => match st with
    | .int y :: .int x :: r => if y = 0 then none else some (pc + 1, L, .int (x / y) :: r, h)
    | _ => none
  | .i2l => match st with
    | .int x :: r => some (pc + 1, L, .long x.toInt64 :: r, h)
    | _ => none
  | .lcmp => match st with
    | .long y :: .long x :: r => some (pc + 1, L, .int (lg_cmp x y) :: r, h)
    | _ => none
  | .dup => match st with
    | v :: r => if am_kn v then some (pc + 1, L, v :: v :: r, h) else none
    | _ => none
  | .pop => match st with
    | v :: r => if am_kn v then some (pc + 1, L, r, h) else none
    | _ => none
  | .dup_x1 => match st with
    | v :: w :: r => if am_kn v && am_kn w then some (pc + 1, L, v :: w :: v :: r, h) else none
    | _ => none
  | .dup_x2 => match st with
    | v :: w :: u :: r => if am_kn v && (am_kn w && am_kn u) then some (pc + 1, L, v :: w :: u :: v :: r, h) else none
    | _ => none
  | .dup2 => match st with
    | v :: w :: r => if am_kn v && am_kn w then some (pc + 1, L, v :: w :: v :: w :: r, h) else none
    | _ => none
  | .goto o => some (am_jmp pc o, L, st, h)
  | .ifCond c o => match st with
    | .int x :: r => match c with
      | .eq => some (if x = 0 then am_jmp pc o else pc + 3, L, r, h)
      | .ne => some (if x = 0 then pc + 3 else am_jmp pc o, L, r, h)
      | .lt => some (if x < 0 then am_jmp pc o else pc + 3, L, r, h)
      | .ge => some (if 0 ≤ x then am_jmp pc o else pc + 3, L, r, h)
      | .gt => some (if 0 < x then am_jmp pc o else pc + 3, L, r, h)
      | .le => some (if x ≤ 0 then am_jmp pc o else pc + 3, L, r, h)
    | _ => none
  | .if_icmp c o => match st with
    | .int y :: .int x :: r => match c with
      | .eq => some (if x = y then am_jmp pc o else pc + 3, L, r, h)
      | .ne => some (if x = y then pc + 3 else am_jmp pc o, L, r, h)
      | .lt => some (if x < y then am_jmp pc o else pc + 3, L, r, h)
      | .ge => some (if y ≤ x then am_jmp pc o else pc + 3, L, r, h)
      | .gt => some (if y < x then am_jmp pc o else pc + 3, L, r, h)
      | .le => some (if x ≤ y then am_jmp pc o else pc + 3, L, r, h)
    | _ => none
  | .tableswitch d lo hi os => match st with
    | .int x :: r => if x.toInt < lo then some (am_jmp pc d, L, r, h) else if hi < x.toInt then some (am_jmp pc d, L, r, h) else match os[(x.toInt - lo).toNat]? with
      | some o => some (am_jmp pc o, L, r, h)
      | none => none
    | _ => none
  | .lookupswitch d ps => match st with
    | .int x :: r => some (am_jmp pc (Op.lookupswitch.offset ps.toList d x.toInt), L, r, h)
    | _ => none
  | .arraylength => match st with
    | .ref a :: r => match h[a]? with
      | some (tg, fs) => match am_aty tg with
        | some _ => some (pc + 1, L, .int (Int32.ofNat fs.length) :: r, h)
        | none => none
      | none => none
    | _ => none
  | .iaload => am_ald pc L st h 0
  | .baload => am_ald pc L st h 2
  | .laload => am_ald pc L st h 1
  | .aaload => am_ald pc L st h 3
  | .iastore => match st with
    | .int v :: .int j :: .ref a :: r => am_ast pc L r h 0 a j (.int v)
    | _ => none
  | .bastore => match st with
    | .int v :: .int j :: .ref a :: r => am_ast pc L r h 2 a j (.int (v &&& 1))
    | _ => none
  | .lastore => match st with
    | .long v :: .int j :: .ref a :: r => am_ast pc L r h 1 a j (.long v)
    | _ => none
  | .getfield x => match am_pf (am_oc mid) x with
    | some (ci, k) => match st with
      | .ref a :: r => match h[a]? with
        | some (tg, fs) => if Nat.beq tg ci then match fs[k]? with
          | some v => some (pc + 3, L, v :: r, h)
          | none => none
          else none
        | none => none
      | _ => none
    | none => none
  | .putfield x => match am_pf (am_oc mid) x with
    | some (ci, k) => match st with
      | v :: .ref a :: r => match h[a]? with
        | some (tg, fs) => if Nat.beq tg ci && (Nat.ble 2 a && (Nat.blt k fs.length && (am_fit (am_fty ci k) v && am_fin mid ci k))) then some (pc + 3, L, r, h.set a (tg, fs.set k v)) else none
        | none => none
      | _ => none
    | none => none
  | .getstatic x => match am_ps (am_oc mid) x with
    | some q => some (pc + 3, L, .ref q :: st, h)
    | none => none
  | .newarray t => match st with
    | .int n :: r => match am_nty t with
      | some k => if n < 0 then none else if Nat.ble n.toNatClampNeg 100000 then some (pc + 2, L, .ref h.length :: r, h ++ [(32 + k, List.replicate n.toNatClampNeg (am_dv k))]) else none
      | none => none
    | _ => none
  | .multianewarray x dm => match st with
    | .int k :: .int n :: r => if Nat.beq dm 2 && am_ma (am_oc mid) x then if n < 0 then none else if k < 0 then none else if Nat.ble n.toNatClampNeg 1000 && Nat.ble k.toNatClampNeg 1000 then
        some (pc + 4, L, .ref h.length :: r, h ++ ((35, (List.range n.toNatClampNeg).map (fun i => Value.ref (h.length + 1 + i))) :: List.replicate n.toNatClampNeg (32, List.replicate k.toNatClampNeg (.int 0)))) else none
      else none
    | _ => none
  | .new x => match am_pc (am_oc mid) x with
    | some ci => some (pc + 3, L, .ref h.length :: st, h ++ [(ci, am_df ci)])
    | none => none
  | _ => none
/-- the first handler that covers pc and names the class -/
def am_hdl : List (Nat × Nat × Nat × Nat) → Nat → Nat → Option Nat
  | [], _, _ => none
  | (a, b, q, x) :: r, pc, X => if Nat.ble a pc && (Nat.blt pc b && Nat.beq x X) then some q else am_hdl r pc X
/-- some handler covers pc -/
def am_cov : List (Nat × Nat × Nat × Nat) → Nat → Bool
  | [], _ => false
  | (a, b, _, _) :: r, pc => (Nat.ble a pc && Nat.blt pc b) || am_cov r pc
/-- what comes behind a call -/
def am_back (rec : Nat × Nat → Nat → Nat → List Value → List Value → am_H → Option (am_O × am_H)) (d : Nat × Nat) (mid pc : Nat) (L r : List Value) (x : Option (am_O × am_H)) : Option (am_O × am_H) := match x with
  | none => none
  | some (.inl v, h) => rec d mid (pc + 3) L (v.toList ++ r) h
  | some (.inr X, h) => match am_hdl (am_hs mid) pc X with
    | some q => rec d mid q L [.ref (h.length - 1)] h
    | none => if am_cov (am_hs mid) pc then none else some (.inr X, h)
/-- System.arraycopy of ints -/
def am_copy (h : am_H) (n dp : Int32) (b : Nat) (sp : Int32) (a : Nat) : Option am_H := match h[a]? with
  | some (tg, fs) => match h[b]? with
    | some (tg2, gs) => if Nat.beq tg 32 && (Nat.beq tg2 32 && Nat.ble 2 b) then if n < 0 then none else if dp < 0 then none else if sp < 0 then none else
        if Nat.ble (sp.toNatClampNeg + n.toNatClampNeg) fs.length && Nat.ble (dp.toNatClampNeg + n.toNatClampNeg) gs.length then
          some (h.set b (tg2, gs.take dp.toNatClampNeg ++ (fs.drop sp.toNatClampNeg).take n.toNatClampNeg ++ gs.drop (dp.toNatClampNeg + n.toNatClampNeg))) else none
      else none
    | none => none
  | none => none
/-- the receiver is of the class that declares the method -/
def am_rcv (k : Nat) (as : List Value) (h : am_H) : Bool := match am_kd k with
  | 2 => true
  | _ => match as with
    | .ref a :: _ => match h[a]? with
      | some (tg, _) => Nat.beq tg (am_oc k)
      | none => false
    | _ => false
def am_call (rec : Nat × Nat → Nat → Nat → List Value → List Value → am_H → Option (am_O × am_H)) (kd : Nat) (d : Nat × Nat) (mid pc : Nat) (L st : List Value) (h : am_H) (x : Option (Nat × Nat)) : Option (am_O × am_H) := match x with
  | none => none
  | some (0, k) => if Nat.beq (am_kd k) kd && (Nat.ble (am_na k) st.length && (Nat.ble 1 d.1 && (Nat.ble (am_wt (st.drop (am_na k)) + (am_ml k + 11)) d.2 && (am_kns (st.take (am_na k)) && am_rcv k (st.take (am_na k)).reverse h)))) then am_back rec d mid pc L (st.drop (am_na k)) (rec (d.1 - 1, d.2 - (am_wt (st.drop (am_na k)) + (am_ml k + 11))) k 0 ((st.take (am_na k)).reverse ++ List.replicate (am_ml k - am_na k) (.retAddr 0)) [] h) else none
  | some (1, _) => match st with
    | .ref _ :: r => if Nat.beq kd 1 && (Nat.ble 1 d.1 && Nat.ble (am_wt r + 12) d.2) then rec d mid (pc + 3) L r h else none
    | _ => none
  | some (2, _) => match st with
    | .int n :: .int dp :: .ref b :: .int sp :: .ref a :: r => if Nat.beq kd 2 && (Nat.ble 1 d.1 && Nat.ble (am_wt r + 18) d.2) then match am_copy h n dp b sp a with
        | some h' => rec d mid (pc + 3) L r h'
        | none => none
      else none
    | _ => none
  | some _ => none
/-- what calls and what ends -/
def am_ctl (rec : Nat × Nat → Nat → Nat → List Value → List Value → am_H → Option (am_O × am_H)) (d : Nat × Nat) (mid pc : Nat) (L st : List Value) (h : am_H) (i : Jvm.ClassFile.Instr) : Option (am_O × am_H) := match i with
  | .ireturn => match st with
    | [.int v] => if am_nw (am_rt mid) v then some (.inl (some (.int v)), h) else none
    | _ => none
  | .return_ => match st with
    | [] => if am_vo (am_rt mid) then some (.inl none, h) else none
    | _ => none
  | .areturn => match st with
    | [.ref a] => if am_ro (am_rt mid) then some (.inl (some (.ref a)), h) else none
    | _ => none
  | .invokevirtual x => am_call rec 0 d mid pc L st h (am_pm (am_oc mid) x)
  | .invokespecial x => am_call rec 1 d mid pc L st h (am_pm (am_oc mid) x)
  | .invokestatic x => am_call rec 2 d mid pc L st h (am_pm (am_oc mid) x)
  | .new x => match am_pe (am_oc mid) x with
    | some X => if Nat.ble 6 d.1 && (Nat.ble (am_wt st + 82) d.2 && (am_thr (am_code mid) pc && (am_hs mid).isEmpty)) then some (.inr X, h ++ [(X, [])]) else none
    | none => none
  | _ => none
def am_body (rec : Nat × Nat → Nat → Nat → List Value → List Value → am_H → Option (am_O × am_H)) (d : Nat × Nat) (mid pc : Nat) (L st : List Value) (h : am_H) : Option (am_O × am_H) :=
  match am_code mid pc with
  | none => none
  | some i => match am_step mid pc L st h i with
    | some (pc', L', st', h') => rec d mid pc' L' st' h'
    | none => am_ctl rec d mid pc L st h i
def am_run : Nat → Nat × Nat → Nat → Nat → List Value → List Value → am_H → Option (am_O × am_H)
  | 0 => fun _ _ _ _ _ _ => none
  | n + 1 => am_body (am_run n)
