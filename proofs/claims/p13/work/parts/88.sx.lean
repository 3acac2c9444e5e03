/-! BOUNDS OF UNKNOWN INTS, and all roads of a run -/
def sx_isI : FieldType → Bool
  | .int => true
  | _ => false
def sx_rI : Option FieldType → Bool
  | some .int => true
  | _ => false
/-- is x c y, for every x from lo to hi? -/
def sx_cmp (c : Jvm.ClassFile.Cond) (lo hi y : Int) : Option Bool := match c with
  | .eq => if hi < y then some false else if y < lo then some false else none
  | .ne => if hi < y then some true else if y < lo then some true else none
  | .lt => if hi < y then some true else if y ≤ lo then some false else none
  | .ge => if hi < y then some false else if y ≤ lo then some true else none
  | .gt => if y < lo then some true else if hi ≤ y then some false else none
  | .le => if y < lo then some false else if hi ≤ y then some true else none
def sx_flip : Jvm.ClassFile.Cond → Jvm.ClassFile.Cond
  | .eq => .eq
  | .ne => .ne
  | .lt => .gt
  | .ge => .le
  | .gt => .lt
  | .le => .ge
def sx_br (d : Nat × Nat) (mid pc : Nat) (L r : List Value) (h : am_H) (K : List am_K) (o : Int) (b : Option Bool) : Option am_G := match b with
  | some true => some ((d, mid, am_jmp pc o, L, r), h, K)
  | some false => some ((d, mid, pc + 3, L, r), h, K)
  | none => none
def sx_xi (iv : List (Int × Int)) (d : Nat × Nat) (mid pc : Nat) (L st : List Value) (h : am_H) (K : List am_K) (i : Jvm.ClassFile.Instr) : Option am_G := match i with
  | .iload_n k => match L[(k : Nat)]? with
    | some (.retAddr (j + 1)) => some ((d, mid, pc + 1, L, .retAddr (j + 1) :: st), h, K)
    | _ => none
  | .iload k => match L[k]? with
    | some (.retAddr (j + 1)) => some ((d, mid, pc + 2, L, .retAddr (j + 1) :: st), h, K)
    | _ => none
  | .istore_n k => match st with
    | .retAddr (j + 1) :: r => if Nat.blt (k : Nat) L.length then some ((d, mid, pc + 1, L.set (k : Nat) (.retAddr (j + 1)), r), h, K) else none
    | _ => none
  | .istore k => match st with
    | .retAddr (j + 1) :: r => if Nat.blt k L.length then some ((d, mid, pc + 2, L.set k (.retAddr (j + 1)), r), h, K) else none
    | _ => none
  | .iastore => match st with
    | .retAddr (v + 1) :: .int j :: .ref a :: r => match am_ast pc L r h 0 a j (.retAddr (v + 1)) with
      | some f => some ((d, mid, f.1, f.2.1, f.2.2.1), f.2.2.2, K)
      | none => none
    | _ => none
  | .iand => match st with
    | .int y :: .retAddr 1 :: r => if y = 15 then some ((d, mid, pc + 1, L, .retAddr 8 :: r), h, K) else none
    | _ => none
  | .putfield x => match am_pf (am_oc mid) x with
    | some (ci, k) => match st with
      | .retAddr (v + 1) :: .ref a :: r => match h[a]? with
        | some (tg, fs) => if Nat.beq tg ci && (Nat.ble 2 a && (Nat.blt k fs.length && (sx_isI (am_fty ci k) && am_fin mid ci k))) then some ((d, mid, pc + 3, L, r), h.set a (tg, fs.set k (.retAddr (v + 1))), K) else none
        | none => none
      | _ => none
    | none => none
  | .ifCond c o => match st with
    | .retAddr (v + 1) :: r => match iv[v]? with
      | some (lo, hi) => sx_br d mid pc L r h K o (sx_cmp c lo hi 0)
      | none => none
    | _ => none
  | .if_icmp c o => match st with
    | .int y :: .retAddr (v + 1) :: r => match iv[v]? with
      | some (lo, hi) => sx_br d mid pc L r h K o (sx_cmp c lo hi y.toInt)
      | none => none
    | .retAddr (v + 1) :: .int x :: r => match iv[v]? with
      | some (lo, hi) => sx_br d mid pc L r h K o (sx_cmp (sx_flip c) lo hi x.toInt)
      | none => none
    | _ => none
  | .tableswitch q lo hi _ => match st with
    | .retAddr (v + 1) :: r => match iv[v]? with
      | some (l, u) => if u < lo then some ((d, mid, am_jmp pc q, L, r), h, K) else if hi < l then some ((d, mid, am_jmp pc q, L, r), h, K) else none
      | none => none
    | _ => none
  | .ireturn => match st with
    | [.retAddr (v + 1)] => if sx_rI (am_rt mid) then am_pop K (.inl (some (.retAddr (v + 1)))) h else none
    | _ => none
  | .invokevirtual x => sx_smc 0 d mid pc L st h K (am_pm (am_oc mid) x)
  | .invokespecial x => sx_smc 1 d mid pc L st h K (am_pm (am_oc mid) x)
  | .invokestatic x => sx_smc 2 d mid pc L st h K (am_pm (am_oc mid) x)
  | _ => none
def sx_x (iv : List (Int × Int)) (c : am_G) : Option am_G := match am_code c.1.2.1 c.1.2.2.1 with
  | none => none
  | some i => sx_xi iv c.1.1 c.1.2.1 c.1.2.2.1 c.1.2.2.2.1 c.1.2.2.2.2 c.2.1 c.2.2 i
/-- where the next unknown is to be parted -/
def sx_pt (c : Jvm.ClassFile.Cond) (lo y : Int) : Int := match c with
  | .eq => if y = lo then y + 1 else y
  | .ne => if y = lo then y + 1 else y
  | .lt => y
  | .ge => y
  | .gt => y + 1
  | .le => y + 1
def sx_spi (iv : List (Int × Int)) (st : List Value) (i : Jvm.ClassFile.Instr) : Option (Nat × Int) := match i with
  | .ifCond c _ => match st with
    | .retAddr (v + 1) :: _ => match iv[v]? with
      | some (lo, _) => some (v, sx_pt c lo 0)
      | none => none
    | _ => none
  | .if_icmp c _ => match st with
    | .int y :: .retAddr (v + 1) :: _ => match iv[v]? with
      | some (lo, _) => some (v, sx_pt c lo y.toInt)
      | none => none
    | .retAddr (v + 1) :: .int x :: _ => match iv[v]? with
      | some (lo, _) => some (v, sx_pt (sx_flip c) lo x.toInt)
      | none => none
    | _ => none
  | .tableswitch _ lo hi _ => match st with
    | .retAddr (v + 1) :: _ => match iv[v]? with
      | some (l, u) => some (v, if l < lo then lo else if hi < u then hi + 1 else l + 1)
      | none => none
    | _ => none
  | .iaload => match st with
    | .retAddr (v + 1) :: _ => match iv[v]? with
      | some (l, u) => if u < l + 64 then some (v, l + 1) else none
      | none => none
    | _ => none
  | _ => none
def sx_sp (iv : List (Int × Int)) (c : am_G) : Option (Nat × Int) := match am_code c.1.2.1 c.1.2.2.1 with
  | none => none
  | some i => sx_spi iv c.1.2.2.2.2 i
/-- one unknown is known -/
def sx_v1 (k : Nat) (n : Int32) : Value → Value
  | .retAddr (j + 1) => if Nat.beq j k then .int n else .retAddr (j + 1)
  | v => v
def sx_s (k : Nat) (n : Int32) (c : am_G) : am_G :=
  let f := fun q : am_K => ((q.1, q.2.1, q.2.2.1, q.2.2.2.1.map (sx_v1 k n), q.2.2.2.2.map (sx_v1 k n)) : am_K)
  (f c.1, c.2.1.map (fun x => ((x.1, x.2.map (sx_v1 k n)) : am_C)), c.2.2.map f)
def sx_hf (f : List (Int × Int) → am_G → Bool) (iv : List (Int × Int)) (c : am_G) (k : Nat) (lo hi : Int) : Bool :=
  if hi < lo then true else if lo = hi then f (iv.set k (lo, hi)) (sx_s k (Int32.ofInt lo) c) else f (iv.set k (lo, hi)) c
def sx_end (c : am_G) : Bool := match c with
  | ((_, mid, pc, _, st), h, K) => match am_code mid pc with
    | some .ireturn => match st with
      | [.int v] => decide (v = 1) && (am_nw (am_rt mid) v && (K.isEmpty && (Nat.ble h.length 600002 && Nat.ble (am_sz h) 7302232)))
      | _ => false
    | _ => false
def sx_all : Nat → List (Int × Int) → am_G → Bool
  | 0, _, _ => false
  | n + 1, iv, c => match am_sm c with
    | some c' => sx_all n iv c'
    | none => match sx_x iv c with
      | some c' => sx_all n iv c'
      | none => match sx_sp iv c with
        | some (k, m) => match iv[k]? with
          | some (lo, hi) => sx_hf (sx_all n) iv c k lo (m - 1) && sx_hf (sx_all n) iv c k m hi
          | none => false
        | none => sx_end c
