/-! BOUNDS ALONE: roads of a method where the cells are known by their bounds only; calls and loops by contracts -/
/-- an unknown: its least, its greatest, the unknown that it was made of (+ 1; 0: none), how far it is from that, its rest by 4 (4: not known) -/
abbrev ty_B : Type := Int × Int × Nat × Int × Nat
/-- what a value is: (0, lo, hi) an int; (1, p, _) the place p; (2, _, _) a long; (6, lo, hi) an int that 4 divides; (7, c, _) the int c; else anything -/
abbrev ty_V : Type := Nat × Int × Int
/-- a cell: its tag, its length (arrays of ints, longs, booleans), what lies in it (of those: by the index's rest, one row or four; tag 99: nothing is said; 98: ints, of any length). Row (5, lo, hi), the fourth of four: an int, from lo to hi unless the one three before it is 0 -/
abbrev ty_X : Type := Nat × Nat × List ty_V
/-- what is known of cells: place, index, value -/
abbrev ty_F : Type := List (Nat × Value × Value)
/-- bounds of one index of one cell -/
abbrev ty_P : Type := Nat × Nat × Int × Int
abbrev ty_S : Type := List ty_B × ty_F × am_K × List am_K
/-- a contract: method, pc, locals, room; results, exceptions, the cells that it may write, what it asks and what it leaves of some indices; measure -/
abbrev ty_C : Type := (Nat × Nat × List ty_V × (Nat × Nat)) × (List ty_V × List Nat × List Nat × List ty_P × List ty_P) × List (Nat × Nat)
def ty_one (t : Nat) : Bool := Nat.beq t 32 || (Nat.beq t 33 || Nat.beq t 34)
def ty_vok (s : ty_V) (v : Value) : Prop := match s.1 with
  | 0 => ∃ x : Int32, v = .int x ∧ s.2.1 ≤ x.toInt ∧ x.toInt ≤ s.2.2
  | 1 => v = .ref s.2.1.toNat
  | 2 => ∃ x : Int64, v = .long x
  | 5 => ∃ x : Int32, v = .int x
  | 6 => ∃ x : Int32, v = .int x ∧ s.2.1 ≤ x.toInt ∧ x.toInt ≤ s.2.2 ∧ x.toInt % 4 = 0
  | 7 => v = .int (Int32.ofInt s.2.1)
  | _ => True
def ty_cok (s : ty_X) (x : am_C) : Prop := match Nat.beq s.1 99 with
  | true => True
  | false => match Nat.beq s.1 98 with
   | true => x.1 = 32
   | false => x.1 = s.1 ∧ match ty_one s.1 with
    | true => x.2.length = s.2.1 ∧ (∀ (f : Nat) (k : ty_V) (v : Value), s.2.2[f % s.2.2.length]? = some k → x.2[f]? = some v → ty_vok k v) ∧
        ∀ (lo hi : Int), s.2.2[3]? = some (5, lo, hi) → ∀ (f : Nat) (v : Int32), f % 4 = 3 → x.2[f]? = some (.int v) → x.2[f - 3]? = some (.int 0) ∨ (lo ≤ v.toInt ∧ v.toInt ≤ hi)
    | false => x.2.length = s.2.2.length ∧ ∀ (f : Nat) (k : ty_V), s.2.2[f]? = some k → ∃ v, x.2[f]? = some v ∧ ty_vok k v
def ty_gok (g : List ty_X) (h : am_H) : Prop := ∀ (p : Nat) (s : ty_X), g[p]? = some s → ∃ x : am_C, h[p]? = some x ∧ ty_cok s x
def ty_bok (σ : Nat → Int32) (k : Nat) (b : ty_B) : Prop := b.1 ≤ (σ k).toInt ∧ (σ k).toInt ≤ b.2.1 ∧ (∀ j : Nat, b.2.2.1 = j + 1 → (σ k).toInt = (σ j).toInt + b.2.2.2.1) ∧ (b.2.2.2.2 < 4 → (σ k).toInt % 4 = (b.2.2.2.2 : Int))
def ty_ivok (iv : List ty_B) (σ : Nat → Int32) : Prop := ∀ (k : Nat) (b : ty_B), iv[k]? = some b → ty_bok σ k b
def ty_Fok (F : ty_F) (σ : Nat → Int32) (h : am_H) : Prop := ∀ (p : Nat) (i v : Value), (p, i, v) ∈ F → ∃ (x : am_C) (j : Int32), h[p]? = some x ∧ sx_v σ i = .int j ∧ 0 ≤ j.toInt ∧ x.2[j.toNatClampNeg]? = some (sx_v σ v)
/-- bounds of a value -/
def ty_bd (iv : List ty_B) : Value → Option (Int × Int)
  | .int x => some (x.toInt, x.toInt)
  | .retAddr (k + 1) => match iv[k]? with
    | some b => some (b.1, b.2.1)
    | none => none
  | _ => none
def ty_le (a b : Int) : Bool := decide (a ≤ b)
/-- the rest by 4 -/
def ty_res (iv : List ty_B) : Value → Nat
  | .int x => (x.toInt % 4).toNat
  | .retAddr (k + 1) => match iv[k]? with
    | some b => b.2.2.2.2
    | none => 4
  | _ => 4
def ty_32 (l u : Int) : Bool := ty_le (-2147483648) l && ty_le u 2147483647
def ty_fit (iv : List ty_B) (s : ty_V) (v : Value) : Bool := match s.1 with
  | 0 => match ty_bd iv v with
    | some (l, u) => ty_le s.2.1 l && ty_le u s.2.2
    | none => false
  | 1 => match v with
    | .ref p => Nat.beq p s.2.1.toNat
    | _ => false
  | 2 => match v with
    | .long _ => true
    | _ => false
  | 5 => false
  | 6 => match ty_bd iv v with
    | some (l, u) => ty_le s.2.1 l && (ty_le u s.2.2 && Nat.beq (ty_res iv v) 0)
    | none => false
  | 7 => match ty_bd iv v with
    | some (l, u) => ty_le s.2.1 l && (ty_le u s.2.1 && ty_32 s.2.1 s.2.1)
    | none => false
  | _ => true
/-- every unknown is below n -/
def ty_wv (n : Nat) : Value → Bool
  | .retAddr (k + 1) => Nat.blt k n
  | _ => true
def ty_wl (n : Nat) : List Value → Bool
  | [] => true
  | v :: r => ty_wv n v && ty_wl n r
def ty_wk (n : Nat) (q : am_K) : Bool := ty_wl n q.2.2.2.1 && ty_wl n q.2.2.2.2
def ty_wK (n : Nat) : List am_K → Bool
  | [] => true
  | q :: r => ty_wk n q && ty_wK n r
def ty_wF (n : Nat) : ty_F → Bool
  | [] => true
  | q :: r => ty_wv n q.2.1 && (ty_wv n q.2.2 && ty_wF n r)
def ty_ws (S : ty_S) : Bool := ty_wF S.1.length S.2.1 && (ty_wk S.1.length S.2.2.1 && ty_wK S.1.length S.2.2.2)
def ty_full : ty_B := (-2147483648, 2147483647, 0, 0, 4)
def ty_radd (a b : Nat) : Nat := if Nat.blt a 4 && Nat.blt b 4 then (a + b) % 4 else 4
/-- where an unknown comes from -/
def ty_org (iv : List ty_B) (v : Value) (c : Int) : Nat × Int := match v with
  | .retAddr (k + 1) => match iv[k]? with
    | some b => match b.2.2.1 with
      | 0 => (k + 1, c)
      | j + 1 => (j + 1, b.2.2.2.1 + c)
    | none => (0, 0)
  | _ => (0, 0)
def ty_sum (iv : List ty_B) (x y : Value) (l u : Int) (neg : Bool) (r : Nat) : ty_B := if ty_32 l u then (match y with
    | .int c => (l, u, (ty_org iv x (if neg then - c.toInt else c.toInt)).1, (ty_org iv x (if neg then - c.toInt else c.toInt)).2, r)
    | _ => (l, u, 0, 0, r)) else ty_full
/-- x op y, where one of them is not known -/
def ty_ar (iv : List ty_B) (i : Jvm.ClassFile.Instr) (x y : Value) : Option ty_B := match ty_bd iv x with
  | none => none
  | some (l1, u1) => match ty_bd iv y with
    | none => none
    | some (l2, u2) => match i with
      | .iadd => some (match x with
        | .int _ => ty_sum iv y x (l1 + l2) (u1 + u2) false (ty_radd (ty_res iv x) (ty_res iv y))
        | _ => ty_sum iv x y (l1 + l2) (u1 + u2) false (ty_radd (ty_res iv x) (ty_res iv y)))
      | .isub => some (ty_sum iv x y (l1 - u2) (u1 - l2) true 4)
      | .imul => if ty_le 0 l1 && (ty_le 0 l2 && ty_32 (l1 * l2) (u1 * u2)) then some (l1 * l2, u1 * u2, 0, 0, if Nat.beq (ty_res iv x) 0 || Nat.beq (ty_res iv y) 0 then 0 else 4) else some ty_full
      | .iand => some ty_full
      | .idiv => if ty_le 1 l2 || ty_le u2 (-1) then some ty_full else none
      | _ => none
def ty_hi (iv : List ty_B) (v : Value) (m : Int) : Option (List ty_B) := match v with
  | .int x => if ty_le x.toInt m then some iv else none
  | .retAddr (k + 1) => match iv[k]? with
    | some b => if ty_le b.2.1 m then some iv else if ty_le b.1 m then some (iv.set k (b.1, m, b.2.2)) else none
    | none => some iv
  | _ => some iv
def ty_lo (iv : List ty_B) (v : Value) (m : Int) : Option (List ty_B) := match v with
  | .int x => if ty_le m x.toInt then some iv else none
  | .retAddr (k + 1) => match iv[k]? with
    | some b => if ty_le m b.1 then some iv else if ty_le m b.2.1 then some (iv.set k (m, b.2.1, b.2.2)) else none
    | none => some iv
  | _ => some iv
def ty_and (o : Option (List ty_B)) (f : List ty_B → Option (List ty_B)) : Option (List ty_B) := match o with
  | some iv => f iv
  | none => none
/-- the bounds where x c y holds -/
def ty_rf (iv : List ty_B) (c : Jvm.ClassFile.Cond) (x y : Value) : List (List ty_B) := match ty_bd iv x with
  | none => [iv]
  | some (l1, u1) => match ty_bd iv y with
    | none => [iv]
    | some (l2, u2) => match c with
      | .lt => (ty_and (ty_hi iv x (u2 - 1)) (fun w => ty_lo w y (l1 + 1))).toList
      | .le => (ty_and (ty_hi iv x u2) (fun w => ty_lo w y l1)).toList
      | .gt => (ty_and (ty_lo iv x (l2 + 1)) (fun w => ty_hi w y (u1 - 1))).toList
      | .ge => (ty_and (ty_lo iv x l2) (fun w => ty_hi w y u1)).toList
      | .eq => (ty_and (ty_and (ty_lo iv x l2) (fun w => ty_hi w x u2)) (fun w => ty_and (ty_lo w y l1) (fun w => ty_hi w y u1))).toList
      | .ne => if l2 = u2 then (ty_hi iv x (l2 - 1)).toList ++ (ty_lo iv x (l2 + 1)).toList else if l1 = u1 then (ty_hi iv y (l1 - 1)).toList ++ (ty_lo iv y (l1 + 1)).toList else [iv]
def ty_neg : Jvm.ClassFile.Cond → Jvm.ClassFile.Cond
  | .eq => .ne
  | .ne => .eq
  | .lt => .ge
  | .ge => .lt
  | .gt => .le
  | .le => .gt
