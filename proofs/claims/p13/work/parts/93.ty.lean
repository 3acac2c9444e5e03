/-! ONE STEP BY BOUNDS; the check of a contract -/
def ty_ieq : Value → Value → Bool
  | .int a, .int b => decide (a = b)
  | .retAddr j, .retAddr k => Nat.beq j k
  | _, _ => false
/-- surely not the same -/
def ty_idf : Value → Value → Bool
  | .int a, .int b => !decide (a = b)
  | _, _ => false
def ty_Fget : ty_F → Nat → Value → Option Value
  | [], _, _ => none
  | q :: r, p, i => if Nat.beq q.1 p && ty_ieq q.2.1 i then some q.2.2 else ty_Fget r p i
/-- what stays known when something is stored at an index of a cell -/
def ty_Fset : ty_F → Nat → Value → ty_F
  | [], _, _ => []
  | q :: r, p, i => if Nat.beq q.1 p && !ty_idf q.2.1 i then ty_Fset r p i else q :: ty_Fset r p i
def ty_in (p : Nat) : List Nat → Bool
  | [] => false
  | q :: r => Nat.beq q p || ty_in p r
def ty_sub : List Nat → List Nat → Bool
  | [], _ => true
  | p :: r, m => ty_in p m && ty_sub r m
/-- what stays known when some cells are written -/
def ty_Fcuts : ty_F → List Nat → ty_F
  | [], _ => []
  | q :: r, m => if ty_in q.1 m then ty_Fcuts r m else q :: ty_Fcuts r m
def ty_ix (k : Nat) : Value := .int (Int32.ofNat k)
/-- what a cell's row says of an index -/
def ty_row (g : List ty_X) (p n : Nat) : Option ty_V := match g[p]? with
  | some (tg, len, ss) => if Nat.beq tg 99 || Nat.beq tg 98 then none else if ty_one tg then (if Nat.blt n len then ss[n % ss.length]? else none) else ss[n]?
  | none => none
def ty_pre (g : List ty_X) (iv : List ty_B) (F : ty_F) : List ty_P → Bool
  | [] => true
  | q :: r => (match ty_Fget F q.1 (ty_ix q.2.1) with
    | some v => ty_fit iv (0, q.2.2.1, q.2.2.2) v
    | none => match ty_row g q.1 q.2.1 with
      | some (0, lo, hi) => Nat.blt q.2.1 100000 && (ty_le q.2.2.1 lo && ty_le hi q.2.2.2)
      | _ => false) && ty_pre g iv F r
def ty_posts : List ty_P → List ty_B → ty_F → List ty_B × ty_F
  | [], iv, F => (iv, F)
  | q :: r, iv, F => ty_posts r (iv ++ [(q.2.2.1, q.2.2.2, 0, 0, 4)]) ((q.1, ty_ix q.2.1, .retAddr (iv.length + 1)) :: F)
def ty_push (iv : List ty_B) (b : ty_B) (F : ty_F) (d : Nat × Nat) (mid pc : Nat) (L r : List Value) (K : List am_K) : Option (List ty_S) :=
  if ty_ws (iv, F, (d, mid, pc, L, r), K) then some [(iv ++ [b], F, (d, mid, pc, L, .retAddr (iv.length + 1) :: r), K)] else none
def ty_br (iv : List ty_B) (F : ty_F) (d : Nat × Nat) (mid pc : Nat) (L r : List Value) (K : List am_K) (c : Jvm.ClassFile.Cond) (x y : Value) (o : Int) : Option (List ty_S) :=
  if (ty_bd iv x).isSome && (ty_bd iv y).isSome then some ((ty_rf iv c x y).map (fun w => (w, F, (d, mid, am_jmp pc o, L, r), K)) ++ (ty_rf iv (ty_neg c) x y).map (fun w => (w, F, (d, mid, pc + 3, L, r), K))) else none
def ty_sw (iv : List ty_B) (F : ty_F) (d : Nat × Nat) (mid pc : Nat) (L r : List Value) (K : List am_K) (x : Value) : Int → List Int → List ty_S
  | _, [] => []
  | lo, o :: os => (ty_rf iv .eq x (.int (Int32.ofInt lo))).map (fun w => (w, F, (d, mid, am_jmp pc o, L, r), K)) ++ ty_sw iv F d mid pc L r K x (lo + 1) os
/-- is v an int, known or not? -/
def ty_isi : Value → Bool
  | .int _ => true
  | .retAddr (_ + 1) => true
  | _ => false
/-- what may be put into a field of this type -/
def ty_pf (iv : List ty_B) (t : FieldType) (v : Value) : Bool := match t with
  | .int => ty_isi v
  | .boolean => ty_isi v && ty_fit iv (0, 0, 1) v
  | .object _ => match v with
    | .ref _ => true
    | _ => false
  | .array _ => match v with
    | .ref _ => true
    | _ => false
  | _ => false
def ty_idx (iv : List ty_B) (j : Value) (len : Nat) : Bool := match ty_bd iv j with
  | some (l, u) => ty_le 0 l && ty_le (u + 1) len
  | none => false
/-- where an index comes from -/
def ty_or (iv : List ty_B) : Value → Option (Nat × Int)
  | .int x => some (0, x.toInt)
  | .retAddr (k + 1) => match iv[k]? with
    | some b => match b.2.2.1 with
      | 0 => some (k + 1, 0)
      | j + 1 => some (j + 1, b.2.2.2.1)
    | none => none
  | _ => none
/-- the one three before it, if it is known -/
def ty_op (iv : List ty_B) (a b : Nat) (o : Int) : ty_F → Option Value
  | [] => none
  | q :: r => if Nat.beq q.1 a && (match ty_or iv q.2.1 with
      | some (b', o') => Nat.beq b b' && decide (o = o' + 3)
      | none => false) then some q.2.2 else ty_op iv a b o r
/-- a new unknown on the stack, known to lie in a cell -/
def ty_pushF (iv : List ty_B) (b : ty_B) (F : ty_F) (a : Nat) (j : Value) (d : Nat × Nat) (mid pc : Nat) (L r : List Value) (K : List am_K) : Option (List ty_S) :=
  if ty_ws (iv, F, (d, mid, pc, L, j :: r), K) then some [(iv ++ [b], (a, j, .retAddr (iv.length + 1)) :: F, (d, mid, pc, L, .retAddr (iv.length + 1) :: r), K)] else none
def ty_ints : List ty_V → Bool
  | [] => true
  | s :: r => (Nat.beq s.1 0 || Nat.beq s.1 5) && ty_ints r
/-- the row of an index -/
def ty_arow (iv : List ty_B) (j : Value) (ss : List ty_V) : Option ty_V := if Nat.beq ss.length 1 then ss[0]? else if Nat.beq ss.length 4 then (if Nat.blt (ty_res iv j) 4 then ss[ty_res iv j]? else if ty_ints ss then some (0, -2147483648, 2147483647) else none) else none
/-- an element of an array -/
def ty_ald (g : List ty_X) (iv : List ty_B) (F : ty_F) (d : Nat × Nat) (mid pc : Nat) (L st : List Value) (K : List am_K) (t : Nat) : Option (List ty_S) := match st with
  | j :: .ref a :: r => match g[a]? with
    | some (tg, len, ss) => if Nat.beq tg 98 then (if Nat.beq t 32 then match ty_or iv j with
        | some (b, o) => match ty_op iv a b (o + 3) F with
          | some v => some [(iv, F, (d, mid, pc + 1, L, v :: r), K)]
          | none => none
        | none => none
      else none) else if Nat.beq tg t && ty_idx iv j len then match ty_Fget F a j with
        | some v => some [(iv, F, (d, mid, pc + 1, L, v :: r), K)]
        | none => match ty_arow iv j ss with
          | some (0, lo, hi) => ty_pushF iv (lo, hi, 0, 0, 4) F a j d mid (pc + 1) L r K
          | some (5, lo, hi) => if Nat.beq ss.length 4 && Nat.beq (ty_res iv j) 3 then match ty_or iv j with
              | some (b, o) => match ty_op iv a b o F with
                | some v => match ty_bd iv v with
                  | some (l, u) => if ty_le 1 l || ty_le u (-1) then ty_pushF iv (lo, hi, 0, 0, 4) F a j d mid (pc + 1) L r K else if ty_le 0 l && ty_le u 0 then ty_pushF iv ty_full F a j d mid (pc + 1) L r K else
                      some ((ty_rf iv .eq v (.int 0)).map (fun w => (w, F, (d, mid, pc, L, st), K)) ++ (ty_rf iv .ne v (.int 0)).map (fun w => (w, F, (d, mid, pc, L, st), K)))
                  | none => none
                | none => ty_pushF iv ty_full F a j d mid (pc + 1) L r K
              | none => none
            else none
          | _ => none
      else none
    | none => none
  | _ => none
def ty_aa (iv : List ty_B) (F : ty_F) (d : Nat × Nat) (mid pc : Nat) (L r : List Value) (K : List am_K) (j : Value) : Int → List ty_V → List ty_S
  | _, [] => []
  | n, s :: ss => (ty_rf iv .eq j (.int (Int32.ofInt n))).map (fun w => (w, F, (d, mid, pc + 1, L, .ref s.2.1.toNat :: r), K)) ++ ty_aa iv F d mid pc L r K j (n + 1) ss
def ty_refs : List ty_V → Bool
  | [] => true
  | s :: r => Nat.beq s.1 1 && ty_refs r
/-- a store into an array of one kind -/
def ty_ast (g : List ty_X) (ms : List Nat) (iv : List ty_B) (F : ty_F) (d : Nat × Nat) (mid pc : Nat) (L r : List Value) (K : List am_K) (t a : Nat) (j v : Value) : Option (List ty_S) := match g[a]? with
  | some (tg, len, [s]) => if Nat.beq tg t && (Nat.ble 2 a && (ty_in a ms && (ty_idx iv j len && ty_fit iv s v))) then some [(iv, (a, j, v) :: ty_Fset F a j, (d, mid, pc, L, r), K)] else none
  | _ => none
/-- an exception on its way -/
def ty_thr (ex : List Nat) (iv : List ty_B) (F : ty_F) (X : Nat) : am_K → List am_K → Option (List ty_S)
  | q, K => match am_hdl (am_hs q.2.1) q.2.2.1 X with
    | some z => match am_code q.2.1 z with
      | some (.astore_n k) => if K.isEmpty && Nat.blt (k : Nat) q.2.2.2.1.length then some [(iv, F, ((0, 0), q.2.1, z + 1, q.2.2.2.1.set (k : Nat) (.retAddr 0), []), [])] else none
      | some (.astore k) => if K.isEmpty && Nat.blt k q.2.2.2.1.length then some [(iv, F, ((0, 0), q.2.1, z + 2, q.2.2.2.1.set k (.retAddr 0), []), [])] else none
      | _ => none
    | none => if am_cov (am_hs q.2.1) q.2.2.1 then none else match K with
      | [] => if ex.contains X then some [] else none
      | q2 :: K2 => ty_thr ex iv F X q2 K2
/-- do the first values fit? -/
def ty_fits (iv : List ty_B) : List ty_V → List Value → Bool
  | [], [] => true
  | s :: ss, [] => Nat.beq s.1 3 && ty_fits iv ss []
  | s :: ss, v :: vs => ty_fit iv s v && ty_fits iv ss vs
  | [], _ :: _ => false
def ty_find (g : List ty_X) (iv : List ty_B) (F : ty_F) (k rank : Nat) (d : Nat × Nat) (as : List Value) : List ty_C → Option ty_C
  | [] => none
  | C :: T => if Nat.beq C.1.1 k && (Nat.beq C.1.2.1 0 && (Nat.beq C.1.2.2.1.length (am_na k + (am_ml k - am_na k)) && (ty_fits iv C.1.2.2.1 as && (Nat.ble C.1.2.2.2.1 d.1 && (Nat.ble C.1.2.2.2.2 d.2 && (ty_pre g iv F C.2.1.2.2.2.1 && (match C.2.2 with
      | (0, n) :: _ => Nat.blt n rank
      | _ => false))))))) then some C else ty_find g iv F k rank d as T
def ty_rets (iv : List ty_B) (F : ty_F) (d : Nat × Nat) (mid pc : Nat) (L r : List Value) (K : List am_K) : List ty_V → Option (List ty_S)
  | [] => some []
  | s :: ss => match (match s.1 with
      | 0 => ty_push iv (s.2.1, s.2.2, 0, 0, 4) F d mid pc L r K
      | 1 => some [(iv, F, (d, mid, pc, L, .ref s.2.1.toNat :: r), K)]
      | _ => none), ty_rets iv F d mid pc L r K ss with
    | some a, some b => some (a ++ b)
    | _, _ => none
def ty_thrs (ex : List Nat) (iv : List ty_B) (F : ty_F) (q : am_K) (K : List am_K) : List Nat → Option (List ty_S)
  | [] => some []
  | X :: Xs => match ty_thr ex iv F X q K, ty_thrs ex iv F q K Xs with
    | some a, some b => some (a ++ b)
    | _, _ => none
def ty_use (g : List ty_X) (C0 C : ty_C) (iv : List ty_B) (F : ty_F) (d : Nat × Nat) (mid pc : Nat) (L r : List Value) (K : List am_K) : Option (List ty_S) :=
  if (am_hs C.1.1).isEmpty && (ty_sub C.2.1.2.2.1 C0.2.1.2.2.1 && (ty_pre g iv F C.2.1.2.2.2.1 && ty_ws (iv, F, (d, mid, pc, L, r), K))) then
    match (match C.2.1.1 with
      | [] => some [((ty_posts C.2.1.2.2.2.2 iv (ty_Fcuts F C.2.1.2.2.1)).1, (ty_posts C.2.1.2.2.2.2 iv (ty_Fcuts F C.2.1.2.2.1)).2, (d, mid, pc + 3, L, r), K)]
      | ss => ty_rets (ty_posts C.2.1.2.2.2.2 iv (ty_Fcuts F C.2.1.2.2.1)).1 (ty_posts C.2.1.2.2.2.2 iv (ty_Fcuts F C.2.1.2.2.1)).2 d mid (pc + 3) L r K ss), ty_thrs C0.2.1.2.1 iv (ty_Fcuts F C.2.1.2.2.1) (d, mid, pc, L, r) K C.2.1.2.1 with
    | some a, some b => some (a ++ b)
    | _, _ => none
  else none
/-- the receiver's class, by its place -/
def ty_rcv (g : List ty_X) (k : Nat) (as : List Value) : Bool := match am_kd k with
  | 2 => true
  | _ => match as with
    | .ref a :: _ => match g[a]? with
      | some (tg, _, _) => Nat.beq tg (am_oc k) && Nat.blt tg 32
      | none => false
    | _ => false
def ty_call (g : List ty_X) (T : List ty_C) (C0 : ty_C) (rank : Nat) (kd : Nat) (iv : List ty_B) (F : ty_F) (d : Nat × Nat) (mid pc : Nat) (L st : List Value) (K : List am_K) (x : Option (Nat × Nat)) : Option (List ty_S) := match x with
  | some (0, k) => if Nat.beq (am_kd k) kd && (Nat.ble (am_na k) st.length && (Nat.ble 1 d.1 && (Nat.ble (am_wt (st.drop (am_na k)) + (am_ml k + 11)) d.2 && (sx_kvs (st.take (am_na k)) && ty_rcv g k (st.take (am_na k)).reverse)))) then
      match ty_find g iv F k rank (d.1 - 1, d.2 - (am_wt (st.drop (am_na k)) + (am_ml k + 11))) (st.take (am_na k)).reverse T with
      | some C => ty_use g C0 C iv F d mid pc L (st.drop (am_na k)) K
      | none => some [(iv, F, ((d.1 - 1, d.2 - (am_wt (st.drop (am_na k)) + (am_ml k + 11))), k, 0, (st.take (am_na k)).reverse ++ List.replicate (am_ml k - am_na k) (.retAddr 0), []), (d, mid, pc, L, st.drop (am_na k)) :: K)]
    else none
  | some (2, _) => match st with
    | .int n :: .int dp :: .ref b :: .int sp :: .ref a :: r => if Nat.beq kd 2 && (Nat.ble 1 d.1 && (Nat.ble (am_wt r + 18) d.2 && (Nat.ble 2 b && ty_in b C0.2.1.2.2.1))) then match g[a]?, g[b]? with
        | some (ta, la, [(0, lo, hi)]), some (tb, lb, [(0, lo2, hi2)]) => if Nat.beq ta 32 && (Nat.beq tb 32 && (ty_le 0 n.toInt && (ty_le 0 dp.toInt && (ty_le 0 sp.toInt && (ty_le (sp.toInt + n.toInt) la && (ty_le (dp.toInt + n.toInt) lb && (ty_le lo2 lo && ty_le hi hi2))))))) then some [(iv, ty_Fcuts F [b], (d, mid, pc + 3, L, r), K)] else none
        | _, _ => none
      else none
    | _ => none
  | _ => none
/-- an end: back to the caller, or the end of all -/
def ty_ret (g : List ty_X) (C0 : ty_C) (iv : List ty_B) (F : ty_F) (v : Option Value) : List am_K → Option (List ty_S)
  | q :: K => some [(iv, F, (q.1, q.2.1, q.2.2.1 + 3, q.2.2.2.1, v.toList ++ q.2.2.2.2), K)]
  | [] => if ty_pre g iv F C0.2.1.2.2.2.2 then (match v with
    | none => if C0.2.1.1.isEmpty then some [] else none
    | some w => if C0.2.1.1.any (fun s => ty_fit iv s w) then some [] else none) else none
def ty_k2 : List Value → Bool
  | v :: w :: _ => sx_kv v && sx_kv w
  | _ => false
def ty_i (g : List ty_X) (T : List ty_C) (C0 : ty_C) (rank : Nat) (iv : List ty_B) (F : ty_F) (d : Nat × Nat) (mid pc : Nat) (L st : List Value) (K : List am_K) (i : Jvm.ClassFile.Instr) : Option (List ty_S) := match i with
  | .iload_n k => match L[(k : Nat)]? with
    | some (.retAddr (j + 1)) => some [(iv, F, (d, mid, pc + 1, L, .retAddr (j + 1) :: st), K)]
    | _ => none
  | .iload k => match L[k]? with
    | some (.retAddr (j + 1)) => some [(iv, F, (d, mid, pc + 2, L, .retAddr (j + 1) :: st), K)]
    | _ => none
  | .istore_n k => match st with
    | .retAddr (j + 1) :: r => if Nat.blt (k : Nat) L.length then some [(iv, F, (d, mid, pc + 1, L.set (k : Nat) (.retAddr (j + 1)), r), K)] else none
    | _ => none
  | .istore k => match st with
    | .retAddr (j + 1) :: r => if Nat.blt k L.length then some [(iv, F, (d, mid, pc + 2, L.set k (.retAddr (j + 1)), r), K)] else none
    | _ => none
  | .iinc k n => match L[k]? with
    | some (.retAddr (j + 1)) => match ty_ar iv .iadd (.retAddr (j + 1)) (.int (Int32.ofInt n)) with
      | some b => if ty_ws (iv, F, (d, mid, pc, L, st), K) then some [(iv ++ [b], F, (d, mid, pc + 3, L.set k (.retAddr (iv.length + 1)), st), K)] else none
      | none => none
    | _ => none
  | .pop => match st with
    | .retAddr (_ + 1) :: r => some [(iv, F, (d, mid, pc + 1, L, r), K)]
    | _ => none
  | .dup => match st with
    | .retAddr (j + 1) :: r => some [(iv, F, (d, mid, pc + 1, L, .retAddr (j + 1) :: .retAddr (j + 1) :: r), K)]
    | _ => none
  | .dup2 => match st with
    | v :: w :: r => if sx_kv v && sx_kv w then some [(iv, F, (d, mid, pc + 1, L, v :: w :: v :: w :: r), K)] else none
    | _ => none
  | .dup_x1 => match st with
    | v :: w :: r => if sx_kv v && sx_kv w then some [(iv, F, (d, mid, pc + 1, L, v :: w :: v :: r), K)] else none
    | _ => none
  | .dup_x2 => match st with
    | v :: w :: u :: r => if sx_kv v && (sx_kv w && sx_kv u) then some [(iv, F, (d, mid, pc + 1, L, v :: w :: u :: v :: r), K)] else none
    | _ => none
  | .iadd => match st with
    | y :: x :: r => match ty_ar iv .iadd x y with
      | some b => ty_push iv b F d mid (pc + 1) L r K
      | none => none
    | _ => none
  | .isub => match st with
    | y :: x :: r => match ty_ar iv .isub x y with
      | some b => ty_push iv b F d mid (pc + 1) L r K
      | none => none
    | _ => none
  | .imul => match st with
    | y :: x :: r => match ty_ar iv .imul x y with
      | some b => ty_push iv b F d mid (pc + 1) L r K
      | none => none
    | _ => none
  | .iand => match st with
    | y :: x :: r => match ty_ar iv .iand x y with
      | some b => ty_push iv b F d mid (pc + 1) L r K
      | none => none
    | _ => none
  | .idiv => match st with
    | y :: x :: r => match ty_ar iv .idiv x y with
      | some b => ty_push iv b F d mid (pc + 1) L r K
      | none => none
    | _ => none
  | .ifCond c o => match st with
    | x :: r => ty_br iv F d mid pc L r K c x (.int 0) o
    | _ => none
  | .if_icmp c o => match st with
    | y :: x :: r => ty_br iv F d mid pc L r K c x y o
    | _ => none
  | .tableswitch q lo hi os => match st with
    | x :: r => if (ty_bd iv x).isSome && (ty_32 lo hi && (ty_le lo hi && decide ((os.size : Int) = hi + 1 - lo))) then some ((ty_rf iv .lt x (.int (Int32.ofInt lo))).map (fun w => (w, F, (d, mid, am_jmp pc q, L, r), K)) ++ ((ty_rf iv .gt x (.int (Int32.ofInt hi))).map (fun w => (w, F, (d, mid, am_jmp pc q, L, r), K)) ++ ty_sw iv F d mid pc L r K x lo os.toList)) else none
    | _ => none
  | .arraylength => match st with
    | .ref a :: r => match g[a]? with
      | some (tg, len, _) => if ty_one tg then some [(iv, F, (d, mid, pc + 1, L, .int (Int32.ofNat len) :: r), K)] else none
      | none => none
    | _ => none
  | .iaload => ty_ald g iv F d mid pc L st K 32
  | .baload => ty_ald g iv F d mid pc L st K 34
  | .aaload => match st with
    | j :: .ref a :: r => match g[a]? with
      | some (tg, _, ss) => if Nat.beq tg 35 && (ty_idx iv j ss.length && ty_refs ss) then some (ty_aa iv F d mid pc L r K j 0 ss) else none
      | none => none
    | _ => none
  | .iastore => match st with
    | v :: j :: .ref a :: r => if ty_isi v then ty_ast g C0.2.1.2.2.1 iv F d mid (pc + 1) L r K 32 a j v else none
    | _ => none
  | .bastore => match st with
    | v :: j :: .ref a :: r => if ty_isi v then match g[a]? with
        | some (tg, len, [(0, lo, hi)]) => if Nat.beq tg 34 && (Nat.ble 2 a && (ty_in a C0.2.1.2.2.1 && (ty_idx iv j len && (ty_le lo 0 && ty_le 1 hi)))) then some [(iv, ty_Fcuts F [a], (d, mid, pc + 1, L, r), K)] else none
        | _ => none
      else none
    | _ => none
  | .i2l => match st with
    | v :: j :: .ref a :: r => match am_code mid (pc + 1) with
      | some .lastore => if ty_isi v then match g[a]? with
          | some (tg, len, [(2, _, _)]) => if Nat.beq tg 33 && (Nat.ble 2 a && (ty_in a C0.2.1.2.2.1 && ty_idx iv j len)) then some [(iv, ty_Fcuts F [a], (d, mid, pc + 2, L, r), K)] else none
          | _ => none
        else none
      | _ => none
    | _ => none
  | .lastore => match st with
    | .long _ :: j :: .ref a :: r => match g[a]? with
      | some (tg, len, [(2, _, _)]) => if Nat.beq tg 33 && (Nat.ble 2 a && (ty_in a C0.2.1.2.2.1 && ty_idx iv j len)) then some [(iv, ty_Fcuts F [a], (d, mid, pc + 1, L, r), K)] else none
      | _ => none
    | _ => none
  | .getfield x => match am_pf (am_oc mid) x with
    | some (ci, k) => match st with
      | .ref a :: r => match g[a]? with
        | some (tg, _, ss) => if Nat.beq tg ci && (Nat.blt tg 32 && Nat.blt k 64) then match ty_Fget F a (ty_ix k) with
            | some v => some [(iv, F, (d, mid, pc + 3, L, v :: r), K)]
            | none => match ss[k]? with
              | some (0, lo, hi) => ty_pushF iv (lo, hi, 0, 0, 4) F a (ty_ix k) d mid (pc + 3) L r K
              | some (1, p, _) => some [(iv, F, (d, mid, pc + 3, L, .ref p.toNat :: r), K)]
              | _ => none
          else none
        | none => none
      | _ => none
    | none => none
  | .putfield x => match am_pf (am_oc mid) x with
    | some (ci, k) => match st with
      | v :: .ref a :: r => match g[a]? with
        | some (tg, _, ss) => match ss[k]? with
          | some s => if Nat.beq tg ci && (Nat.blt tg 32 && (Nat.blt k 64 && (Nat.ble 2 a && (ty_in a C0.2.1.2.2.1 && (ty_fit iv s v && (ty_pf iv (am_fty ci k) v && am_fin mid ci k)))))) then some [(iv, (a, ty_ix k, v) :: ty_Fset F a (ty_ix k), (d, mid, pc + 3, L, r), K)] else none
          | none => none
        | none => none
      | _ => none
    | none => none
  | .ireturn => match st with
    | [v] => if ty_isi v && (match am_rt mid with
        | some .int => true
        | some .boolean => ty_fit iv (0, 0, 1) v
        | _ => false) then ty_ret g C0 iv F (some v) K else none
    | _ => none
  | .return_ => match st with
    | [] => if am_vo (am_rt mid) then ty_ret g C0 iv F none K else none
    | _ => none
  | .areturn => match st with
    | [.ref a] => if am_ro (am_rt mid) then ty_ret g C0 iv F (some (.ref a)) K else none
    | _ => none
  | .new x => match am_pc (am_oc mid) x with
    | some _ => none
    | none => match am_pe (am_oc mid) x with
      | some X => if Nat.ble 6 d.1 && (Nat.ble (am_wt st + 82) d.2 && (am_thr (am_code mid) pc && (am_hs mid).isEmpty)) then (match K with
          | [] => if C0.2.1.2.1.contains X then some [] else none
          | q :: K2 => ty_thr C0.2.1.2.1 iv F X q K2) else none
      | none => none
  | .invokevirtual x => ty_call g T C0 rank 0 iv F d mid pc L st K (am_pm (am_oc mid) x)
  | .invokespecial x => ty_call g T C0 rank 1 iv F d mid pc L st K (am_pm (am_oc mid) x)
  | .invokestatic x => ty_call g T C0 rank 2 iv F d mid pc L st K (am_pm (am_oc mid) x)
  | _ => none
def ty_nil : am_H → Bool
  | [] => true
  | _ => false
def ty_1 (g : List ty_X) (T : List ty_C) (C0 : ty_C) (rank : Nat) (S : ty_S) : Option (List ty_S) := match S with
  | (iv, F, (d, mid, pc, L, st), K) => match (if K.isEmpty && !(Nat.beq mid C0.1.1) then none else am_code mid pc) with
    | none => none
    | some i => match am_step mid pc L st [] i with
      | some (pc', L', st', h') => if ty_nil h' then some [(iv, F, (d, mid, pc', L', st'), K)] else none
      | none => ty_i g T C0 rank iv F d mid pc L st K i
/-- how many unknowns the start has -/
def ty_n0 (C : ty_C) : Nat := C.1.2.2.1.length + C.2.1.2.2.2.1.length
/-- is an unknown more (m = 1) or less (m = 2) than that of the start? -/
def ty_off (iv : List ty_B) (m j b : Nat) : Bool := match iv[j]? with
  | some e => if Nat.beq e.2.2.1 (b + 1) then (if Nat.beq m 1 then ty_le 1 e.2.2.2.1 else ty_le e.2.2.2.1 (-1)) else false
  | none => false
/-- is the measure less? (start: the unknown of local k is k, that of the asked index k is n + k) -/
def ty_cmp (iv : List ty_B) (F : ty_F) (L : List Value) (n : Nat) (P : List ty_P) : List (Nat × Nat) → List (Nat × Nat) → Bool
  | (0, a) :: r, (0, b) :: r' => if Nat.blt a b then true else if Nat.beq a b then ty_cmp iv F L n P r r' else false
  | (3, a) :: r, (3, b) :: r' => match P[a]? with
    | some q => match ty_Fget F q.1 (ty_ix q.2.1) with
      | some (.retAddr (j + 1)) => if Nat.beq j (n + b) then ty_cmp iv F L n P r r' else ty_off iv 1 j (n + b)
      | _ => false
    | none => false
  | (m, a) :: r, (m', b) :: r' => if Nat.beq m m' && (Nat.ble 1 m && Nat.ble m 2) then match L[a]? with
      | some (.retAddr (j + 1)) => if Nat.beq j b then ty_cmp iv F L n P r r' else ty_off iv m j b
      | _ => false
    else false
  | _, _ => false
def ty_veq (a b : ty_V) : Bool := Nat.beq a.1 b.1 && (decide (a.2.1 = b.2.1) && decide (a.2.2 = b.2.2))
def ty_vseq : List ty_V → List ty_V → Bool
  | [], [] => true
  | a :: r, b :: s => ty_veq a b && ty_vseq r s
  | _, _ => false
def ty_neq : List Nat → List Nat → Bool
  | [], [] => true
  | a :: r, b :: s => Nat.beq a b && ty_neq r s
  | _, _ => false
def ty_Peq : List ty_P → List ty_P → Bool
  | [], [] => true
  | a :: r, b :: s => Nat.beq a.1 b.1 && (Nat.beq a.2.1 b.2.1 && (decide (a.2.2.1 = b.2.2.1) && (decide (a.2.2.2 = b.2.2.2) && ty_Peq r s)))
  | _, _ => false
/-- the road comes to a loop's head that has a contract -/
def ty_cut (g : List ty_X) (C0 : ty_C) (S : ty_S) : List ty_C → Bool
  | [] => false
  | C :: T => (match S with
    | (iv, F, (d, mid, pc, L, st), K) => K.isEmpty && (st.isEmpty && ((am_hs mid).isEmpty && (Nat.beq C.1.1 mid && (Nat.beq C.1.2.1 pc && (Nat.beq C.1.2.2.1.length L.length && (ty_fits iv C.1.2.2.1 L && (Nat.ble C.1.2.2.2.1 d.1 && (Nat.ble C.1.2.2.2.2 d.2 && (ty_vseq C.2.1.1 C0.2.1.1 && (ty_neq C.2.1.2.1 C0.2.1.2.1 && (ty_sub C.2.1.2.2.1 C0.2.1.2.2.1 && (ty_pre g iv F C.2.1.2.2.2.1 && (ty_Peq C.2.1.2.2.2.2 C0.2.1.2.2.2.2 && ty_cmp iv F L C0.1.2.2.1.length C.2.1.2.2.2.1 C.2.2 C0.2.2)))))))))))))) || ty_cut g C0 S T
def ty_rank (C : ty_C) : Nat := match C.2.2 with
  | (0, n) :: _ => n
  | _ => 0
def ty_all (g : List ty_X) (T : List ty_C) (C0 : ty_C) : Nat → ty_S → Bool
  | 0, _ => false
  | n + 1, S => match ty_1 g T C0 (ty_rank C0) S with
    | none => false
    | some Ss => Ss.all (fun S' => ty_cut g C0 S' T || ty_all g T C0 n S')
/-- the locals of the start: each unknown bears its local's number -/
def ty_l0 : Nat → List ty_V → List Value
  | _, [] => []
  | k, s :: r => (match s.1 with
    | 0 => .retAddr (k + 1)
    | 1 => .ref s.2.1.toNat
    | 6 => .retAddr (k + 1)
    | 7 => .int (Int32.ofInt s.2.1)
    | _ => .retAddr 0) :: ty_l0 (k + 1) r
def ty_iv0 : List ty_V → List ty_B
  | [] => []
  | s :: r => (match s.1 with
    | 0 => (s.2.1, s.2.2, 0, 0, 4)
    | 6 => (s.2.1, s.2.2, 0, 0, 0)
    | _ => ty_full) :: ty_iv0 r
/-- the measure speaks of locals and of asked indices that there are -/
def ty_mok (n p : Nat) : List (Nat × Nat) → Bool
  | [] => true
  | q :: r => (if Nat.beq q.1 0 then Nat.blt q.2 4294967296 else if Nat.beq q.1 3 then Nat.blt q.2 p else Nat.blt q.2 n) && ty_mok n p r
def ty_ck (g : List ty_X) (T : List ty_C) (n : Nat) (C : ty_C) : Bool := ty_mok C.1.2.2.1.length C.2.1.2.2.2.1.length C.2.2 && 
  ty_all g T C n ((ty_posts C.2.1.2.2.2.1 (ty_iv0 C.1.2.2.1) []).1, (ty_posts C.2.1.2.2.2.1 (ty_iv0 C.1.2.2.1) []).2, (C.1.2.2.2, C.1.1, C.1.2.1, ty_l0 0 C.1.2.2.1, []), [])
