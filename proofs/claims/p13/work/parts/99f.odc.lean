/-! order: the roads between its heads, for every block and length -/
section HOB
def od_J : ty_V := (3, 0, 0)
def od_I : ty_V := (0, -2147483648, 2147483647)
def od_C (b len pc : Nat) (Ls : List ty_V) (ms : List Nat) : ty_C := ((170, pc, (1, 64, 0) :: (7, b, 0) :: Ls, (4, 100)), ([], [], ms, [(66, b, len, len)], [(0, 0, 2, 0)]), [])
def od_D (b pc : Nat) (Ls : List ty_V) : ty_C := ((170, pc, (1, 64, 0) :: (7, b, 0) :: Ls, (4, 100)), ([], [], [], [], [(0, 0, 2, 0)]), [])
def od_T : List ty_C := [tc_259]
def od_hd (b pc : Nat) (r : List (List ty_V)) : ty_S → Bool := ho_hd 170 pc 4 100 ([(1, 64, 0)] :: [(7, b, 0)] :: r)
def od_fr (b pc : Nat) (r : List (List ty_V)) : ty_S → Bool := ho_fr 170 pc 4 100 ([(1, 64, 0)] :: [(7, b, 0)] :: r)
def od1 (b len : Nat) : Bool := ty_sg tc_g [] (od_C b len 0 [od_J, od_J, od_J, od_J, od_J] []) (ho_pc 9) (od_hd b 9 [[(0, (len : Int) - 1, (len : Int) - 1)], [], [], [], []]) 30 (ty_S0 (od_C b len 0 [od_J, od_J, od_J, od_J, od_J] []))
def od2 (b len : Nat) : Bool := ty_sg tc_g [] (od_C b len 9 [(0, 0, (len : Int) - 1), od_J, od_J, od_J, od_J] []) (ho_pc 20) (od_hd b 20 [[(8, 3, 0)], [od_I], [(8, 3, 1)], [], []]) 30 (ty_S0 (od_C b len 9 [(0, 0, (len : Int) - 1), od_J, od_J, od_J, od_J] []))
def od2e (b len : Nat) : Bool := ty_sg tc_g [] (od_C b len 9 [(7, -1, 0), od_J, od_J, od_J, od_J] []) (ho_pc 110) (od_hd b 110 [[(7, 0, 0)], [], [], [], []]) 30 (ty_S0 (od_C b len 9 [(7, -1, 0), od_J, od_J, od_J, od_J] []))
def od_st (v j : ty_V) (S : ty_S) : Bool := match S.2.2.1.2.2.2.2 with
  | a :: c :: _ => ho_q S.1 a v && ho_q S.1 c j
  | _ => false
def od3C (b len : Nat) : ty_C := od_C b len 20 [(0, 0, (len : Int) - 1), od_I, (0, 1, len), od_J, od_J] [88]
def od3 (b len : Nat) : Bool := ty_sg tc_g od_T (od3C b len) (fun S => ho_pc 20 S || ty_bef 170 101 89 S) (fun S => if ty_bef 170 101 89 S then ty_sok 89 8 S && (od_st (7, 0, 0) (8, 3, 0) S && (od_fr b 101 [[], [], [], [], []] S && ty_sg tc_g [] (od3C b len) (ho_pc 9) (od_hd b 9 [[(8, 3, -1)], [], [], [], []]) 10 (ty_aft S))) else od_hd b 20 [[(8, 3, 0)], [od_I], [(8, 5, 1), (0, 1, len)], [], []] S) 100 (ty_S0 (od3C b len))
def od5C (b len : Nat) : ty_C := od_C b len 110 [(0, 0, (len : Int) - 1), od_J, od_J, od_J, od_J] []
def od5 (b len : Nat) : Bool := ty_sg tc_g [] (od5C b len) (ho_pc 125) (od_hd b 125 [[(8, 3, 0)], [(7, -1, 0)], [(7, 0, 0)], [], []]) 30 (ty_S0 (od5C b len))
def od5e (b len : Nat) : ty_C := ((170, 110, [(1, 64, 0), (7, b, 0), (7, len, 0), od_J, od_J, od_J, od_J], (4, 100)), ([], [], [], [(66, b, len, len)], []), [(0, 1)])
def od6C (b len : Nat) : ty_C := od_C b len 125 [(0, 0, (len : Int) - 1), (0, -1, 7), (0, 0, (len : Int) - 1), od_J, od_J] []
def od6f (S : ty_S) : Bool := match S.2.2.1.2.2.2.1[5]?, ty_Fget S.2.1 89 (.retAddr 5) with
  | some r, some u => (ty_fit S.1 (7, 1, 0) r && ty_fit S.1 (7, 0, 0) u) || (ty_fit S.1 (7, 0, 0) r && ty_fit S.1 (7, 1, 0) u)
  | _, _ => false
def od6 (b len : Nat) : Bool := ty_sg tc_g [] (od6C b len) (ho_pc 156) (fun S => od_hd b 156 [[(8, 3, 0)], [(8, 4, 0)], [(8, 5, 0)], [(0, 0, 1)], [(7, 0, 0)]] S && od6f S) 40 (ty_S0 (od6C b len))
def od6D (b len : Nat) : ty_C := od_C b len 125 [(0, 0, (len : Int) - 1), (0, 0, 7), (7, len, 0), od_J, od_J] []
def od6e (b len : Nat) : Bool := ty_sg tc_g [] (od6D b len) (ty_bef 170 244 89) (fun S => ty_sok 89 8 S && (od_st (7, 1, 0) (8, 4, 0) S && od_hd b 245 [[(8, 3, 0)], [(8, 4, 0)], [], [], []] (ty_aft S))) 40 (ty_S0 (od6D b len))
def od7C (b i r : Nat) : ty_C := od_D b 156 [(0, 0, 7), (0, -1, 7), (7, i, 0), (7, r, 0), (0, 0, 7)]
def od7f (S : ty_S) : Bool := match S.2.2.1.2.2.2.1[5]? with
  | some r => ty_fit S.1 (7, 1, 0) r || (ty_fit S.1 (7, 0, 0) r && (match ty_Fget S.2.1 89 (.retAddr 7) with
    | some u => ty_fit S.1 (7, 0, 0) u
    | none => false))
  | none => false
def od7g (i : Nat) (S : ty_S) : Bool := match S.2.2.1.2.2.2.1[3]? with
  | some v => ty_fit S.1 (7, i, 0) v || (ho_q S.1 v (8, 4, 0) && ty_fit S.1 (0, 0, 7) v)
  | none => false
def od7 (b i : Nat) : Bool := ty_sg tc_g od_T (od7C b i 1) (fun S => ho_pc 156 S || ho_pc 125 S) (fun S => if ho_pc 156 S then od_hd b 156 [[(8, 3, 0)], [(8, 4, 0)], [(7, i, 0)], [(0, 0, 1)], [(8, 7, 1), (0, 1, i)]] S && od7f S else od_hd b 125 [[(8, 3, 0)], [(0, -1, 7)], [(7, (i : Int) + 1, 0)], [], [(8, 7, 0), (0, i, 7)]] S && od7g i S) 100 (ty_S0 (od7C b i 1))
def od7z (b i : Nat) : Bool := ty_sg tc_g od_T (od7C b i 0) (fun S => ho_pc 156 S || ho_pc 125 S) (fun S => if ho_pc 156 S then od_hd b 156 [[(8, 3, 0)], [(8, 4, 0)], [(7, i, 0)], [(7, 0, 0)], [(8, 7, 1), (0, 1, i)]] S else od_hd b 125 [[(8, 3, 0)], [(8, 4, 0)], [(7, (i : Int) + 1, 0)], [], [(8, 7, 0), (0, i, 7)]] S) 100 (ty_S0 (od7C b i 0))
set_option maxRecDepth 100000 in
theorem od1_ok : (List.range 6).all (fun b => (List.range 9).all (fun l => od1 b l)) = true := by decide +kernel
set_option maxRecDepth 100000 in
theorem od2_ok : (List.range 6).all (fun b => (List.range 8).all (fun l => od2 b (l + 1))) = true := by decide +kernel
set_option maxRecDepth 100000 in
theorem od2e_ok : (List.range 6).all (fun b => (List.range 9).all (fun l => od2e b l)) = true := by decide +kernel
set_option maxRecDepth 100000 in
theorem od3_ok : (List.range 6).all (fun b => (List.range 8).all (fun l => od3 b (l + 1))) = true := by decide +kernel
set_option maxRecDepth 100000 in
theorem od5_ok : (List.range 6).all (fun b => (List.range 8).all (fun l => od5 b (l + 1))) = true := by decide +kernel
set_option maxRecDepth 100000 in
theorem od5e_ok : (List.range 6).all (fun b => (List.range 9).all (fun l => ty_ck tc_g [] 30 (od5e b l))) = true := by decide +kernel
set_option maxRecDepth 100000 in
theorem od6_ok : (List.range 6).all (fun b => (List.range 8).all (fun l => od6 b (l + 1))) = true := by decide +kernel
set_option maxRecDepth 100000 in
theorem od6e_ok : (List.range 6).all (fun b => (List.range 8).all (fun l => od6e b (l + 1))) = true := by decide +kernel
set_option maxRecDepth 100000 in
theorem od7_ok : (List.range 6).all (fun b => (List.range 8).all (fun i => od7 b i)) = true := by decide +kernel
set_option maxRecDepth 100000 in
theorem od7z_ok : (List.range 6).all (fun b => (List.range 8).all (fun i => od7z b i)) = true := by decide +kernel
end HOB
