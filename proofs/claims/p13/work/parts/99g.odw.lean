/-! order: a row is copied, step by step -/
section HOC
theorem od_on {a b : Nat} : Int32.ofNat a + Int32.ofNat b = Int32.ofNat (a + b) := (Int32.ofNat_add a b).symm
theorem od_mn {a b : Nat} : Int32.ofNat a * Int32.ofNat b = Int32.ofNat (a * b) := (Int32.ofNat_mul a b).symm
theorem od_w1 {d : Nat × Nat} {b n s w : Nat} (hb : b < 6) (hn : n < 8) (hs : s < 8) (hw : w < 4) {l5 l6 : Value} {h : am_H} {ms fs : List Value} (h64 : h[64]? = some (9, ms)) (hm3 : ms[3]? = some (.ref 67)) (h67 : h[67]? = some (32, fs)) (hfl : fs.length = 384) {x : Int32} (hx : fs[32 * b + 4 * s + w]? = some (.int x)) (R : am_O × am_H)
    (hR : am_Ev ((d, 170, 248, [.ref 64, .int (Int32.ofNat b), .int (Int32.ofNat n), .int (Int32.ofNat s), .int (Int32.ofNat (w + 1)), l5, l6], []), h.set 67 (32, fs.set (192 + 32 * b + 4 * n + w) (.int x)), []) R) :
    am_Ev ((d, 170, 248, [.ref 64, .int (Int32.ofNat b), .int (Int32.ofNat n), .int (Int32.ofNat s), .int (Int32.ofNat w), l5, l6], []), h, []) R := by
  have gf : ∀ (L st : List Value) (pc : Nat), am_step 170 pc L (.ref 64 :: st) h (.getfield 16) = some (pc + 3, L, .ref 67 :: st, h) := by
    intro L st pc
    have hp : am_pf (am_oc 170) 16 = some (9, 3) := rfl
    simp only [am_step, hp, h64]
    rw [if_pos (show Nat.beq 9 9 = true from rfl), hm3]
  have hcmp : ∀ (L st : List Value), am_step 170 251 L (.int (Int32.ofInt 4) :: .int (Int32.ofNat w) :: st) h (.if_icmp .ge 45) = some (254, L, st, h) := by
    intro L st
    simp only [am_step]
    rw [if_neg]
    rw [Int32.le_iff_toInt_le, Int32.toInt_ofNat_of_lt (by omega)]
    have : (Int32.ofInt 4).toInt = 4 := rfl
    rw [this]
    omega
  have e1 : (Int16.ofInt 192).toInt32 + (Int8.ofInt 32).toInt32 * Int32.ofNat b + Int32.ofInt 4 * Int32.ofNat n + Int32.ofNat w = Int32.ofNat (192 + 32 * b + 4 * n + w) := by
    have c1 : (Int16.ofInt 192).toInt32 = Int32.ofNat 192 := rfl
    have c2 : (Int8.ofInt 32).toInt32 = Int32.ofNat 32 := rfl
    have c3 : Int32.ofInt 4 = Int32.ofNat 4 := rfl
    rw [c1, c2, c3, od_mn, od_mn, od_on, od_on, od_on]
  have e2 : (Int8.ofInt 32).toInt32 * Int32.ofNat b + Int32.ofInt 4 * Int32.ofNat s + Int32.ofNat w = Int32.ofNat (32 * b + 4 * s + w) := by
    have c2 : (Int8.ofInt 32).toInt32 = Int32.ofNat 32 := rfl
    have c3 : Int32.ofInt 4 = Int32.ofNat 4 := rfl
    rw [c2, c3, od_mn, od_mn, od_on, od_on]
  have n1 := ty_ixn (k := 192 + 32 * b + 4 * n + w) (by omega)
  have n2 := ty_ixn (k := 32 * b + 4 * s + w) (by omega)
  refine am_sm_ev (sx_sm_step (i := .iload 4) rfl rfl) ?_
  refine am_sm_ev (sx_sm_step (i := .iconst 4) rfl rfl) ?_
  refine am_sm_ev (sx_sm_step (i := .if_icmp .ge 45) rfl (hcmp _ _)) ?_
  refine am_sm_ev (sx_sm_step (i := .aload_n 0) rfl rfl) ?_
  refine am_sm_ev (sx_sm_step (i := .getfield 16) rfl (gf _ _ _)) ?_
  refine am_sm_ev (sx_sm_step (i := .sipush 192) rfl rfl) ?_
  refine am_sm_ev (sx_sm_step (i := .bipush 32) rfl rfl) ?_
  refine am_sm_ev (sx_sm_step (i := .iload_n 1) rfl rfl) ?_
  refine am_sm_ev (sx_sm_step (i := .imul) rfl rfl) ?_
  refine am_sm_ev (sx_sm_step (i := .iadd) rfl rfl) ?_
  refine am_sm_ev (sx_sm_step (i := .iconst 4) rfl rfl) ?_
  refine am_sm_ev (sx_sm_step (i := .iload_n 2) rfl rfl) ?_
  refine am_sm_ev (sx_sm_step (i := .imul) rfl rfl) ?_
  refine am_sm_ev (sx_sm_step (i := .iadd) rfl rfl) ?_
  refine am_sm_ev (sx_sm_step (i := .iload 4) rfl rfl) ?_
  refine am_sm_ev (sx_sm_step (i := .iadd) rfl rfl) ?_
  rw [e1]
  refine am_sm_ev (sx_sm_step (i := .aload_n 0) rfl rfl) ?_
  refine am_sm_ev (sx_sm_step (i := .getfield 16) rfl (gf _ _ _)) ?_
  refine am_sm_ev (sx_sm_step (i := .bipush 32) rfl rfl) ?_
  refine am_sm_ev (sx_sm_step (i := .iload_n 1) rfl rfl) ?_
  refine am_sm_ev (sx_sm_step (i := .imul) rfl rfl) ?_
  refine am_sm_ev (sx_sm_step (i := .iconst 4) rfl rfl) ?_
  refine am_sm_ev (sx_sm_step (i := .iload_n 3) rfl rfl) ?_
  refine am_sm_ev (sx_sm_step (i := .imul) rfl rfl) ?_
  refine am_sm_ev (sx_sm_step (i := .iadd) rfl rfl) ?_
  refine am_sm_ev (sx_sm_step (i := .iload 4) rfl rfl) ?_
  refine am_sm_ev (sx_sm_step (i := .iadd) rfl rfl) ?_
  rw [e2]
  have hld : ∀ (L st : List Value), am_step 170 288 L (.int (Int32.ofNat (32 * b + 4 * s + w)) :: .ref 67 :: st) h .iaload = some (289, L, .int x :: st, h) := by
    intro L st
    simp only [am_step, am_ald, h67]
    rw [if_pos (show Nat.beq 32 (32 + 0) = true from rfl), if_neg (ty_nn n2.2), n2.1, hx]
  have hst : ∀ (L st : List Value), am_step 170 289 L (.int x :: .int (Int32.ofNat (192 + 32 * b + 4 * n + w)) :: .ref 67 :: st) h .iastore = some (290, L, st, h.set 67 (32, fs.set (192 + 32 * b + 4 * n + w) (.int x))) := by
    intro L st
    simp only [am_step, am_ast, h67]
    rw [if_pos (show (Nat.beq 32 (32 + 0) && Nat.ble 2 67) = true from rfl), if_neg (ty_nn n1.2), n1.1, if_pos (by rw [Nat.blt_eq, hfl]; omega)]
  refine am_sm_ev (sx_sm_step (i := .iaload) rfl (hld _ _)) ?_
  refine am_sm_ev (sx_sm_step (i := .iastore) rfl (hst _ _)) ?_
  refine am_sm_ev (sx_sm_step (i := .iinc 4 1) rfl rfl) ?_
  refine am_sm_ev (sx_sm_step (i := .goto (-45)) rfl rfl) ?_
  have e3 : Int32.ofNat w + Int32.ofInt 1 = Int32.ofNat (w + 1) := by
    have c3 : Int32.ofInt 1 = Int32.ofNat 1 := rfl
    rw [c3, od_on]
  show am_Ev ((d, 170, 248, [.ref 64, .int (Int32.ofNat b), .int (Int32.ofNat n), .int (Int32.ofNat s), .int (Int32.ofNat w + Int32.ofInt 1), l5, l6], []), h.set 67 (32, fs.set (192 + 32 * b + 4 * n + w) (.int x)), []) R
  rw [e3]
  exact hR
/-- the whole row -/
theorem od_w4 {d : Nat × Nat} {b n s : Nat} (hb : b < 6) (hn : n < 8) (hs : s < 8) {l4 l5 l6 : Value} {h : am_H} {ms fs : List Value} (h64 : h[64]? = some (9, ms)) (hm3 : ms[3]? = some (.ref 67)) (h67 : h[67]? = some (32, fs)) (hfl : fs.length = 384) {x0 x1 x2 x3 : Int32} (y0 : fs[32 * b + 4 * s]? = some (.int x0)) (y1 : fs[32 * b + 4 * s + 1]? = some (.int x1)) (y2 : fs[32 * b + 4 * s + 2]? = some (.int x2)) (y3 : fs[32 * b + 4 * s + 3]? = some (.int x3)) (R : am_O × am_H)
    (hR : am_Ev ((d, 170, 110, [.ref 64, .int (Int32.ofNat b), .int (Int32.ofNat (n + 1)), .int (Int32.ofNat s), .int (Int32.ofNat 4), l5, l6], []), h.set 67 (32, (((fs.set (192 + 32 * b + 4 * n) (.int x0)).set (192 + 32 * b + 4 * n + 1) (.int x1)).set (192 + 32 * b + 4 * n + 2) (.int x2)).set (192 + 32 * b + 4 * n + 3) (.int x3)), []) R) :
    am_Ev ((d, 170, 245, [.ref 64, .int (Int32.ofNat b), .int (Int32.ofNat n), .int (Int32.ofNat s), l4, l5, l6], []), h, []) R := by
  have hl67 : 67 < h.length := (List.getElem?_eq_some_iff.mp h67).1
  refine am_sm_ev (sx_sm_step (i := .iconst 0) rfl rfl) ?_
  refine am_sm_ev (sx_sm_step (i := .istore 4) rfl rfl) ?_
  have g64 : ∀ y : am_C, (h.set 67 y)[64]? = some (9, ms) := fun y => by rw [List.getElem?_set_ne (by decide)]; exact h64
  have g67 : ∀ y : am_C, (h.set 67 y)[67]? = some y := fun y => List.getElem?_set_self hl67
  have st : ∀ (f : List Value) (w : Nat) (x : Int32) (k : Nat) (v : Value), k < 192 → f[k]? = some v → (f.set (192 + 32 * b + 4 * n + w) (.int x))[k]? = some v := fun f w x k v hk hv => by rw [List.getElem?_set_ne (by omega)]; exact hv
  have ss : ∀ y z : am_C, (h.set 67 y).set 67 z = h.set 67 z := fun y z => List.set_set ..
  refine od_w1 hb hn hs (w := 0) (by omega) h64 hm3 h67 hfl (by rw [Nat.add_zero]; exact y0) R ?_
  refine od_w1 hb hn hs (w := 1) (by omega) (g64 _) hm3 (g67 _) (by rw [List.length_set]; exact hfl) (st _ _ _ _ _ (by omega) y1) R ?_
  rw [ss]
  refine od_w1 hb hn hs (w := 2) (by omega) (g64 _) hm3 (g67 _) (by rw [List.length_set, List.length_set]; exact hfl) (st _ _ _ _ _ (by omega) (st _ _ _ _ _ (by omega) y2)) R ?_
  rw [ss]
  refine od_w1 hb hn hs (w := 3) (by omega) (g64 _) hm3 (g67 _) (by rw [List.length_set, List.length_set, List.length_set]; exact hfl) (st _ _ _ _ _ (by omega) (st _ _ _ _ _ (by omega) (st _ _ _ _ _ (by omega) y3))) R ?_
  rw [ss]
  refine am_sm_ev (sx_sm_step (i := .iload 4) rfl rfl) ?_
  refine am_sm_ev (sx_sm_step (i := .iconst 4) rfl rfl) ?_
  refine am_sm_ev (sx_sm_step (i := .if_icmp .ge 45) rfl rfl) ?_
  refine am_sm_ev (sx_sm_step (i := .iinc 2 1) rfl rfl) ?_
  refine am_sm_ev (sx_sm_step (i := .goto (-189)) rfl rfl) ?_
  have e3 : Int32.ofNat n + Int32.ofInt 1 = Int32.ofNat (n + 1) := by
    have c3 : Int32.ofInt 1 = Int32.ofNat 1 := rfl
    rw [c3, od_on]
  show am_Ev ((d, 170, 110, [.ref 64, .int (Int32.ofNat b), .int (Int32.ofNat n + Int32.ofInt 1), .int (Int32.ofNat s), .int (Int32.ofNat 4), l5, l6], []), _, []) R
  rw [e3]
  exact hR
end HOC
