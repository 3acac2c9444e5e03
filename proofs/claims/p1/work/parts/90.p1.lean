/-! THE LAW'S RUNS: every script of at most 7 ints, by the kernel's own reckoning of all roads -/
def q1_vs (n : Nat) : List Value := (List.range n).map (fun k => Value.retAddr (k + 1))
def q1_c (n : Nat) : am_G := (((11, 452), 0, 0, .ref 0 :: List.replicate 6 (.retAddr 0), []), [(32, q1_vs n), (32, q1_vs n)], [])
def q1_iv (o : Int) : List (Int × Int) := [(-2147483648, 2147483647), (-2147483648, 2147483647), (-2147483648, 2147483647), (-2147483648, 2147483647), (-2147483648, 2147483647), (-2147483648, 2147483647), (-2147483648, 2147483647), (o, o)]
theorem q1_l0 : sx_all 500 [] (q1_c 0) = true := by decide +kernel
theorem q1_l1 : sx_all 500 [] (q1_c 1) = true := by decide +kernel
theorem q1_l2 : sx_all 500 [] (q1_c 2) = true := by decide +kernel
theorem q1_l3 : sx_all 500 [] (q1_c 3) = true := by decide +kernel
theorem q1_l4 : sx_all 500 [] (q1_c 4) = true := by decide +kernel
theorem q1_l5 : sx_all 500 [] (q1_c 5) = true := by decide +kernel
theorem q1_l6 : sx_all 500 [] (q1_c 6) = true := by decide +kernel
theorem q1_o0 : sx_all 1300 (q1_iv 0) (q1_c 7) = true := by decide +kernel
theorem q1_o1 : sx_all 1300 (q1_iv 1) (q1_c 7) = true := by decide +kernel
theorem q1_o2 : sx_all 1300 (q1_iv 2) (q1_c 7) = true := by decide +kernel
theorem q1_o3 : sx_all 1300 (q1_iv 3) (q1_c 7) = true := by decide +kernel
theorem q1_o4 : sx_all 5400 (q1_iv 4) (q1_c 7) = true := by decide +kernel
theorem q1_o5 : sx_all 5400 (q1_iv 5) (q1_c 7) = true := by decide +kernel
theorem q1_o6 : sx_all 1300 (q1_iv 6) (q1_c 7) = true := by decide +kernel
theorem q1_o7 : sx_all 1300 (q1_iv 7) (q1_c 7) = true := by decide +kernel
theorem q1_o8 : sx_all 11200 (q1_iv 8) (q1_c 7) = true := by decide +kernel
theorem q1_o9 : sx_all 1300 (q1_iv 9) (q1_c 7) = true := by decide +kernel
theorem q1_o10 : sx_all 1300 (q1_iv 10) (q1_c 7) = true := by decide +kernel
theorem q1_o11 : sx_all 1300 (q1_iv 11) (q1_c 7) = true := by decide +kernel
theorem q1_o12 : sx_all 1300 (q1_iv 12) (q1_c 7) = true := by decide +kernel
theorem q1_o13 : sx_all 1300 (q1_iv 13) (q1_c 7) = true := by decide +kernel
theorem q1_o14 : sx_all 1300 (q1_iv 14) (q1_c 7) = true := by decide +kernel
theorem q1_o15 : sx_all 1300 (q1_iv 15) (q1_c 7) = true := by decide +kernel
theorem q1_and (x : Int32) : 0 ≤ (x &&& 15).toInt ∧ (x &&& 15).toInt ≤ 15 := by
  have h : (x &&& 15).toBitVec.toNat ≤ 15 := by
    rw [Int32.toBitVec_and, BitVec.toNat_and]
    exact Nat.and_le_right
  have h2 : (x &&& 15).toInt = ((x &&& 15).toBitVec.toNat : Int) := by
    show (x &&& 15).toBitVec.toInt = _
    rw [BitVec.toInt_eq_toNat_cond, if_pos (by omega)]
  rw [h2]
  omega
def q1_s (xs : List Int32) (k : Nat) : Int32 := if k = 7 then xs.getD 0 0 &&& 15 else xs.getD k 0
theorem q1_map {xs : List Int32} (h : xs.length ≤ 7) : (q1_vs xs.length).map (sx_v (q1_s xs)) = xs.map Value.int := by
  unfold q1_vs
  rw [List.map_map]
  apply List.ext_getElem (by simp)
  intro k h1 h2
  have hk : k < xs.length := by simpa using h2
  have h7 : ¬ k = 7 := by omega
  simp [sx_v, q1_s, h7, hk]
theorem q1_in {xs : List Int32} {o : Int} (h : (xs.getD 0 0 &&& 15).toInt = o) : sx_in (q1_iv o) (q1_s xs) := by
  refine ⟨?_, rfl⟩
  have hb : ∀ x : Int32, (-2147483648 : Int) ≤ x.toInt ∧ x.toInt ≤ 2147483647 := fun x => ⟨Int32.le_toInt x, by have := Int32.toInt_lt x; omega⟩
  intro k lo hi hk
  match k, hk with
  | 0, hk => cases hk; exact hb _
  | 1, hk => cases hk; exact hb _
  | 2, hk => cases hk; exact hb _
  | 3, hk => cases hk; exact hb _
  | 4, hk => cases hk; exact hb _
  | 5, hk => cases hk; exact hb _
  | 6, hk => cases hk; exact hb _
  | 7, hk =>
    cases hk
    show o ≤ (xs.getD 0 0 &&& 15).toInt ∧ (xs.getD 0 0 &&& 15).toInt ≤ o
    omega
  | n + 8, hk => simp [q1_iv] at hk
theorem q1_go (xs : List Int32) (h : xs.length ≤ 7) : sx_goal (((11, 452), 0, 0, .ref 0 :: List.replicate 6 (.retAddr 0), []), [(32, xs.map Value.int), (32, xs.map Value.int)], []) := by
  have e : sx_g (q1_s xs) (q1_c xs.length) = (((11, 452), 0, 0, .ref 0 :: List.replicate 6 (.retAddr 0), []), [(32, xs.map Value.int), (32, xs.map Value.int)], []) := by
    have := q1_map h
    simp only [sx_g, sx_k, sx_c, q1_c, List.map_cons, List.map_nil, this]
    rfl
  rw [← e]
  have hn : sx_in [] (q1_s xs) := ⟨fun k lo hi hk => by simp at hk, rfl⟩
  rcases (show xs.length = 0 ∨ xs.length = 1 ∨ xs.length = 2 ∨ xs.length = 3 ∨ xs.length = 4 ∨ xs.length = 5 ∨ xs.length = 6 ∨ xs.length = 7 by omega) with q | q | q | q | q | q | q | q <;> rw [q]
  · exact sx_sound _ _ _ q1_l0 hn
  · exact sx_sound _ _ _ q1_l1 hn
  · exact sx_sound _ _ _ q1_l2 hn
  · exact sx_sound _ _ _ q1_l3 hn
  · exact sx_sound _ _ _ q1_l4 hn
  · exact sx_sound _ _ _ q1_l5 hn
  · exact sx_sound _ _ _ q1_l6 hn
  · have hb := q1_and (xs.getD 0 0)
    rcases (show (xs.getD 0 0 &&& 15).toInt = 0 ∨ (xs.getD 0 0 &&& 15).toInt = 1 ∨ (xs.getD 0 0 &&& 15).toInt = 2 ∨ (xs.getD 0 0 &&& 15).toInt = 3 ∨ (xs.getD 0 0 &&& 15).toInt = 4 ∨ (xs.getD 0 0 &&& 15).toInt = 5 ∨ (xs.getD 0 0 &&& 15).toInt = 6 ∨ (xs.getD 0 0 &&& 15).toInt = 7 ∨ (xs.getD 0 0 &&& 15).toInt = 8 ∨ (xs.getD 0 0 &&& 15).toInt = 9 ∨ (xs.getD 0 0 &&& 15).toInt = 10 ∨ (xs.getD 0 0 &&& 15).toInt = 11 ∨ (xs.getD 0 0 &&& 15).toInt = 12 ∨ (xs.getD 0 0 &&& 15).toInt = 13 ∨ (xs.getD 0 0 &&& 15).toInt = 14 ∨ (xs.getD 0 0 &&& 15).toInt = 15 by omega) with z | z | z | z | z | z | z | z | z | z | z | z | z | z | z | z
    · exact sx_sound _ _ _ q1_o0 (q1_in z)
    · exact sx_sound _ _ _ q1_o1 (q1_in z)
    · exact sx_sound _ _ _ q1_o2 (q1_in z)
    · exact sx_sound _ _ _ q1_o3 (q1_in z)
    · exact sx_sound _ _ _ q1_o4 (q1_in z)
    · exact sx_sound _ _ _ q1_o5 (q1_in z)
    · exact sx_sound _ _ _ q1_o6 (q1_in z)
    · exact sx_sound _ _ _ q1_o7 (q1_in z)
    · exact sx_sound _ _ _ q1_o8 (q1_in z)
    · exact sx_sound _ _ _ q1_o9 (q1_in z)
    · exact sx_sound _ _ _ q1_o10 (q1_in z)
    · exact sx_sound _ _ _ q1_o11 (q1_in z)
    · exact sx_sound _ _ _ q1_o12 (q1_in z)
    · exact sx_sound _ _ _ q1_o13 (q1_in z)
    · exact sx_sound _ _ _ q1_o14 (q1_in z)
    · exact sx_sound _ _ _ q1_o15 (q1_in z)
