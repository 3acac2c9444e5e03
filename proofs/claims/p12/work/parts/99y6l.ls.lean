/-! the machine: both sides, step by step -/
section DK
variable {v w v0 : vm_V} {x : vm_Y}
theorem is_reg {n : Nat} (h : n < 6) : c_isReg v (Int32.ofNat n) = 1 := by
  unfold c_isReg
  rw [if_neg (nn_n0 (by omega)), if_neg (show ¬ (6 : Int32) ≤ Int32.ofNat n from nl (k := 6) (by omega) (by omega) h)]
theorem mval_n {n : Nat} (h : n < 6) : c_mval v (Int32.ofNat n) = v.1 62 n := by
  unfold c_mval
  rw [is_reg h, if_neg i10, nn_nat (by omega)]
theorem mput_n {n : Nat} {z : Int32} (h : n < 6) : c_mput v (Int32.ofNat n) z = vm_si v 62 n z := by
  unfold c_mput
  rw [is_reg h, if_neg i10, nn_nat (by omega)]
def xB (A : Int32) : Int32 := if A < 0 then 0 else if 8 ≤ A then 0 else 1
theorem xB_w (A : Int32) : c_isWord v A = xB A := rfl
theorem xB_out (A : Int32) : r_outside w A 8 = 0 ↔ ¬ xB A = 0 := by
  unfold r_outside xB
  by_cases h : A < 0
  · rw [if_pos h, if_pos h]
    exact ⟨fun q => absurd q i10, fun q => absurd rfl q⟩
  · rw [if_neg h, if_neg h]
    by_cases h8 : A < 8
    · rw [if_pos h8, if_neg (Int32.not_le.mpr h8)]
      exact ⟨fun _ => i10, fun _ => rfl⟩
    · rw [if_neg h8, if_pos (Int32.not_lt.mp h8)]
      exact ⟨fun q => absurd q i10, fun q => absurd rfl q⟩
theorem xB_n {A : Int32} (h : ¬ xB A = 0) : ∃ n : Nat, n < 8 ∧ A = Int32.ofNat n := (out_nat (w := ((fun _ _ => 0, fun _ _ => 0, 0, fun _ => 0) : vm_V)) (l := 8) (by omega)).mp ((xB_out A).mpr h)
def xC (o a b : Int32) : Int32 := if o = 2 then a + b else if o = 3 then a - b else if o = 4 then a * b else if o = 5 then a &&& b else if o = 6 then if b ≤ a then 0 else 1 else if o = 7 then if b = 0 then 0 else a / b else 0
theorem xC_c (o a b : Int32) : c_calc v o a b = xC o a b := rfl
def xT (o A B : Int32) : Int32 := if o = 7 then if B = 0 then 2 else 0 else if o = 8 then if xB A = 0 then 3 else 0 else if o = 9 then if xB A = 0 then 4 else 0 else 0
def xW (G M : Nat) (v : vm_V) (o : Int32) (d : Nat) (y A B : Int32) : vm_V := if o = 0 then vm_si v G d y else if o = 1 then vm_si v G d A else if o = 8 then vm_si v G d (v.1 M A.toNatClampNeg) else if o = 9 then vm_si v M A.toNatClampNeg B else vm_si v G d (xC o A B)
theorem xT_c {o A B : Int32} : c_trap v o A B = xT o A B := by
  unfold c_trap xT c_divZero
  simp only [xB_w]
  by_cases h7 : o = 7
  · subst h7
    by_cases hb : B = 0
    · simp +decide [hb]
    · simp +decide [hb]
  · by_cases h8 : o = 8
    · subst h8
      by_cases ha : xB A = 0
      · simp +decide [ha]
      · simp +decide [ha]
    · by_cases h9 : o = 9
      · subst h9
        by_cases ha : xB A = 0
        · simp +decide [ha]
        · simp +decide [ha]
      · simp +decide [h7, h8, h9]
theorem xT_p {o A B : Int32} (h : ¬ xT o A B = 0) : ¬ xT o A B ≤ 0 := by
  unfold xT at h ⊢
  repeat' split at h
  all_goals first
    | exact absurd rfl h
    | skip
  all_goals simp +decide [*]
theorem xT_b {o A B C : Int32} (h : o = 0 ∨ o = 1 ∨ o = 8) : xT o A B = xT o A C := by
  unfold xT
  rcases h with rfl | rfl | rfl <;> simp +decide
theorem xW_b {G M d : Nat} {o y A B C : Int32} (h : o = 0 ∨ o = 1 ∨ o = 8) : xW G M v o d y A B = xW G M v o d y A C := by
  unfold xW
  rcases h with rfl | rfl | rfl <;> simp +decide
def c_adv (u : vm_V) : vm_V := vm_si (vm_si u 61 3 ((u.1 61 3) + 1)) 61 4 (((vm_si u 61 3 ((u.1 61 3) + 1)).1 61 4) + 1)
theorem dc_x {p d a : Nat} {o y : Int32} (h0 : c_codeAt v p (v.1 61 2) (v.1 61 3) 0 = o) (h1 : c_codeAt v p (v.1 61 2) (v.1 61 3) 1 = Int32.ofNat d) (h2 : c_codeAt v p (v.1 61 2) (v.1 61 3) 2 = Int32.ofNat a) (h3 : c_codeAt v p (v.1 61 2) (v.1 61 3) 3 = y) (hd : d < 6) (ha : a < 6) : c_doCode v p = if xT o (v.1 62 a) (c_mval v y) = 0 then vr 0 (c_adv (xW 62 63 v o d y (v.1 62 a) (c_mval v y))) else vr (xT o (v.1 62 a) (c_mval v y)) v := by
  unfold c_doCode
  simp only [h0, h1, h2, h3, mval_n ha, mput_n hd, xT_c, xC_c]
  generalize v.1 62 a = A
  generalize c_mval v y = B
  by_cases hT : xT o A B = 0
  · rw [if_pos hT, if_pos hT]
    unfold xW c_adv
    by_cases e0 : o = 0
    · simp only [if_pos e0]
    · simp only [if_neg e0]
      by_cases e1 : o = 1
      · simp only [if_pos e1]
      · simp only [if_neg e1]
        by_cases e8 : o = 8
        · have hw : ¬ xB A = 0 := fun z => by
            rw [e8] at hT
            unfold xT at hT
            rw [if_neg (by decide), if_pos rfl, if_pos z] at hT
            exact absurd hT (by decide)
          have e : c_word v A = v.1 63 A.toNatClampNeg := by
            unfold c_word
            rw [xB_w, if_neg hw]
          simp only [if_pos e8, e]
        · simp only [if_neg e8]
          by_cases e9 : o = 9
          · have hw : ¬ xB A = 0 := fun z => by
              rw [e9] at hT
              unfold xT at hT
              rw [if_neg (by decide), if_neg (by decide), if_pos rfl, if_pos z] at hT
              exact absurd hT (by decide)
            have e : c_mstore v A B = vm_si v 63 A.toNatClampNeg B := by
              unfold c_mstore
              rw [xB_w, if_neg hw]
            simp only [if_pos e9, e]
          · simp only [if_neg e9]
  · rw [if_neg hT, if_neg hT]
theorem ex_x {q d a : Nat} {o y : Int32} (hq : q + 3 < 1000) (h0 : w.1 67 q = o) (h1 : w.1 67 (q + 1) = Int32.ofNat d) (h2 : w.1 67 (q + 2) = Int32.ofNat a) (h3 : w.1 67 (q + 3) = y) (hd : d < 6) (ha : a < 6) (ho : o = 0 ∨ o = 1 ∨ o = 2 ∨ o = 3 ∨ o = 4 ∨ o = 5 ∨ o = 6 ∨ o = 7 ∨ o = 8 ∨ o = 9) : r_exY w (Int32.ofNat q) = if xT o (w.1 90 a) (if r_readsB w o = 0 then 0 else w.1 90 y.toNatClampNeg) = 0 then vr 0 (xW 90 91 w o d y (w.1 90 a) (if r_readsB w o = 0 then 0 else w.1 90 y.toNatClampNeg)) else vr (xT o (w.1 90 a) (if r_readsB w o = 0 then 0 else w.1 90 y.toNatClampNeg)) w := by
  have n0 : (Int32.ofNat q).toNatClampNeg = q := nn_nat (by omega)
  have n1 : (Int32.ofNat q + 1).toNatClampNeg = q + 1 := by rw [nn_s, nn_nat (by omega)]
  have n2 : (Int32.ofNat q + 2).toNatClampNeg = q + 2 := by rw [show (2 : Int32) = Int32.ofNat 2 from rfl, nn_add, nn_nat (by omega)]
  have n3 : (Int32.ofNat q + 3).toNatClampNeg = q + 3 := by rw [show (3 : Int32) = Int32.ofNat 3 from rfl, nn_add, nn_nat (by omega)]
  have nd : (Int32.ofNat d).toNatClampNeg = d := nn_nat (by omega)
  have na : (Int32.ofNat a).toNatClampNeg = a := nn_nat (by omega)
  unfold r_exY
  rw [n0, h0]
  rcases ho with rfl | rfl | rfl | rfl | rfl | rfl | rfl | rfl | rfl | rfl
  · simp +decide only [reduceIte, r_ex0, n1, n3, h1, h3, nd, xT, xW]
  · simp +decide only [reduceIte, r_ex1, n1, n2, n3, h1, h2, h3, nd, na, r_rk1, r_readsB, xT, xW]
  · simp +decide only [reduceIte, r_ex2, n1, n2, n3, h1, h2, h3, nd, na, r_rk2, r_readsB, xT, xW, xC]
  · simp +decide only [reduceIte, r_ex3, n1, n2, n3, h1, h2, h3, nd, na, r_rk3, r_readsB, xT, xW, xC]
  · simp +decide only [reduceIte, r_ex4, n1, n2, n3, h1, h2, h3, nd, na, r_rk4, r_readsB, xT, xW, xC]
  · simp +decide only [reduceIte, r_ex5, n1, n2, n3, h1, h2, h3, nd, na, r_rk5, r_readsB, xT, xW, xC]
  · simp +decide only [reduceIte, r_ex6, n1, n2, n3, h1, h2, h3, nd, na, r_rk6, r_readsB, xT, xW, xC]
  · simp +decide only [reduceIte, r_ex7b, n1, n2, n3, h1, h2, h3, nd, na, r_rk7, r_readsB, xT, xW, xC]
    by_cases hB : w.1 90 y.toNatClampNeg = 0
    · simp +decide [hB]
    · simp +decide [hB]
  · simp +decide only [reduceIte, r_ex8, n1, n2, n3, h1, h2, h3, nd, na, xT, xW]
    by_cases hB : xB (w.1 90 a) = 0
    · rw [if_neg (fun z => (xB_out _).mp z hB)]
      simp +decide [hB]
    · rw [if_pos ((xB_out _).mpr hB)]
      simp +decide [hB]
  · simp +decide only [reduceIte, r_ex9, n1, n2, n3, h1, h2, h3, nd, na, r_readsB, xT, xW]
    by_cases hB : xB (w.1 90 a) = 0
    · rw [if_neg (fun z => (xB_out _).mp z hB)]
      simp +decide [hB]
    · rw [if_pos ((xB_out _).mpr hB)]
      simp +decide [hB]
/-- registers and words are the same -/
def xS (v w : vm_V) : Prop := (∀ r : Nat, r < 6 → v.1 62 r = w.1 90 r) ∧ ∀ a : Nat, a < 8 → v.1 63 a = w.1 91 a
theorem xW_o {G M d q j : Nat} {o y A B : Int32} (h1 : q ≠ G) (h2 : q ≠ M) : (xW G M v o d y A B).1 q j = v.1 q j := by
  unfold xW
  repeat' split
  all_goals rw [vm_si1b, if_neg (fun z => by omega)]
theorem xW_2 {G M d : Nat} {o y A B : Int32} : (xW G M v o d y A B).2 = v.2 := by
  unfold xW
  repeat' split
  all_goals rfl
theorem xW_s {d : Nat} {o y A B : Int32} (hd : d < 6) (hT : xT o A B = 0) (h : xS v w) : xS (xW 62 63 v o d y A B) (xW 90 91 w o d y A B) := by
  have pg : ∀ z : Int32, xS (vm_si v 62 d z) (vm_si w 90 d z) := fun z => by
    refine ⟨fun r hr => ?_, fun a ha => ?_⟩
    · rw [vm_si1b, vm_si1b]
      by_cases e : r = d
      · rw [if_pos ⟨rfl, e⟩, if_pos ⟨rfl, e⟩]
      · rw [if_neg (fun q => e q.2), if_neg (fun q => e q.2)]
        exact h.1 r hr
    · rw [vm_si1b, if_neg (by omega), vm_si1b, if_neg (by omega)]
      exact h.2 a ha
  have pm : ∀ (k : Nat) (z : Int32), xS (vm_si v 63 k z) (vm_si w 91 k z) := fun k z => by
    refine ⟨fun r hr => ?_, fun a ha => ?_⟩
    · rw [vm_si1b, if_neg (by omega), vm_si1b, if_neg (by omega)]
      exact h.1 r hr
    · rw [vm_si1b, vm_si1b]
      by_cases e : a = k
      · rw [if_pos ⟨rfl, e⟩, if_pos ⟨rfl, e⟩]
      · rw [if_neg (fun q => e q.2), if_neg (fun q => e q.2)]
        exact h.2 a ha
  unfold xW
  by_cases e0 : o = 0
  · rw [if_pos e0, if_pos e0]
    exact pg _
  · rw [if_neg e0, if_neg e0]
    by_cases e1 : o = 1
    · rw [if_pos e1, if_pos e1]
      exact pg _
    · rw [if_neg e1, if_neg e1]
      by_cases e8 : o = 8
      · rw [if_pos e8, if_pos e8]
        have hw : ¬ xB A = 0 := fun z => by
          rw [e8] at hT
          unfold xT at hT
          rw [if_neg (by decide), if_pos rfl, if_pos z] at hT
          exact absurd hT (by decide)
        obtain ⟨n, n1, rfl⟩ := xB_n hw
        rw [nn_nat (by omega), h.2 n n1]
        exact pg _
      · rw [if_neg e8, if_neg e8]
        by_cases e9 : o = 9
        · rw [if_pos e9, if_pos e9]
          exact pm _ _
        · rw [if_neg e9, if_neg e9]
          exact pg _
/-- the program that is run, on both sides -/
def prD (p P c : Nat) (u : vm_V) : Prop := c ≤ 6 ∧ u.1 p 3 = Int32.ofNat c ∧ u.1 65 P = Int32.ofNat c ∧ (∀ b : Nat, b < 6 → ∃ n : Nat, n ≤ 8 ∧ u.1 (p + 3) b = Int32.ofNat n ∧ u.1 66 (6 * P + b) = Int32.ofNat n) ∧ (∀ k : Nat, k < 192 → u.1 (p + 1) k = u.1 67 (192 * P + k)) ∧ (∀ k : Nat, k < 24 → u.1 (p + 2) k = u.1 68 (24 * P + k)) ∧ (∀ k : Nat, k < 48 → ∃ o d a : Nat, o < 10 ∧ d < 6 ∧ a < 6 ∧ u.1 67 (192 * P + 4 * k) = Int32.ofNat o ∧ u.1 67 (192 * P + 4 * k + 1) = Int32.ofNat d ∧ u.1 67 (192 * P + 4 * k + 2) = Int32.ofNat a ∧ (o ≠ 0 → ∃ y : Nat, y < 6 ∧ u.1 67 (192 * P + 4 * k + 3) = Int32.ofNat y)) ∧ ∀ b : Nat, b < 6 → ∃ k a s t : Nat, k < 3 ∧ a < 6 ∧ s < 6 ∧ t < 6 ∧ u.1 68 (24 * P + 4 * b) = Int32.ofNat k ∧ u.1 68 (24 * P + 4 * b + 1) = Int32.ofNat a ∧ u.1 68 (24 * P + 4 * b + 2) = Int32.ofNat s ∧ u.1 68 (24 * P + 4 * b + 3) = Int32.ofNat t
def rLS (bn i st : Nat) (v w : vm_V) : Prop := v.1 61 2 = Int32.ofNat bn ∧ v.1 61 3 = Int32.ofNat i ∧ v.1 61 4 = Int32.ofNat st ∧ w.1 64 33 = Int32.ofNat st ∧ v.1 61 5 = w.1 64 34 ∧ xS v w
theorem ex_s {p k : Nat} {a : Int32} {v' : vm_V} (h : c_stp v p = vr a v') : exR p (k + 1) 0 v = exR p k a v' := by
  show (if (0 : Int32) = 0 then match c_stp v p with
      | (.inl (some (.int a)), v') => exR p k a v'
      | y => y
    else vr 0 v) = _
  rw [if_pos rfl, h]
  rfl
theorem ex_n {p k : Nat} {a : Int32} (h : ¬ a = 0) : exR p k a v = vr a v := by
  cases k with
  | zero => rfl
  | succ k => exact if_neg h
theorem in10 {o : Nat} (h : o < 10) : Int32.ofNat o = 0 ∨ Int32.ofNat o = 1 ∨ Int32.ofNat o = 2 ∨ Int32.ofNat o = 3 ∨ Int32.ofNat o = 4 ∨ Int32.ofNat o = 5 ∨ Int32.ofNat o = 6 ∨ Int32.ofNat o = 7 ∨ Int32.ofNat o = 8 ∨ Int32.ofNat o = 9 := by
  have : o = 0 ∨ o = 1 ∨ o = 2 ∨ o = 3 ∨ o = 4 ∨ o = 5 ∨ o = 6 ∨ o = 7 ∨ o = 8 ∨ o = 9 := by omega
  rcases this with rfl | rfl | rfl | rfl | rfl | rfl | rfl | rfl | rfl | rfl <;> decide
/-- what both reckon with as the second value -/
theorem xbb {o : Nat} {y : Int32} (ho : o < 10) (hy : o ≠ 0 → ∃ n : Nat, n < 6 ∧ y = Int32.ofNat n) (h : xS v w) (A : Int32) : xT (Int32.ofNat o) A (if r_readsB w (Int32.ofNat o) = 0 then 0 else w.1 90 y.toNatClampNeg) = xT (Int32.ofNat o) A (c_mval v y) ∧ ∀ d : Nat, xW 90 91 w (Int32.ofNat o) d y A (if r_readsB w (Int32.ofNat o) = 0 then 0 else w.1 90 y.toNatClampNeg) = xW 90 91 w (Int32.ofNat o) d y A (c_mval v y) := by
  by_cases z : Int32.ofNat o = 0 ∨ Int32.ofNat o = 1 ∨ Int32.ofNat o = 8
  · exact ⟨xT_b z, fun d => xW_b z⟩
  · have o0 : o ≠ 0 := fun q => z (Or.inl (by rw [q]; rfl))
    obtain ⟨n, n1, rfl⟩ := hy o0
    have hr : ¬ r_readsB w (Int32.ofNat o) = 0 := by
      have : o = 0 ∨ o = 1 ∨ o = 2 ∨ o = 3 ∨ o = 4 ∨ o = 5 ∨ o = 6 ∨ o = 7 ∨ o = 8 ∨ o = 9 := by omega
      unfold r_readsB
      rcases this with rfl | rfl | rfl | rfl | rfl | rfl | rfl | rfl | rfl | rfl <;> first
        | decide
        | exact absurd (by decide) z
    rw [if_neg hr, nn_nat (by omega), mval_n n1, h.1 n n1]
    exact ⟨rfl, fun _ => rfl⟩
end DK
