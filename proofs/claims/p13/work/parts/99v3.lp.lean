/-! numbers, loops that copy -/
section DB
variable {v : vm_V} {x : vm_Y}
theorem nn_lt {a b : Nat} (ha : a < 2147483648) (hb : b < 2147483648) : Int32.ofNat a < Int32.ofNat b ↔ a < b := by
  rw [Int32.lt_iff_toInt_lt, Int32.toInt_ofNat_of_lt (by omega), Int32.toInt_ofNat_of_lt (by omega)]
  omega
theorem nn_le {a b : Nat} (ha : a < 2147483648) (hb : b < 2147483648) : Int32.ofNat a ≤ Int32.ofNat b ↔ a ≤ b := by
  rw [Int32.le_iff_toInt_le, Int32.toInt_ofNat_of_lt (by omega), Int32.toInt_ofNat_of_lt (by omega)]
  omega
theorem nn_eq {a b : Nat} (ha : a < 2147483648) (hb : b < 2147483648) : Int32.ofNat a = Int32.ofNat b ↔ a = b := by
  constructor
  · intro h
    have := congrArg Int32.toInt h
    rw [Int32.toInt_ofNat_of_lt (by omega), Int32.toInt_ofNat_of_lt (by omega)] at this
    omega
  · intro h
    rw [h]
theorem nn_nat {a : Nat} (ha : a < 2147483648) : (Int32.ofNat a).toNatClampNeg = a := by
  have : (Int32.ofNat a).toInt = a := Int32.toInt_ofNat_of_lt (by omega)
  show (Int32.ofNat a).toInt.toNat = a
  rw [this]
  omega
theorem nn_ma {c t i : Nat} (h : c * t + i < 2147483648) : (Int32.ofNat c * Int32.ofNat t + Int32.ofNat i).toNatClampNeg = c * t + i := by
  rw [← Int32.ofNat_mul, ← Int32.ofNat_add]
  exact nn_nat h
theorem nn_s (i : Nat) : Int32.ofNat i + 1 = Int32.ofNat (i + 1) := by
  rw [Int32.ofNat_add]
  rfl
/-- an int from 0 on is one of these -/
theorem nn_of {x : Int32} (h : 0 ≤ x.toInt) : ∃ a : Nat, x = Int32.ofNat a ∧ (a : Int) = x.toInt ∧ a < 2147483648 := by
  have hu := Int32.toInt_lt x
  refine ⟨x.toInt.toNat, ?_, by omega, by omega⟩
  apply Int32.toInt_inj.mp
  rw [Int32.toInt_ofNat_of_lt (by omega)]
  omega
theorem vm_ext {v w : vm_V} (h1 : ∀ p k : Nat, v.1 p k = w.1 p k) (h2 : v.2 = w.2) : v = w := by
  obtain ⟨a, b⟩ := v
  obtain ⟨c, d⟩ := w
  have : a = c := funext fun p => funext fun k => h1 p k
  subst this
  have h2 : b = d := h2
  rw [h2]
theorem vm_cp0 {v : vm_V} {D P S Q : Nat} : vm_cp v 0 D P S Q = v := vm_ext (fun p k => if_neg (fun h => by omega)) rfl
theorem vm_cps {v : vm_V} {D P S i n : Nat} (hd : D + n ≤ S ∨ S + n ≤ D) (hi : i < n) : vm_si (vm_cp v i D P S P) P (D + i) ((vm_cp v i D P S P).1 P (S + i)) = vm_cp v (i + 1) D P S P := by
  have e : (vm_cp v i D P S P).1 P (S + i) = v.1 P (S + i) := if_neg (fun h => by omega)
  rw [e]
  refine vm_ext (fun p k => ?_) rfl
  show (if p = P ∧ k = D + i then v.1 P (S + i) else if p = P ∧ D ≤ k ∧ k < D + i then v.1 P (S + (k - D)) else v.1 p k) = if p = P ∧ D ≤ k ∧ k < D + (i + 1) then v.1 P (S + (k - D)) else v.1 p k
  by_cases h1 : p = P ∧ k = D + i
  · rw [if_pos h1, if_pos (by omega), show S + (k - D) = S + i by omega]
  · rw [if_neg h1]
    by_cases h2 : p = P ∧ D ≤ k ∧ k < D + i
    · rw [if_pos h2, if_pos (by omega)]
    · rw [if_neg h2, if_neg (by omega)]
theorem cp_loop {E : Nat → vm_V → Prop} {n P D S : Nat} (hd : D + n ≤ S ∨ S + n ≤ D) (hst : ∀ (i : Nat) (v : vm_V), i < n → (E i v ↔ E (i + 1) (vm_si v P (D + i) (v.1 P (S + i))))) (v : vm_V) : E 0 v ↔ E n (vm_cp v n D P S P) := by
  have h : ∀ i : Nat, i ≤ n → (E 0 v ↔ E i (vm_cp v i D P S P)) := by
    intro i
    induction i with
    | zero => intro _; rw [vm_cp0]
    | succ i ih =>
      intro hi
      rw [ih (by omega), hst i _ (by omega), vm_cps hd (by omega)]
  exact h n (Nat.le_refl n)
theorem lp161_14 {fn tn : Nat} (hf : fn < 2) (ht : tn < 2) (hne : fn ≠ tn) : vE 161 14 [.ref 64, .int (Int32.ofNat fn), .int (Int32.ofNat tn), .int (Int32.ofNat 0)] [] v x ↔ vE 161 48 [.ref 64, .int (Int32.ofNat fn), .int (Int32.ofNat tn), .int (Int32.ofNat 6)] [] (vm_cp v 6 (6 * tn) 66 (6 * fn) 66) x := by
  rw [cp_loop (E := fun i v => vE 161 14 [.ref 64, .int (Int32.ofNat fn), .int (Int32.ofNat tn), .int (Int32.ofNat i)] [] v x) (n := 6) (P := 66) (D := 6 * tn) (S := 6 * fn) (by omega) ?_ v]
  · rw [q161_14]
    simp only [q161_0, q161_1, q161_4, q161_5, q161_6, q161_9, q161_10, q161_11, q161_12, q161_13, q161_15, q161_17, q161_20, q161_21, q161_24, q161_26, q161_27, q161_28, q161_29, q161_30, q161_31, q161_34, q161_36, q161_37, q161_38, q161_39, q161_40, q161_41, q161_42, q161_45, q161_49, q161_51, q161_54, q161_57, q161_58, q161_61, q161_64, q161_65, q161_66, q161_67, q161_68, q161_69, q161_72, q161_75, q161_76, q161_77, q161_78, q161_79, q161_80, q161_81, q161_84, q161_88, q161_90, q161_92, q161_95, q161_96, q161_99, q161_101, q161_102, q161_103, q161_104, q161_105, q161_106, q161_109, q161_111, q161_112, q161_113, q161_114, q161_115, q161_116, q161_117, q161_120, Nat.reduceAdd]
    rw [if_pos (show (6 : Int32) ≤ Int32.ofNat 6 by decide)]
  · intro i v hi
    have e1 := nn_ma (c := 6) (t := tn) (i := i) (by omega)
    have e2 := nn_ma (c := 6) (t := fn) (i := i) (by omega)
    have e3 : ¬ (6 : Int32) ≤ Int32.ofNat i := fun q => by
      have := (nn_le (a := 6) (b := i) (by omega) (by omega)).mp q
      omega
    rw [q161_14]
    simp only [q161_0, q161_1, q161_4, q161_5, q161_6, q161_9, q161_10, q161_11, q161_12, q161_13, q161_15, q161_17, q161_20, q161_21, q161_24, q161_26, q161_27, q161_28, q161_29, q161_30, q161_31, q161_34, q161_36, q161_37, q161_38, q161_39, q161_40, q161_41, q161_42, q161_45, q161_49, q161_51, q161_54, q161_57, q161_58, q161_61, q161_64, q161_65, q161_66, q161_67, q161_68, q161_69, q161_72, q161_75, q161_76, q161_77, q161_78, q161_79, q161_80, q161_81, q161_84, q161_88, q161_90, q161_92, q161_95, q161_96, q161_99, q161_101, q161_102, q161_103, q161_104, q161_105, q161_106, q161_109, q161_111, q161_112, q161_113, q161_114, q161_115, q161_116, q161_117, q161_120, Nat.reduceAdd]
    rw [if_neg e3, nn_s]
    rw [show ((6 : Int32) * Int32.ofNat tn + Int32.ofNat i).toNatClampNeg = _ from e1, show ((6 : Int32) * Int32.ofNat fn + Int32.ofNat i).toNatClampNeg = _ from e2]

theorem lp161_50 {fn tn : Nat} (hf : fn < 2) (ht : tn < 2) (hne : fn ≠ tn) : vE 161 50 [.ref 64, .int (Int32.ofNat fn), .int (Int32.ofNat tn), .int (Int32.ofNat 0)] [] v x ↔ vE 161 87 [.ref 64, .int (Int32.ofNat fn), .int (Int32.ofNat tn), .int (Int32.ofNat 192)] [] (vm_cp v 192 (192 * tn) 67 (192 * fn) 67) x := by
  rw [cp_loop (E := fun i v => vE 161 50 [.ref 64, .int (Int32.ofNat fn), .int (Int32.ofNat tn), .int (Int32.ofNat i)] [] v x) (n := 192) (P := 67) (D := 192 * tn) (S := 192 * fn) (by omega) ?_ v]
  · rw [q161_50]
    simp only [q161_0, q161_1, q161_4, q161_5, q161_6, q161_9, q161_10, q161_11, q161_12, q161_13, q161_15, q161_17, q161_20, q161_21, q161_24, q161_26, q161_27, q161_28, q161_29, q161_30, q161_31, q161_34, q161_36, q161_37, q161_38, q161_39, q161_40, q161_41, q161_42, q161_45, q161_49, q161_51, q161_54, q161_57, q161_58, q161_61, q161_64, q161_65, q161_66, q161_67, q161_68, q161_69, q161_72, q161_75, q161_76, q161_77, q161_78, q161_79, q161_80, q161_81, q161_84, q161_88, q161_90, q161_92, q161_95, q161_96, q161_99, q161_101, q161_102, q161_103, q161_104, q161_105, q161_106, q161_109, q161_111, q161_112, q161_113, q161_114, q161_115, q161_116, q161_117, q161_120, Nat.reduceAdd]
    rw [if_pos (show (192 : Int32) ≤ Int32.ofNat 192 by decide)]
  · intro i v hi
    have e1 := nn_ma (c := 192) (t := tn) (i := i) (by omega)
    have e2 := nn_ma (c := 192) (t := fn) (i := i) (by omega)
    have e3 : ¬ (192 : Int32) ≤ Int32.ofNat i := fun q => by
      have := (nn_le (a := 192) (b := i) (by omega) (by omega)).mp q
      omega
    rw [q161_50]
    simp only [q161_0, q161_1, q161_4, q161_5, q161_6, q161_9, q161_10, q161_11, q161_12, q161_13, q161_15, q161_17, q161_20, q161_21, q161_24, q161_26, q161_27, q161_28, q161_29, q161_30, q161_31, q161_34, q161_36, q161_37, q161_38, q161_39, q161_40, q161_41, q161_42, q161_45, q161_49, q161_51, q161_54, q161_57, q161_58, q161_61, q161_64, q161_65, q161_66, q161_67, q161_68, q161_69, q161_72, q161_75, q161_76, q161_77, q161_78, q161_79, q161_80, q161_81, q161_84, q161_88, q161_90, q161_92, q161_95, q161_96, q161_99, q161_101, q161_102, q161_103, q161_104, q161_105, q161_106, q161_109, q161_111, q161_112, q161_113, q161_114, q161_115, q161_116, q161_117, q161_120, Nat.reduceAdd]
    rw [if_neg e3, nn_s]
    rw [show ((192 : Int32) * Int32.ofNat tn + Int32.ofNat i).toNatClampNeg = _ from e1, show ((192 : Int32) * Int32.ofNat fn + Int32.ofNat i).toNatClampNeg = _ from e2]

theorem lp161_89 {fn tn : Nat} (hf : fn < 2) (ht : tn < 2) (hne : fn ≠ tn) : vE 161 89 [.ref 64, .int (Int32.ofNat fn), .int (Int32.ofNat tn), .int (Int32.ofNat 0)] [] v x ↔ vE 161 123 [.ref 64, .int (Int32.ofNat fn), .int (Int32.ofNat tn), .int (Int32.ofNat 24)] [] (vm_cp v 24 (24 * tn) 68 (24 * fn) 68) x := by
  rw [cp_loop (E := fun i v => vE 161 89 [.ref 64, .int (Int32.ofNat fn), .int (Int32.ofNat tn), .int (Int32.ofNat i)] [] v x) (n := 24) (P := 68) (D := 24 * tn) (S := 24 * fn) (by omega) ?_ v]
  · rw [q161_89]
    simp only [q161_0, q161_1, q161_4, q161_5, q161_6, q161_9, q161_10, q161_11, q161_12, q161_13, q161_15, q161_17, q161_20, q161_21, q161_24, q161_26, q161_27, q161_28, q161_29, q161_30, q161_31, q161_34, q161_36, q161_37, q161_38, q161_39, q161_40, q161_41, q161_42, q161_45, q161_49, q161_51, q161_54, q161_57, q161_58, q161_61, q161_64, q161_65, q161_66, q161_67, q161_68, q161_69, q161_72, q161_75, q161_76, q161_77, q161_78, q161_79, q161_80, q161_81, q161_84, q161_88, q161_90, q161_92, q161_95, q161_96, q161_99, q161_101, q161_102, q161_103, q161_104, q161_105, q161_106, q161_109, q161_111, q161_112, q161_113, q161_114, q161_115, q161_116, q161_117, q161_120, Nat.reduceAdd]
    rw [if_pos (show (24 : Int32) ≤ Int32.ofNat 24 by decide)]
  · intro i v hi
    have e1 := nn_ma (c := 24) (t := tn) (i := i) (by omega)
    have e2 := nn_ma (c := 24) (t := fn) (i := i) (by omega)
    have e3 : ¬ (24 : Int32) ≤ Int32.ofNat i := fun q => by
      have := (nn_le (a := 24) (b := i) (by omega) (by omega)).mp q
      omega
    rw [q161_89]
    simp only [q161_0, q161_1, q161_4, q161_5, q161_6, q161_9, q161_10, q161_11, q161_12, q161_13, q161_15, q161_17, q161_20, q161_21, q161_24, q161_26, q161_27, q161_28, q161_29, q161_30, q161_31, q161_34, q161_36, q161_37, q161_38, q161_39, q161_40, q161_41, q161_42, q161_45, q161_49, q161_51, q161_54, q161_57, q161_58, q161_61, q161_64, q161_65, q161_66, q161_67, q161_68, q161_69, q161_72, q161_75, q161_76, q161_77, q161_78, q161_79, q161_80, q161_81, q161_84, q161_88, q161_90, q161_92, q161_95, q161_96, q161_99, q161_101, q161_102, q161_103, q161_104, q161_105, q161_106, q161_109, q161_111, q161_112, q161_113, q161_114, q161_115, q161_116, q161_117, q161_120, Nat.reduceAdd]
    rw [if_neg e3, nn_s]
    rw [show ((24 : Int32) * Int32.ofNat tn + Int32.ofNat i).toNatClampNeg = _ from e1, show ((24 : Int32) * Int32.ofNat fn + Int32.ofNat i).toNatClampNeg = _ from e2]

def r_copy (v : vm_V) (fn tn : Nat) : vm_V := vm_cp (vm_cp (vm_cp (vm_si v 65 tn (v.1 65 fn)) 6 (6 * tn) 66 (6 * fn) 66) 192 (192 * tn) 67 (192 * fn) 67) 24 (24 * tn) 68 (24 * fn) 68
theorem ct161 {fn tn : Nat} (hf : fn < 2) (ht : tn < 2) (hne : fn ≠ tn) : vE 161 0 [.ref 64, .int (Int32.ofNat fn), .int (Int32.ofNat tn), .retAddr 0] [] v x ↔ x = vd (r_copy v fn tn) := by
  simp only [q161_0, q161_1, q161_4, q161_5, q161_6, q161_9, q161_10, q161_11, q161_12, q161_13, q161_15, q161_17, q161_20, q161_21, q161_24, q161_26, q161_27, q161_28, q161_29, q161_30, q161_31, q161_34, q161_36, q161_37, q161_38, q161_39, q161_40, q161_41, q161_42, q161_45, q161_49, q161_51, q161_54, q161_57, q161_58, q161_61, q161_64, q161_65, q161_66, q161_67, q161_68, q161_69, q161_72, q161_75, q161_76, q161_77, q161_78, q161_79, q161_80, q161_81, q161_84, q161_88, q161_90, q161_92, q161_95, q161_96, q161_99, q161_101, q161_102, q161_103, q161_104, q161_105, q161_106, q161_109, q161_111, q161_112, q161_113, q161_114, q161_115, q161_116, q161_117, q161_120, Nat.reduceAdd]
  rw [nn_nat (a := fn) (by omega), nn_nat (a := tn) (by omega)]
  rw [show (Value.int (0 : Int32)) = Value.int (Int32.ofNat 0) from rfl, lp161_14 hf ht hne]
  simp only [q161_48, q161_49]
  rw [show (Value.int (0 : Int32)) = Value.int (Int32.ofNat 0) from rfl, lp161_50 hf ht hne]
  simp only [q161_87, q161_88]
  rw [show (Value.int (0 : Int32)) = Value.int (Int32.ofNat 0) from rfl, lp161_89 hf ht hne]
  simp only [q161_123, r_copy]
def r_take (v : vm_V) : vm_V := r_changed (r_copy (vm_si v 64 0 0) 1 0)
theorem ct161_10 : vE 161 0 [.ref 64, .int 1, .int 0, .retAddr 0] [] v x ↔ x = vd (r_copy v 1 0) := ct161 (fn := 1) (tn := 0) (by omega) (by omega) (by omega)
theorem ct161_01 : vE 161 0 [.ref 64, .int 0, .int 1, .retAddr 0] [] v x ↔ x = vd (r_copy v 0 1) := ct161 (fn := 0) (tn := 1) (by omega) (by omega) (by omega)
theorem ct160 : vE 160 0 [.ref 64] [] v x ↔ x = vd (r_take v) := by
  simp only [q160_0, q160_1, q160_2, q160_5, q160_6, q160_7, q160_8, q160_11, q160_12, q160_15, ct150, qt160, ct161_10, exists_eq_left, vB_r, vB_d, vB_a, vB_if, vm_eqif, vr_if, vd_if, Nat.reduceAdd, reduceIte, vm_10, vm_n0, ite_self, vm_mrg, vm_icons, vm_iint, r_take]

end DB
