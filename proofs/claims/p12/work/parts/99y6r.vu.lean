/-! a stretch of a place, written -/
section EA
variable {v w : vm_V} {x : vm_Y}
def v_up (q j n : Nat) (g : Nat → Int32) (v : vm_V) : vm_V := (fun P k => if P = q ∧ j ≤ k ∧ k < j + n then g (k - j) else v.1 P k, v.2)
theorem v_up1 {q j n P k : Nat} {g : Nat → Int32} : (v_up q j n g v).1 P k = if P = q ∧ j ≤ k ∧ k < j + n then g (k - j) else v.1 P k := rfl
theorem v_up2 {q j n : Nat} {g : Nat → Int32} : (v_up q j n g v).2 = v.2 := rfl
theorem v_upo {q j n P k : Nat} {g : Nat → Int32} (h : P ≠ q) : (v_up q j n g v).1 P k = v.1 P k := if_neg (fun z => h z.1)
theorem v_upi {q j n k : Nat} {g : Nat → Int32} (h : k < n) : (v_up q j n g v).1 q (j + k) = g k := by
  rw [v_up1, if_pos ⟨rfl, by omega, by omega⟩, show j + k - j = k by omega]
theorem v_up0 {q j : Nat} {g : Nat → Int32} : v_up q j 0 g v = v := by
  refine Prod.ext ?_ rfl
  funext P k
  exact if_neg (by omega)
theorem v_upS {q j n : Nat} {g : Nat → Int32} : vm_si (v_up q j n g v) q (j + n) (g n) = v_up q j (n + 1) g v := by
  refine Prod.ext ?_ rfl
  funext P k
  rw [vm_si1b, v_up1, v_up1]
  by_cases e : P = q
  · by_cases h : k = j + n
    · rw [if_pos ⟨e, h⟩, if_pos ⟨e, by omega⟩, show k - j = n by omega]
    · rw [if_neg (fun z => h z.2)]
      by_cases h2 : j ≤ k ∧ k < j + n
      · rw [if_pos ⟨e, h2⟩, if_pos ⟨e, by omega⟩]
      · rw [if_neg (fun z => h2 z.2), if_neg (fun z => by omega)]
  · rw [if_neg (fun z => e z.1), if_neg (fun z => e z.1), if_neg (fun z => e z.1)]
theorem v_upc {q j n : Nat} {g g' : Nat → Int32} (h : ∀ k : Nat, k < n → g k = g' k) : v_up q j n g v = v_up q j n g' v := by
  refine Prod.ext ?_ rfl
  funext P k
  rw [v_up1, v_up1]
  by_cases e : P = q ∧ j ≤ k ∧ k < j + n
  · rw [if_pos e, if_pos e]
    exact h _ (by omega)
  · rw [if_neg e, if_neg e]
theorem v_flu {p : Nat} {z : Int32} {k i : Nat} : v_fl p z k i v = v_up p i k (fun _ => z) v := by
  refine Prod.ext ?_ (v_fl2 k i v)
  funext P j
  rw [v_fl1, v_up1]
theorem v_cpu {n d p s q : Nat} : vm_cp v n d p s q = v_up p d n (fun k => v.1 q (s + k)) v := by
  refine Prod.ext ?_ rfl
  funext P j
  rw [vm_cp1, v_up1]
/-! the reference: move, setNumber, areSame, isNumber -/
theorem lp183 {p q i j : Nat} (hpq : p ≠ q) (hi : i < 1000) (hj : j < 1000) : ∀ (m n : Nat), n + m = 24 → (vE 183 3 [.ref p, .int (Int32.ofNat i), .ref q, .int (Int32.ofNat j), .int (Int32.ofNat n)] [] (v_up q j n (fun k => v.1 p (i + k)) v) x ↔ x = vd (v_up q j 24 (fun k => v.1 p (i + k)) v))
  | 0, n, h => by
    obtain rfl : n = 24 := by omega
    rw [q183_3]
    simp only [q183_5, q183_7]
    rw [if_pos (show (24 : Int32) ≤ Int32.ofNat 24 from by decide)]
    simp only [q183_28]
  | m + 1, n, h => by
    rw [q183_3]
    simp only [q183_5, q183_7]
    rw [if_neg (show ¬ (24 : Int32) ≤ Int32.ofNat n from nl (k := 24) (by omega) (by omega) (by omega))]
    simp only [q183_10, q183_11, q183_12, q183_14, q183_15, q183_16, q183_17, q183_19, q183_20, q183_21, q183_22, q183_25, nn_add, nn_s]
    rw [nn_nat (by omega), nn_nat (by omega), v_upo hpq, v_upS (g := fun k => v.1 p (i + k))]
    exact lp183 hpq hi hj m (n + 1) (by omega)
/-- move -/
theorem ct183 {p q i j : Nat} (hpq : p ≠ q) (hi : i < 1000) (hj : j < 1000) : vE 183 0 [.ref p, .int (Int32.ofNat i), .ref q, .int (Int32.ofNat j), .retAddr 0] [] v x ↔ x = vd (v_up q j 24 (fun k => v.1 p (i + k)) v) := by
  simp only [q183_0, q183_1]
  have := lp183 (v := v) (x := x) hpq hi hj 24 0 rfl
  rw [v_up0] at this
  exact this
theorem lp179 {p i : Nat} {z : Int32} (hi : i < 1000) : ∀ (m n : Nat), n + m = 24 → (vE 179 2 [.ref p, .int (Int32.ofNat i), .int z, .int (Int32.ofNat n)] [] (v_up p i n (fun k => if k = 0 then z else 0) v) x ↔ x = vd (v_up p i 24 (fun k => if k = 0 then z else 0) v))
  | 0, n, h => by
    obtain rfl : n = 24 := by omega
    rw [q179_2]
    simp only [q179_3, q179_5]
    rw [if_pos (show (24 : Int32) ≤ Int32.ofNat 24 from by decide)]
    simp only [q179_28]
  | m + 1, n, h => by
    rw [q179_2]
    simp only [q179_3, q179_5]
    rw [if_neg (show ¬ (24 : Int32) ≤ Int32.ofNat n from nl (k := 24) (by omega) (by omega) (by omega))]
    simp only [q179_8, q179_9, q179_10, q179_11, q179_12, q179_13, nn_add]
    have ih := lp179 (p := p) (z := z) hi m (n + 1) (by omega)
    rw [← v_upS] at ih
    by_cases n0 : n = 0
    · subst n0
      rw [if_pos (show Int32.ofNat 0 = 0 from rfl)]
      simp only [q179_16, q179_17, q179_21, q179_22, q179_25, nn_s]
      rw [nn_nat (by omega)]
      exact ih
    · rw [if_neg (show ¬ Int32.ofNat n = 0 from fun e => n0 ((nn_eq (b := 0) (by omega) (by omega)).mp e))]
      simp only [q179_20, q179_21, q179_22, q179_25, nn_s]
      rw [nn_nat (by omega)]
      rw [if_neg n0] at ih
      exact ih
/-- setNumber -/
theorem ct179 {p i : Nat} {z : Int32} (hi : i < 1000) : vE 179 0 [.ref p, .int (Int32.ofNat i), .int z, .retAddr 0] [] v x ↔ x = vd (v_up p i 24 (fun k => if k = 0 then z else 0) v) := by
  simp only [q179_0, q179_1]
  have := lp179 (v := v) (x := x) (p := p) (z := z) hi 24 0 rfl
  rw [v_up0] at this
  exact this
def bI (c : Prop) [Decidable c] : Int32 := if c then 1 else 0
theorem bI_z {c : Prop} [Decidable c] : bI c = 0 ↔ ¬ c := by
  unfold bI
  by_cases h : c
  · rw [if_pos h]
    exact ⟨fun q => absurd q i10, fun q => absurd h q⟩
  · rw [if_neg h]
    exact ⟨fun _ => h, fun _ => rfl⟩
theorem bI_c {c d : Prop} [Decidable c] [Decidable d] (h : c ↔ d) : bI c = bI d := by
  unfold bI
  by_cases hc : c
  · rw [if_pos hc, if_pos (h.mp hc)]
  · rw [if_neg hc, if_neg (fun q => hc (h.mpr q))]
theorem lp187 {p q i j : Nat} (hi : i < 1000) (hj : j < 1000) : ∀ (m n : Nat), n + m = 24 → (vE 187 6 [.ref p, .int (Int32.ofNat i), .ref q, .int (Int32.ofNat j), .int (bI (∀ k : Nat, k < n → v.1 p (i + k) = v.1 q (j + k))), .int (Int32.ofNat n)] [] v x ↔ x = vr (bI (∀ k : Nat, k < 24 → v.1 p (i + k) = v.1 q (j + k))) v)
  | 0, n, h => by
    obtain rfl : n = 24 := by omega
    rw [q187_6]
    simp only [q187_8, q187_10]
    rw [if_pos (show (24 : Int32) ≤ Int32.ofNat 24 from by decide)]
    simp only [q187_46, q187_48]
  | m + 1, n, h => by
    rw [q187_6]
    simp only [q187_8, q187_10]
    rw [if_neg (show ¬ (24 : Int32) ≤ Int32.ofNat n from nl (k := 24) (by omega) (by omega) (by omega))]
    simp only [q187_13, q187_15]
    have ih := lp187 (p := p) (q := q) hi hj m (n + 1) (by omega)
    by_cases c : ∀ k : Nat, k < n → v.1 p (i + k) = v.1 q (j + k)
    · rw [if_neg (fun z => bI_z.mp z c)]
      simp only [q187_18, q187_19, q187_20, q187_22, q187_23, q187_24, q187_25, q187_26, q187_28, q187_29, q187_30, nn_add]
      rw [nn_nat (by omega), nn_nat (by omega)]
      by_cases d : v.1 p (i + n) = v.1 q (j + n)
      · rw [if_pos d]
        simp only [q187_33, q187_34, q187_38, q187_40, q187_43, nn_s]
        rw [show bI (∀ k : Nat, k < n + 1 → v.1 p (i + k) = v.1 q (j + k)) = 1 from if_pos (fun k hk => by
          by_cases e : k = n
          · rw [e]
            exact d
          · exact c k (by omega))] at ih
        exact ih
      · rw [if_neg d]
        simp only [q187_37, q187_38, q187_40, q187_43, nn_s]
        rw [show bI (∀ k : Nat, k < n + 1 → v.1 p (i + k) = v.1 q (j + k)) = 0 from if_neg (fun z => d (z n (by omega)))] at ih
        exact ih
    · rw [if_pos (bI_z.mpr c)]
      simp only [q187_37, q187_38, q187_40, q187_43, nn_s]
      rw [show bI (∀ k : Nat, k < n + 1 → v.1 p (i + k) = v.1 q (j + k)) = 0 from if_neg (fun z => c (fun k hk => z k (by omega)))] at ih
      exact ih
/-- areSame -/
theorem ct187 {p q i j : Nat} (hi : i < 1000) (hj : j < 1000) : vE 187 0 [.ref p, .int (Int32.ofNat i), .ref q, .int (Int32.ofNat j), .retAddr 0, .retAddr 0] [] v x ↔ x = vr (bI (∀ k : Nat, k < 24 → v.1 p (i + k) = v.1 q (j + k))) v := by
  simp only [q187_0, q187_1, q187_3, q187_4]
  have := lp187 (v := v) (x := x) (p := p) (q := q) hi hj 24 0 rfl
  rw [show bI (∀ k : Nat, k < 0 → v.1 p (i + k) = v.1 q (j + k)) = 1 from if_pos (fun k hk => absurd hk (Nat.not_lt_zero k))] at this
  exact this
theorem lp185 {p i : Nat} (hi : i < 1000) : ∀ (m n : Nat), n + m = 24 → 1 ≤ n → (vE 185 4 [.ref p, .int (Int32.ofNat i), .int (bI (∀ k : Nat, k < n → 1 ≤ k → v.1 p (i + k) = 0)), .int (Int32.ofNat n)] [] v x ↔ x = vr (bI (∀ k : Nat, k < 24 → 1 ≤ k → v.1 p (i + k) = 0)) v)
  | 0, n, h, h1 => by
    obtain rfl : n = 24 := by omega
    rw [q185_4]
    simp only [q185_5, q185_7]
    rw [if_pos (show (24 : Int32) ≤ Int32.ofNat 24 from by decide)]
    simp only [q185_34, q185_35]
  | m + 1, n, h, h1 => by
    rw [q185_4]
    simp only [q185_5, q185_7]
    rw [if_neg (show ¬ (24 : Int32) ≤ Int32.ofNat n from nl (k := 24) (by omega) (by omega) (by omega))]
    simp only [q185_10, q185_11]
    have ih := lp185 (p := p) hi m (n + 1) (by omega) (by omega)
    by_cases c : ∀ k : Nat, k < n → 1 ≤ k → v.1 p (i + k) = 0
    · rw [if_neg (fun z => bI_z.mp z c)]
      simp only [q185_14, q185_15, q185_16, q185_17, q185_18, q185_19, nn_add]
      rw [nn_nat (by omega)]
      by_cases d : v.1 p (i + n) = 0
      · rw [if_pos d]
        simp only [q185_22, q185_23, q185_27, q185_28, q185_31, nn_s]
        rw [show bI (∀ k : Nat, k < n + 1 → 1 ≤ k → v.1 p (i + k) = 0) = 1 from if_pos (fun k hk h1 => by
          by_cases e : k = n
          · rw [e]
            exact d
          · exact c k (by omega) h1)] at ih
        exact ih
      · rw [if_neg d]
        simp only [q185_26, q185_27, q185_28, q185_31, nn_s]
        rw [show bI (∀ k : Nat, k < n + 1 → 1 ≤ k → v.1 p (i + k) = 0) = 0 from if_neg (fun z => d (z n (by omega) h1))] at ih
        exact ih
    · rw [if_pos (bI_z.mpr c)]
      simp only [q185_26, q185_27, q185_28, q185_31, nn_s]
      rw [show bI (∀ k : Nat, k < n + 1 → 1 ≤ k → v.1 p (i + k) = 0) = 0 from if_neg (fun z => c (fun k hk => z k (by omega)))] at ih
      exact ih
/-- isNumber, the reference's -/
theorem ct185 {p i : Nat} (hi : i < 1000) : vE 185 0 [.ref p, .int (Int32.ofNat i), .retAddr 0, .retAddr 0] [] v x ↔ x = vr (bI (∀ k : Nat, k < 24 → 1 ≤ k → v.1 p (i + k) = 0)) v := by
  simp only [q185_0, q185_1, q185_2, q185_3]
  have := lp185 (v := v) (x := x) (p := p) hi 23 1 rfl (by omega)
  rw [show bI (∀ k : Nat, k < 1 → 1 ≤ k → v.1 p (i + k) = 0) = 1 from if_pos (fun k hk h1 => by omega)] at this
  exact this
end EA
