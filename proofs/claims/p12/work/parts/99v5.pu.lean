/-! the contracts' functions by places and numbers -/
section PUA
variable {v w : vm_V}
theorem nn_add (a b : Nat) : Int32.ofNat a + Int32.ofNat b = Int32.ofNat (a + b) := (Int32.ofNat_add a b).symm
theorem nn_mul (a b : Nat) : Int32.ofNat a * Int32.ofNat b = Int32.ofNat (a * b) := (Int32.ofNat_mul a b).symm
theorem i10' : ¬ (1 : Int32) = 0 := by decide
theorem nz {a : Nat} (h : a < 2147483648) : ¬ Int32.ofNat a < 0 := fun q => by
  have := (nn_lt (b := 0) (by omega) (by omega)).mp q
  omega
theorem nl {a k : Nat} (h : a < 2147483648) (hk : k < 2147483648) (hl : a < k) : ¬ Int32.ofNat k ≤ Int32.ofNat a := fun q => by
  have := (nn_le (by omega) (by omega)).mp q
  omega
/-- an instruction's four fields -/
def setc (v : vm_V) (P k : Nat) (o d a c : Int32) : vm_V := vm_si (vm_si (vm_si (vm_si v P k o) P (k + 1) d) P (k + 2) a) P (k + 3) c
theorem setc_o {P k q j : Nat} {o d a c : Int32} (h : ¬ (q = P ∧ k ≤ j ∧ j < k + 4)) : (setc v P k o d a c).1 q j = v.1 q j := by
  unfold setc
  show (if q = P ∧ j = k + 3 then c else if q = P ∧ j = k + 2 then a else if q = P ∧ j = k + 1 then d else if q = P ∧ j = k then o else v.1 q j) = v.1 q j
  rw [if_neg (by omega), if_neg (by omega), if_neg (by omega), if_neg (by omega)]
theorem setc_0 {P k : Nat} {o d a c : Int32} : (setc v P k o d a c).1 P k = o := by
  unfold setc
  show (if P = P ∧ k = k + 3 then c else if P = P ∧ k = k + 2 then a else if P = P ∧ k = k + 1 then d else if P = P ∧ k = k then o else v.1 P k) = o
  rw [if_neg (by omega), if_neg (by omega), if_neg (by omega), if_pos ⟨rfl, rfl⟩]
theorem setc_1 {P k : Nat} {o d a c : Int32} : (setc v P k o d a c).1 P (k + 1) = d := by
  unfold setc
  show (if P = P ∧ k + 1 = k + 3 then c else if P = P ∧ k + 1 = k + 2 then a else if P = P ∧ k + 1 = k + 1 then d else if P = P ∧ k + 1 = k then o else v.1 P (k + 1)) = d
  rw [if_neg (by omega), if_neg (by omega), if_pos ⟨rfl, rfl⟩]
theorem setc_2 {P k : Nat} {o d a c : Int32} : (setc v P k o d a c).1 P (k + 2) = a := by
  unfold setc
  show (if P = P ∧ k + 2 = k + 3 then c else if P = P ∧ k + 2 = k + 2 then a else if P = P ∧ k + 2 = k + 1 then d else if P = P ∧ k + 2 = k then o else v.1 P (k + 2)) = a
  rw [if_neg (by omega), if_pos ⟨rfl, rfl⟩]
theorem setc_3 {P k : Nat} {o d a c : Int32} : (setc v P k o d a c).1 P (k + 3) = c := by
  unfold setc
  show (if P = P ∧ k + 3 = k + 3 then c else if P = P ∧ k + 3 = k + 2 then a else if P = P ∧ k + 3 = k + 1 then d else if P = P ∧ k + 3 = k then o else v.1 P (k + 3)) = c
  rw [if_pos ⟨rfl, rfl⟩]
theorem setc_r {P k : Nat} {o d a c : Int32} : (setc v P k o d a c).2 = v.2 := rfl
/-- blocks that are there -/
theorem pu_hb {p c b : Nat} (h1 : v.1 p 3 = Int32.ofNat c) (hc : c ≤ 6) (hb : b < c) : c_hasBlock v p (Int32.ofNat b) = 1 := by
  unfold c_hasBlock
  rw [h1, if_neg (nz (by omega)), if_neg (nl (by omega) (by omega) hb), if_neg (show ¬ (6 : Int32) ≤ Int32.ofNat b from nl (k := 6) (by omega) (by omega) (by omega))]
theorem pu_len {p c b : Nat} (h1 : v.1 p 3 = Int32.ofNat c) (hc : c ≤ 6) (hb : b < c) : c_lengthOf v p (Int32.ofNat b) = v.1 (p + 3) b := by
  unfold c_lengthOf
  rw [pu_hb h1 hc hb, if_neg i10', nn_nat (by omega)]
theorem pu_ix {b i f : Nat} (hb : b < 6) (hi : i < 8) (hf : f < 4) : ((((Int32.ofNat b * 8) + Int32.ofNat i) * 4) + Int32.ofNat f).toNatClampNeg = 32 * b + 4 * i + f := by
  rw [show (8 : Int32) = Int32.ofNat 8 from rfl, show (4 : Int32) = Int32.ofNat 4 from rfl, nn_mul, nn_add, nn_mul, nn_add, nn_nat (by omega)]
  omega
theorem pu_code {p c b i f : Nat} (h1 : v.1 p 3 = Int32.ofNat c) (hc : c ≤ 6) (hb : b < c) (hi : i < 8) (hf : f < 4) : c_codeAt v p (Int32.ofNat b) (Int32.ofNat i) (Int32.ofNat f) = v.1 (p + 1) (32 * b + 4 * i + f) := by
  unfold c_codeAt
  rw [h1, if_neg (nz (by omega)), if_neg (nl (by omega) (by omega) hb), if_neg (show ¬ (6 : Int32) ≤ Int32.ofNat b from nl (k := 6) (by omega) (by omega) (by omega)), if_neg (nz (by omega)), if_neg (show ¬ (8 : Int32) ≤ Int32.ofNat i from nl (k := 8) (by omega) (by omega) (by omega)), if_neg (nz (by omega)), if_neg (show ¬ (4 : Int32) ≤ Int32.ofNat f from nl (k := 4) (by omega) (by omega) (by omega)), if_neg i10', pu_ix (by omega) hi hf]
theorem pu_end {p c b f : Nat} (h1 : v.1 p 3 = Int32.ofNat c) (hc : c ≤ 6) (hb : b < c) (hf : f < 4) : c_endAt v p (Int32.ofNat b) (Int32.ofNat f) = v.1 (p + 2) (4 * b + f) := by
  unfold c_endAt
  rw [h1, if_neg (nz (by omega)), if_neg (nl (by omega) (by omega) hb), if_pos (show Int32.ofNat b < 6 from (nn_lt (b := 6) (by omega) (by omega)).mpr (by omega)), if_neg (nz (by omega)), if_neg (show ¬ (4 : Int32) ≤ Int32.ofNat f from nl (k := 4) (by omega) (by omega) (by omega)), show (4 : Int32) = Int32.ofNat 4 from rfl, nn_mul, nn_add, nn_nat (by omega), show b * 4 + f = 4 * b + f by omega]
theorem pu_setc {p c b i l : Nat} {o d a z : Int32} (h1 : v.1 p 3 = Int32.ofNat c) (hc : c ≤ 6) (hb : b < c) (hl : v.1 (p + 3) b = Int32.ofNat l) (hl8 : l ≤ 8) (hi : i < l) : c_setCode v p (Int32.ofNat b) (Int32.ofNat i) o d a z = setc v (p + 1) (32 * b + 4 * i) o d a z := by
  have e : c_hasCode v p (Int32.ofNat b) (Int32.ofNat i) = 1 := by
    unfold c_hasCode
    rw [if_neg (nz (by omega)), if_neg (show ¬ (8 : Int32) ≤ Int32.ofNat i from nl (k := 8) (by omega) (by omega) (by omega)), pu_len h1 hc hb, hl, if_neg (nl (by omega) (by omega) hi)]
  have x0 := pu_ix (b := b) (i := i) (f := 0) (by omega) (by omega) (by omega)
  have x1 := pu_ix (b := b) (i := i) (f := 1) (by omega) (by omega) (by omega)
  have x2 := pu_ix (b := b) (i := i) (f := 2) (by omega) (by omega) (by omega)
  have x3 := pu_ix (b := b) (i := i) (f := 3) (by omega) (by omega) (by omega)
  unfold c_setCode setc
  rw [e, if_neg i10']
  rw [show ((((Int32.ofNat b * 8) + Int32.ofNat i) * 4) + 0).toNatClampNeg = _ from x0, show ((((Int32.ofNat b * 8) + Int32.ofNat i) * 4) + 1).toNatClampNeg = _ from x1, show ((((Int32.ofNat b * 8) + Int32.ofNat i) * 4) + 2).toNatClampNeg = _ from x2, show ((((Int32.ofNat b * 8) + Int32.ofNat i) * 4) + 3).toNatClampNeg = _ from x3]
  rfl
theorem pu_ex {b f : Nat} (hb : b < 6) (hf : f < 4) : ((Int32.ofNat b * 4) + Int32.ofNat f).toNatClampNeg = 4 * b + f := by
  rw [show (4 : Int32) = Int32.ofNat 4 from rfl, nn_mul, nn_add, nn_nat (by omega)]
  omega
theorem pu_sete {p c b : Nat} {o d a z : Int32} (h1 : v.1 p 3 = Int32.ofNat c) (hc : c ≤ 6) (hb : b < c) : c_setEnd v p (Int32.ofNat b) o d a z = setc v (p + 2) (4 * b) o d a z := by
  have x0 := pu_ex (b := b) (f := 0) (by omega) (by omega)
  have x1 := pu_ex (b := b) (f := 1) (by omega) (by omega)
  have x2 := pu_ex (b := b) (f := 2) (by omega) (by omega)
  have x3 := pu_ex (b := b) (f := 3) (by omega) (by omega)
  unfold c_setEnd setc
  rw [pu_hb h1 hc hb, if_neg i10']
  rw [show ((Int32.ofNat b * 4) + 0).toNatClampNeg = _ from x0, show ((Int32.ofNat b * 4) + 1).toNatClampNeg = _ from x1, show ((Int32.ofNat b * 4) + 2).toNatClampNeg = _ from x2, show ((Int32.ofNat b * 4) + 3).toNatClampNeg = _ from x3]
  rfl
theorem pu_rsete {k : Nat} {o d a z : Int32} (hk : k < 1000) : r_setEnd v (Int32.ofNat k) o d a z = setc v 68 (4 * k) o d a z := by
  unfold r_setEnd setc
  rw [show (4 : Int32) = Int32.ofNat 4 from rfl, nn_mul, show (1 : Int32) = Int32.ofNat 1 from rfl, show (2 : Int32) = Int32.ofNat 2 from rfl, show (3 : Int32) = Int32.ofNat 3 from rfl, nn_add, nn_add, nn_add, nn_nat (by omega), nn_nat (by omega), nn_nat (by omega), nn_nat (by omega)]
/-- the fields that an operation does not use -/
def puD (op d : Int32) : Int32 := if op = 9 then 0 else d
def puA (op a : Int32) : Int32 := if op = 0 then 0 else a
def puB (op b : Int32) : Int32 := if op < 2 then (if op = 0 then b else 0) else if op = 8 then 0 else b
theorem lt2 {op : Int32} : op ≤ 1 ↔ op < 2 := by
  rw [Int32.le_iff_toInt_le, Int32.lt_iff_toInt_lt]
  have h2 : (2 : Int32).toInt = 2 := rfl
  have h1 : (1 : Int32).toInt = 1 := rfl
  omega
theorem pu_put {k : Nat} {op d a b : Int32} (hk : k < 10000) : r_put v (Int32.ofNat k) op d a b = setc v 67 k op (puD op d) (puA op a) (puB op b) := by
  have e1 : (Int32.ofNat k + 1).toNatClampNeg = k + 1 := by rw [show (1 : Int32) = Int32.ofNat 1 from rfl, nn_add, nn_nat (by omega)]
  have e2 : (Int32.ofNat k + 2).toNatClampNeg = k + 2 := by rw [show (2 : Int32) = Int32.ofNat 2 from rfl, nn_add, nn_nat (by omega)]
  have e3 : (Int32.ofNat k + 3).toNatClampNeg = k + 3 := by rw [show (3 : Int32) = Int32.ofNat 3 from rfl, nn_add, nn_nat (by omega)]
  have d1 : ∀ u : vm_V, (if r_writes u op = 0 then 0 else d) = puD op d := by
    intro u
    unfold r_writes puD
    by_cases h : op = 9
    · rw [if_pos h, if_pos rfl, if_pos h]
    · rw [if_neg h, if_neg i10', if_neg h]
  have a1 : ∀ u : vm_V, (if r_readsA u op = 0 then 0 else a) = puA op a := by
    intro u
    unfold r_readsA puA
    by_cases h : op = 0
    · rw [if_pos h, if_pos rfl, if_pos h]
    · rw [if_neg h, if_neg i10', if_neg h]
  have b1 : ∀ u : vm_V, (if r_readsB u op = 0 then if op = 0 then b else 0 else b) = puB op b := by
    intro u
    unfold r_readsB puB
    by_cases h : op < 2
    · rw [if_pos (lt2.mpr h), if_pos rfl, if_pos h]
    · rw [if_neg (fun q => h (lt2.mp q)), if_neg h]
      by_cases h8 : op = 8
      · rw [if_pos h8, if_pos rfl, if_pos h8, if_neg (by rw [h8]; decide)]
      · rw [if_neg h8, if_neg i10', if_neg h8]
  unfold r_put setc
  rw [e1, e2, e3, nn_nat (by omega), d1, a1, b1]
end PUA
