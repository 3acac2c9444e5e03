/-! a block's instructions: what both sides read off them -/
section SPA
variable {v w : vm_V} {s : Nat → Int32}
theorem n9 : ¬ (9 : Int32) = 0 := by decide
theorem pp {X : Int32} {P : Prop} (h : X = 0 ↔ ¬ P) : P ↔ ¬ X = 0 := by
  rw [h]
  exact Classical.not_not.symm
/-- an instruction writes a register; reads one -/
def sWr (s : Nat → Int32) (i : Nat) (r : Int32) : Prop := ¬ s (4 * i) = 9 ∧ s (4 * i + 1) = r
def sW (s : Nat → Int32) (i : Nat) : Int32 := if s (4 * i) = 9 then -1 else s (4 * i + 1)
def sR (s : Nat → Int32) (i : Nat) (r : Int32) : Prop := (¬ s (4 * i) = 0 ∧ s (4 * i + 2) = r) ∨ (¬ s (4 * i) < 2 ∧ ¬ s (4 * i) = 8 ∧ s (4 * i + 3) = r)
def sF (v : vm_V) (P b : Nat) : Nat → Int32 := fun k => v.1 P (32 * b + k)
theorem sp_code {p c b i : Nat} (h1 : v.1 p 3 = Int32.ofNat c) (hc : c ≤ 6) (hb : b < c) (hi : i < 8) : c_codeAt v p (Int32.ofNat b) (Int32.ofNat i) 0 = sF v (p + 1) b (4 * i) ∧ c_codeAt v p (Int32.ofNat b) (Int32.ofNat i) 1 = sF v (p + 1) b (4 * i + 1) ∧ c_codeAt v p (Int32.ofNat b) (Int32.ofNat i) 2 = sF v (p + 1) b (4 * i + 2) ∧ c_codeAt v p (Int32.ofNat b) (Int32.ofNat i) 3 = sF v (p + 1) b (4 * i + 3) := by
  have e0 := pu_code (f := 0) h1 hc hb hi (by omega)
  have e1 := pu_code (f := 1) h1 hc hb hi (by omega)
  have e2 := pu_code (f := 2) h1 hc hb hi (by omega)
  have e3 := pu_code (f := 3) h1 hc hb hi (by omega)
  exact ⟨e0, e1, e2, e3⟩
theorem sp_written {p c b i : Nat} (h1 : v.1 p 3 = Int32.ofNat c) (hc : c ≤ 6) (hb : b < c) (hi : i < 8) : c_writtenAt v p (Int32.ofNat b) (Int32.ofNat i) = sW (sF v (p + 1) b) i := by
  obtain ⟨e0, e1, _, _⟩ := sp_code h1 hc hb hi
  unfold c_writtenAt c_writes sW
  rw [e0, e1]
  by_cases h : sF v (p + 1) b (4 * i) = 9
  · rw [if_pos h, if_pos rfl, if_pos h]
  · rw [if_neg h, if_neg i10', if_neg h]
theorem sp_reads {p c b i : Nat} {r : Int32} (h1 : v.1 p 3 = Int32.ofNat c) (hc : c ≤ 6) (hb : b < c) (hi : i < 8) : c_readsAt v p (Int32.ofNat b) (Int32.ofNat i) r = 0 ↔ ¬ sR (sF v (p + 1) b) i r := by
  obtain ⟨e0, _, e2, e3⟩ := sp_code h1 hc hb hi
  unfold c_readsAt c_readsA c_readsB sR
  rw [e0, e2, e3]
  generalize sF v (p + 1) b (4 * i) = o
  generalize sF v (p + 1) b (4 * i + 2) = a
  generalize sF v (p + 1) b (4 * i + 3) = b'
  by_cases h0 : o = 0
  · subst h0
    simp
  · by_cases h2 : o < 2
    · by_cases ha : a = r <;> simp [h0, h2, ha]
    · by_cases h8 : o = 8
      · by_cases ha : a = r <;> simp [h0, h2, h8, ha]
      · by_cases ha : a = r <;> by_cases hb' : b' = r <;> simp [h0, h2, h8, ha, hb']
def sDep (s : Nat → Int32) (i j : Nat) : Prop := (¬ s (4 * i) < 7 ∧ ¬ s (4 * j) < 7) ∨ sW s i = sW s j ∨ sR s i (sW s j) ∨ sR s j (sW s i)
theorem ge7 {a : Int32} : 7 ≤ a ↔ ¬ a < 7 := Int32.not_lt.symm
theorem sp_dep {c b i j : Nat} (h1 : v.1 3 3 = Int32.ofNat c) (hc : c ≤ 6) (hb : b < c) (hi : i < 8) (hj : j < 8) : c_depends v (Int32.ofNat b) (Int32.ofNat i) (Int32.ofNat j) = 0 ↔ ¬ sDep (sF v 4 b) i j := by
  have wi := sp_written h1 hc hb hi
  have wj := sp_written h1 hc hb hj
  have ri := pp (sp_reads (r := sW (sF v 4 b) j) h1 hc hb hi)
  have rj := pp (sp_reads (r := sW (sF v 4 b) i) h1 hc hb hj)
  have oi := (sp_code h1 hc hb hi).1
  have oj := (sp_code h1 hc hb hj).1
  simp only [Nat.reduceAdd] at wi wj ri rj oi oj
  unfold c_depends sDep
  rw [wi, wj, oi, oj, ri, rj]
  simp only [ge7]
  by_cases a1 : sF v 4 b (4 * i) < 7 <;> by_cases a2 : sF v 4 b (4 * j) < 7 <;> by_cases a3 : sW (sF v 4 b) i = sW (sF v 4 b) j <;> by_cases a4 : c_readsAt v 3 (Int32.ofNat b) (Int32.ofNat i) (sW (sF v 4 b) j) = 0 <;> by_cases a5 : c_readsAt v 3 (Int32.ofNat b) (Int32.ofNat j) (sW (sF v 4 b) i) = 0 <;> simp [a1, a2, a3, a4, a5]
/-! the reference's -/
theorem rx0 {b i : Nat} (hb : b < 12) (hi : i < 8) : ((32 * Int32.ofNat b) + (4 * Int32.ofNat i)).toNatClampNeg = 32 * b + 4 * i := by
  rw [show (32 : Int32) = Int32.ofNat 32 from rfl, show (4 : Int32) = Int32.ofNat 4 from rfl, nn_mul, nn_mul, nn_add, nn_nat (by omega)]
theorem rxf {b i f : Nat} (hb : b < 12) (hi : i < 8) (hf : f < 4) : (((32 * Int32.ofNat b) + (4 * Int32.ofNat i)) + Int32.ofNat f).toNatClampNeg = 32 * b + 4 * i + f := by
  rw [show (32 : Int32) = Int32.ofNat 32 from rfl, show (4 : Int32) = Int32.ofNat 4 from rfl, nn_mul, nn_mul, nn_add, nn_add, nn_nat (by omega)]
theorem sr_wt {b i : Nat} {r : Int32} (hb : b < 12) (hi : i < 8) : r_writesTo v (Int32.ofNat b) (Int32.ofNat i) r = 0 ↔ ¬ sWr (sF v 67 b) i r := by
  unfold r_writesTo r_writes sWr sF
  rw [rx0 hb hi, show (((32 * Int32.ofNat b) + (4 * Int32.ofNat i)) + 1).toNatClampNeg = _ from rxf (f := 1) hb hi (by omega)]
  rw [show 32 * b + 4 * i + 1 = 32 * b + (4 * i + 1) by omega]
  by_cases h : v.1 67 (32 * b + 4 * i) = 9 <;> by_cases h2 : v.1 67 (32 * b + (4 * i + 1)) = r <;> simp [h, h2]
theorem sr_to {b i : Nat} {r : Int32} (hb : b < 12) (hi : i < 8) : r_touches v (Int32.ofNat b) (Int32.ofNat i) r = 0 ↔ ¬ (sWr (sF v 67 b) i r ∨ sR (sF v 67 b) i r) := by
  have hw := pp (sr_wt (v := v) (r := r) hb hi)
  rw [hw]
  unfold r_touches r_readsA r_readsB
  rw [rx0 hb hi, show (((32 * Int32.ofNat b) + (4 * Int32.ofNat i)) + 2).toNatClampNeg = _ from rxf (f := 2) hb hi (by omega), show (((32 * Int32.ofNat b) + (4 * Int32.ofNat i)) + 3).toNatClampNeg = _ from rxf (f := 3) hb hi (by omega)]
  unfold sR sF
  rw [show 32 * b + 4 * i + 2 = 32 * b + (4 * i + 2) by omega, show 32 * b + 4 * i + 3 = 32 * b + (4 * i + 3) by omega]
  generalize r_writesTo v (Int32.ofNat b) (Int32.ofNat i) r = W
  generalize v.1 67 (32 * b + 4 * i) = o
  generalize v.1 67 (32 * b + (4 * i + 2)) = a
  generalize v.1 67 (32 * b + (4 * i + 3)) = b'
  simp only [lt2]
  by_cases hW : W = 0
  · by_cases h0 : o = 0
    · subst h0
      simp [hW]
    · by_cases h2 : o < 2
      · by_cases ha : a = r <;> simp [hW, h0, h2, ha]
      · by_cases h8 : o = 8
        · by_cases ha : a = r <;> simp [hW, h0, h2, h8, ha]
        · by_cases ha : a = r <;> by_cases hb' : b' = r <;> simp [hW, h0, h2, h8, ha, hb']
  · simp [hW]
end SPA
