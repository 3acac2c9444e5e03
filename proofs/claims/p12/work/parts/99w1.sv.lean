/-! serves, still holds, the first one -/
section SPC
variable {v w : vm_V} {s : Nat → Int32}
def sG (s : Nat → Int32) (j i m : Nat) : Prop := ¬ sWr s m (s (4 * i + 2)) ∧ (s (4 * i) = 8 ∨ ¬ sWr s m (s (4 * i + 3))) ∧ (m = j ∨ ¬ sWr s m (s (4 * j + 1))) ∧ ¬ (s (4 * i) = 8 ∧ s (4 * m) = 9)
def sEq (s : Nat → Int32) (j i : Nat) : Prop := s (4 * j) = s (4 * i) ∧ s (4 * j + 2) = s (4 * i + 2) ∧ s (4 * j + 3) = s (4 * i + 3)
def sSrv (s : Nat → Int32) (j i : Nat) : Prop := sEq s j i ∧ ∀ m : Nat, j ≤ m → m < i → sG s j i m
def sH (s : Nat → Int32) (e m : Nat) : Prop := ¬ (s (4 * e) = 8 ∧ s (4 * m) = 9) ∧ ¬ sW s m = s (4 * e + 1) ∧ ¬ sR s e (sW s m)
def sCl (s : Nat → Int32) (j i : Nat) : Prop := sEq s j i ∧ ¬ sR s j (s (4 * j + 1)) ∧ ∀ m : Nat, j < m → m < i → sH s j m
theorem srv_cl {j i : Nat} (h : sWF s) (hj : j < i) (hi : i < 8) (h2 : ¬ s (4 * i) < 2) (h9 : ¬ 9 ≤ s (4 * i)) : sSrv s j i ↔ sCl s j i := by
  unfold sSrv sCl
  have key : sEq s j i → ((∀ m : Nat, j ≤ m → m < i → sG s j i m) ↔ ¬ sR s j (s (4 * j + 1)) ∧ ∀ m : Nat, j < m → m < i → sH s j m) := by
    rintro ⟨e0, e2, e3⟩
    have n9' : ¬ s (4 * j) = 9 := fun q => h9 (by rw [← e0, q]; decide)
    have n0' : ¬ s (4 * j) = 0 := fun q => h2 (by rw [← e0, q]; decide)
    have n2' : ¬ s (4 * j) < 2 := by rw [e0]; exact h2
    have rj : ∀ r : Int32, sR s j r ↔ (s (4 * i + 2) = r ∨ (¬ s (4 * i) = 8 ∧ s (4 * i + 3) = r)) := by
      intro r
      unfold sR
      rw [← e0, ← e2, ← e3]
      simp [n0', n2']
    have g0 : sG s j i j ↔ ¬ sR s j (s (4 * j + 1)) := by
      rw [rj]
      unfold sG sWr
      have n8 : ¬ (s (4 * i) = 8 ∧ s (4 * j) = 9) := fun q => n9' q.2
      have c1 : (s (4 * j + 1) = s (4 * i + 2)) ↔ (s (4 * i + 2) = s (4 * j + 1)) := eq_comm
      have c2 : (s (4 * j + 1) = s (4 * i + 3)) ↔ (s (4 * i + 3) = s (4 * j + 1)) := eq_comm
      rw [c1, c2]
      by_cases a8 : s (4 * i) = 8 <;> by_cases a1 : s (4 * i + 2) = s (4 * j + 1) <;> by_cases a2 : s (4 * i + 3) = s (4 * j + 1) <;> simp [n9', a8, a1, a2]
    have gm : ∀ m : Nat, j < m → m < i → (sG s j i m ↔ sH s j m) := by
      intro m m1' m2'
      unfold sG sH
      rw [rj]
      by_cases a9 : s (4 * m) = 9
      · rw [sW_9 a9]
        have d1 : ¬ (-1 : Int32) = s (4 * j + 1) := fun q => by
          have := (h j (by omega)).2.1.1
          rw [← q, m1] at this
          omega
        have d2 : ¬ s (4 * i + 2) = -1 := fun q => by
          have := (h i hi).2.2.1.1
          rw [q, m1] at this
          omega
        have d3 : ¬ s (4 * i + 3) = -1 := fun q => by
          have := ((h i hi).2.2.2 (by rw [← e0]; exact n0')).1
          rw [q, m1] at this
          omega
        unfold sWr
        rw [e0]
        simp [a9, d1, d2, d3]
      · rw [sW_n a9]
        unfold sWr
        have c1 : (s (4 * i + 2) = s (4 * m + 1)) ↔ (s (4 * m + 1) = s (4 * i + 2)) := eq_comm
        have c2 : (s (4 * i + 3) = s (4 * m + 1)) ↔ (s (4 * m + 1) = s (4 * i + 3)) := eq_comm
        have hm : ¬ m = j := by omega
        rw [c1, c2, e0]
        generalize (s (4 * m + 1) = s (4 * i + 2)) = P1
        generalize (s (4 * m + 1) = s (4 * i + 3)) = P2
        generalize (s (4 * m + 1) = s (4 * j + 1)) = P3
        generalize (s (4 * i) = 8) = P8
        by_cases a8 : P8 <;> by_cases a1 : P1 <;> by_cases a2 : P2 <;> by_cases a3 : P3 <;> simp [a9, a8, a1, a2, a3, hm]
    constructor
    · intro hA
      exact ⟨g0.mp (hA j (by omega) hj), fun m m1' m2' => (gm m m1' m2').mp (hA m (by omega) m2')⟩
    · rintro ⟨b1, b2⟩ m m1' m2'
      by_cases e : m = j
      · rw [e]; exact g0.mpr b1
      · exact (gm m (by omega) m2').mpr (b2 m (by omega) m2')
  constructor
  · rintro ⟨a, b⟩
    exact ⟨a, (key a).mp b⟩
  · rintro ⟨a, b⟩
    exact ⟨a, (key a).mpr b⟩
/-- the class's -/
theorem cl_eq {c b i j : Nat} (h1 : v.1 3 3 = Int32.ofNat c) (hc : c ≤ 6) (hb : b < c) (hi : i < 8) (hj : j < 8) : c_sameWork v (Int32.ofNat b) (Int32.ofNat j) (Int32.ofNat i) = 0 ↔ ¬ sEq (sF v 4 b) j i := by
  obtain ⟨i0, _, i2, i3⟩ := sp_code h1 hc hb hi
  obtain ⟨j0, _, j2, j3⟩ := sp_code h1 hc hb hj
  unfold c_sameWork sEq
  simp only [Nat.reduceAdd] at i0 i2 i3 j0 j2 j3
  rw [i0, i2, i3, j0, j2, j3]
  by_cases a0 : sF v 4 b (4 * j) = sF v 4 b (4 * i) <;> by_cases a2 : sF v 4 b (4 * j + 2) = sF v 4 b (4 * i + 2) <;> by_cases a3 : sF v 4 b (4 * j + 3) = sF v 4 b (4 * i + 3) <;> simp [a0, a2, a3]
theorem cl_stl {c b e n : Nat} (h1 : v.1 3 3 = Int32.ofNat c) (hc : c ≤ 6) (hb : b < c) (hn : n ≤ 8) (he : e < 8) : ∀ (k m : Nat), m + k = n → (c_stl v (Int32.ofNat b) (Int32.ofNat e) (Int32.ofNat n) (sF v 4 b (4 * e + 1)) (if sF v 4 b (4 * e) = 8 then 1 else 0) k (Int32.ofNat m) = 0 ↔ ¬ ∀ q : Nat, m ≤ q → q < n → sH (sF v 4 b) e q)
  | 0, m, hm => by
    unfold c_stl
    exact ⟨fun h => absurd h i10', fun h => absurd (fun q q1 q2 => by omega) h⟩
  | k + 1, m, hm => by
    have wm := sp_written (i := m) h1 hc hb (by omega)
    have re := pp (sp_reads (i := e) (r := sW (sF v 4 b) m) h1 hc hb he)
    have om := (sp_code (i := m) h1 hc hb (by omega)).1
    have ih := cl_stl h1 hc hb hn he k (m + 1) (by omega)
    have hs : (∀ q : Nat, m ≤ q → q < n → sH (sF v 4 b) e q) ↔ sH (sF v 4 b) e m ∧ ∀ q : Nat, m + 1 ≤ q → q < n → sH (sF v 4 b) e q := by
      constructor
      · intro h
        exact ⟨h m (by omega) (by omega), fun q q1 q2 => h q (by omega) q2⟩
      · rintro ⟨a, b⟩ q q1 q2
        by_cases e : q = m
        · rw [e]; exact a
        · exact b q (by omega) q2
    rw [hs]
    simp only [Nat.reduceAdd] at wm re om
    unfold c_stl
    rw [wm, om, nn_s]
    generalize c_stl v (Int32.ofNat b) (Int32.ofNat e) (Int32.ofNat n) (sF v 4 b (4 * e + 1)) (if sF v 4 b (4 * e) = 8 then 1 else 0) k (Int32.ofNat (m + 1)) = z at ih ⊢
    generalize (∀ q : Nat, m + 1 ≤ q → q < n → sH (sF v 4 b) e q) = Z at ih ⊢
    unfold sH
    rw [re]
    by_cases a8 : sF v 4 b (4 * e) = 8 <;> by_cases a9 : sF v 4 b (4 * m) = 9 <;> by_cases a1 : sW (sF v 4 b) m = sF v 4 b (4 * e + 1) <;> by_cases a2 : c_readsAt v 3 (Int32.ofNat b) (Int32.ofNat e) (sW (sF v 4 b) m) = 0 <;> by_cases a3 : Z <;> simp [a8, a9, a1, a2, a3, ih]
theorem cl_sh {c b e n : Nat} (h1 : v.1 3 3 = Int32.ofNat c) (hc : c ≤ 6) (hb : b < c) (hn : n ≤ 8) (he : e < n) : c_stillHolds v (Int32.ofNat b) (Int32.ofNat e) (Int32.ofNat n) = 0 ↔ ¬ (¬ sR (sF v 4 b) e (sF v 4 b (4 * e + 1)) ∧ ∀ m : Nat, e < m → m < n → sH (sF v 4 b) e m) := by
  obtain ⟨e0, e1, _, _⟩ := sp_code (i := e) h1 hc hb (by omega)
  have re := pp (sp_reads (i := e) (r := sF v 4 b (4 * e + 1)) h1 hc hb (by omega))
  simp only [Nat.reduceAdd] at e0 e1 re
  have hk : ((Int32.ofNat n).toInt - (Int32.ofNat e + 1).toInt).toNat = n - (e + 1) := by
    rw [nn_s, Int32.toInt_ofNat_of_lt (by omega), Int32.toInt_ofNat_of_lt (by omega)]
    omega
  have hl := cl_stl h1 hc hb hn (e := e) (by omega) (n - (e + 1)) (e + 1) (by omega)
  unfold c_stillHolds
  rw [e0, e1, hk, nn_s]
  by_cases q : c_readsAt v 3 (Int32.ofNat b) (Int32.ofNat e) (sF v 4 b (4 * e + 1)) = 0
  · rw [if_pos q]
    refine hl.trans ?_
    constructor
    · intro a c'
      exact a (fun m m1' m2' => c'.2 m (by omega) m2')
    · intro a c'
      exact a ⟨fun r => re.mp r q, fun m m1' m2' => c' m (by omega) m2'⟩
  · rw [if_neg q]
    exact ⟨fun _ c' => c'.1 (re.mpr q), fun _ => rfl⟩
/-- the reference's -/
theorem sr_svl {b j i : Nat} (hb : b < 12) (hj : j < 8) (hi : i < 8) : ∀ (k m : Nat) (gd : Int32), m + k = i → (gd = 0 ∨ gd = 1) → (r_svl v (Int32.ofNat b) (Int32.ofNat j) (Int32.ofNat i) ((32 * Int32.ofNat b) + (4 * Int32.ofNat j)) ((32 * Int32.ofNat b) + (4 * Int32.ofNat i)) (sF v 67 b (4 * i)) k (Int32.ofNat m) gd = 0 ↔ ¬ (gd = 1 ∧ ∀ q : Nat, m ≤ q → q < i → sG (sF v 67 b) j i q))
  | 0, m, gd, hm, hg => by
    unfold r_svl
    rcases hg with rfl | rfl
    · simp
    · exact ⟨fun h => absurd h i10', fun h => absurd ⟨rfl, fun q q1 q2 => by omega⟩ h⟩
  | k + 1, m, gd, hm, hg => by
    have f2 : v.1 67 (((32 * Int32.ofNat b) + (4 * Int32.ofNat i)) + 2).toNatClampNeg = sF v 67 b (4 * i + 2) := by
      rw [show (((32 * Int32.ofNat b) + (4 * Int32.ofNat i)) + 2).toNatClampNeg = _ from rxf (f := 2) hb hi (by omega)]
      unfold sF
      rw [show 32 * b + 4 * i + 2 = 32 * b + (4 * i + 2) by omega]
    have f3 : v.1 67 (((32 * Int32.ofNat b) + (4 * Int32.ofNat i)) + 3).toNatClampNeg = sF v 67 b (4 * i + 3) := by
      rw [show (((32 * Int32.ofNat b) + (4 * Int32.ofNat i)) + 3).toNatClampNeg = _ from rxf (f := 3) hb hi (by omega)]
      unfold sF
      rw [show 32 * b + 4 * i + 3 = 32 * b + (4 * i + 3) by omega]
    have f1 : v.1 67 (((32 * Int32.ofNat b) + (4 * Int32.ofNat j)) + 1).toNatClampNeg = sF v 67 b (4 * j + 1) := by
      rw [show (((32 * Int32.ofNat b) + (4 * Int32.ofNat j)) + 1).toNatClampNeg = _ from rxf (f := 1) hb hj (by omega)]
      unfold sF
      rw [show 32 * b + 4 * j + 1 = 32 * b + (4 * j + 1) by omega]
    have f0 : v.1 67 ((32 * Int32.ofNat b) + (4 * Int32.ofNat m)).toNatClampNeg = sF v 67 b (4 * m) := by
      rw [rx0 hb (by omega)]
      rfl
    have wa := pp (sr_wt (v := v) (i := m) (r := sF v 67 b (4 * i + 2)) hb (by omega))
    have wb := pp (sr_wt (v := v) (i := m) (r := sF v 67 b (4 * i + 3)) hb (by omega))
    have wd := pp (sr_wt (v := v) (i := m) (r := sF v 67 b (4 * j + 1)) hb (by omega))
    have mj : (Int32.ofNat m = Int32.ofNat j) ↔ m = j := nn_eq (by omega) (by omega)
    unfold r_svl
    rw [f2, f3, f1, f0, nn_s]
    generalize hz : (if (if gd = 0 then 0 else if r_writesTo v (Int32.ofNat b) (Int32.ofNat m) (sF v 67 b (4 * i + 2)) = 0 then if sF v 67 b (4 * i) = 8 then 1 else if r_writesTo v (Int32.ofNat b) (Int32.ofNat m) (sF v 67 b (4 * i + 3)) = 0 then 1 else 0 else 0 : Int32) = 0 then 0 else if Int32.ofNat m = Int32.ofNat j then if sF v 67 b (4 * i) = 8 then if sF v 67 b (4 * m) = 9 then 0 else 1 else 1 else if r_writesTo v (Int32.ofNat b) (Int32.ofNat m) (sF v 67 b (4 * j + 1)) = 0 then if sF v 67 b (4 * i) = 8 then if sF v 67 b (4 * m) = 9 then 0 else 1 else 1 else (0 : Int32)) = z
    have g1 : z = 0 ∨ z = 1 := by
      rw [← hz]
      repeat' split
      all_goals simp
    have g2 : z = 1 ↔ gd = 1 ∧ sG (sF v 67 b) j i m := by
      rw [← hz]
      unfold sG
      rw [wa, wb, wd, ← mj]
      rcases hg with rfl | rfl
      · simp
      · by_cases a1 : r_writesTo v (Int32.ofNat b) (Int32.ofNat m) (sF v 67 b (4 * i + 2)) = 0 <;> by_cases a2 : sF v 67 b (4 * i) = 8 <;> by_cases a3 : r_writesTo v (Int32.ofNat b) (Int32.ofNat m) (sF v 67 b (4 * i + 3)) = 0 <;> by_cases a4 : Int32.ofNat m = Int32.ofNat j <;> by_cases a5 : sF v 67 b (4 * m) = 9 <;> by_cases a6 : r_writesTo v (Int32.ofNat b) (Int32.ofNat m) (sF v 67 b (4 * j + 1)) = 0 <;> simp [a1, a2, a3, a4, a5, a6]
    rw [sr_svl hb hj hi k (m + 1) z (by omega) g1, g2]
    apply not_congr
    constructor
    · rintro ⟨⟨b1, b2⟩, b3⟩
      refine ⟨b1, fun q q1 q2 => ?_⟩
      by_cases e : q = m
      · rw [e]; exact b2
      · exact b3 q (by omega) q2
    · rintro ⟨b1, b2⟩
      exact ⟨⟨b1, b2 m (by omega) (by omega)⟩, fun q q1 q2 => b2 q (by omega) q2⟩
theorem sr_srv {b j i : Nat} (hb : b < 12) (hj : j < i) (hi : i < 8) : r_serves v (Int32.ofNat b) (Int32.ofNat j) (Int32.ofNat i) = 0 ↔ ¬ sSrv (sF v 67 b) j i := by
  have hk : ((Int32.ofNat i).toInt - (Int32.ofNat j).toInt).toNat = i - j := by
    rw [Int32.toInt_ofNat_of_lt (by omega), Int32.toInt_ofNat_of_lt (by omega)]
    omega
  have fi : ∀ f : Nat, f < 4 → ∀ k : Nat, k < 8 → v.1 67 (((32 * Int32.ofNat b) + (4 * Int32.ofNat k)) + Int32.ofNat f).toNatClampNeg = sF v 67 b (4 * k + f) := by
    intro f hf k hk
    rw [rxf hb hk hf]
    unfold sF
    rw [show 32 * b + 4 * k + f = 32 * b + (4 * k + f) by omega]
  have f0 : ∀ k : Nat, k < 8 → v.1 67 ((32 * Int32.ofNat b) + (4 * Int32.ofNat k)).toNatClampNeg = sF v 67 b (4 * k) := by
    intro k hk
    rw [rx0 hb hk]
    rfl
  unfold r_serves
  rw [f0 j (by omega), f0 i hi, show v.1 67 (((32 * Int32.ofNat b) + (4 * Int32.ofNat j)) + 2).toNatClampNeg = _ from fi 2 (by omega) j (by omega), show v.1 67 (((32 * Int32.ofNat b) + (4 * Int32.ofNat i)) + 2).toNatClampNeg = _ from fi 2 (by omega) i hi, show v.1 67 (((32 * Int32.ofNat b) + (4 * Int32.ofNat j)) + 3).toNatClampNeg = _ from fi 3 (by omega) j (by omega), show v.1 67 (((32 * Int32.ofNat b) + (4 * Int32.ofNat i)) + 3).toNatClampNeg = _ from fi 3 (by omega) i hi, hk]
  have hl := sr_svl (v := v) hb (j := j) (by omega) hi (i - j) j 1 (by omega) (Or.inr rfl)
  unfold sSrv sEq
  by_cases a0 : sF v 67 b (4 * j) = sF v 67 b (4 * i)
  · by_cases a2 : sF v 67 b (4 * j + 2) = sF v 67 b (4 * i + 2)
    · by_cases a3 : sF v 67 b (4 * j + 3) = sF v 67 b (4 * i + 3)
      · rw [if_pos a0, if_pos a2, if_pos a3, hl]
        simp [a0, a2, a3]
      · simp [a0, a2, a3]
    · simp [a0, a2]
  · simp [a0]
end SPC
