/-! depends, serves: the reference's are the class's -/
section SPB
variable {v w : vm_V} {s : Nat → Int32}
def sWF (s : Nat → Int32) : Prop := ∀ i : Nat, i < 8 → (0 ≤ (s (4 * i)).toInt ∧ (s (4 * i)).toInt ≤ 9) ∧ (0 ≤ (s (4 * i + 1)).toInt ∧ (s (4 * i + 1)).toInt ≤ 5) ∧ (0 ≤ (s (4 * i + 2)).toInt ∧ (s (4 * i + 2)).toInt ≤ 5) ∧ (¬ s (4 * i) = 0 → 0 ≤ (s (4 * i + 3)).toInt ∧ (s (4 * i + 3)).toInt ≤ 5)
theorem wf_d {i : Nat} (h : sWF s) (hi : i < 8) : ∃ q : Nat, q < 6 ∧ s (4 * i + 1) = Int32.ofNat q := by
  obtain ⟨_, ⟨a, b⟩, _⟩ := h i hi
  obtain ⟨q, q1, q2, q3⟩ := nn_of a
  exact ⟨q, by omega, q1⟩
theorem m1 : (-1 : Int32).toInt = -1 := rfl
theorem wf_nr {i : Nat} (h : sWF s) (hi : i < 8) : ¬ sR s i (-1) := by
  obtain ⟨_, _, ⟨a, _⟩, b⟩ := h i hi
  rintro (⟨h0, h1⟩ | ⟨h2, h8, h3⟩)
  · rw [h1, m1] at a
    omega
  · have : ¬ s (4 * i) = 0 := fun q => h2 (by rw [q]; decide)
    have := (b this).1
    rw [h3, m1] at this
    omega
theorem sW_9 {i : Nat} (h : s (4 * i) = 9) : sW s i = -1 := by
  unfold sW
  rw [if_pos h]
theorem sW_n {i : Nat} (h : ¬ s (4 * i) = 9) : sW s i = s (4 * i + 1) := by
  unfold sW
  rw [if_neg h]
def rQ (s : Nat → Int32) (i j : Nat) (r : Int32) : Prop := (sWr s j r ∧ (sWr s i r ∨ sR s i r)) ∨ (sWr s i r ∧ (sWr s j r ∨ sR s j r))
theorem dep_rQ {i j : Nat} (h : sWF s) (hi : i < 8) (hj : j < 8) : sDep s i j ↔ (¬ s (4 * i) < 7 ∧ ¬ s (4 * j) < 7) ∨ ∃ q : Nat, q < 6 ∧ rQ s i j (Int32.ofNat q) := by
  have g9 : ∀ a : Int32, a = 9 → ¬ a < 7 := fun a ha => by rw [ha]; decide
  have nm : ∀ k : Nat, k < 8 → ¬ s (4 * k + 1) = -1 := fun k hk q => by
    have := (h k hk).2.1.1
    rw [q, m1] at this
    omega
  constructor
  · rintro (d | d | d | d)
    · exact Or.inl d
    · by_cases i9 : s (4 * i) = 9
      · by_cases j9 : s (4 * j) = 9
        · exact Or.inl ⟨g9 _ i9, g9 _ j9⟩
        · rw [sW_9 i9, sW_n j9] at d
          exact absurd d.symm (nm j hj)
      · by_cases j9 : s (4 * j) = 9
        · rw [sW_n i9, sW_9 j9] at d
          exact absurd d (nm i hi)
        · rw [sW_n i9, sW_n j9] at d
          obtain ⟨q, q1, q2⟩ := wf_d h hi
          exact Or.inr ⟨q, q1, Or.inl ⟨⟨j9, by rw [← d, q2]⟩, Or.inl ⟨i9, q2⟩⟩⟩
    · by_cases j9 : s (4 * j) = 9
      · rw [sW_9 j9] at d
        exact absurd d (wf_nr h hi)
      · rw [sW_n j9] at d
        obtain ⟨q, q1, q2⟩ := wf_d h hj
        rw [q2] at d
        exact Or.inr ⟨q, q1, Or.inl ⟨⟨j9, q2⟩, Or.inr d⟩⟩
    · by_cases i9 : s (4 * i) = 9
      · rw [sW_9 i9] at d
        exact absurd d (wf_nr h hj)
      · rw [sW_n i9] at d
        obtain ⟨q, q1, q2⟩ := wf_d h hi
        rw [q2] at d
        exact Or.inr ⟨q, q1, Or.inr ⟨⟨i9, q2⟩, Or.inr d⟩⟩
  · rintro (d | ⟨q, q1, (⟨⟨j9, jd⟩, (⟨i9, id⟩ | r)⟩ | ⟨⟨i9, id⟩, (⟨j9, jd⟩ | r)⟩)⟩)
    · exact Or.inl d
    · exact Or.inr (Or.inl (by rw [sW_n i9, sW_n j9, id, jd]))
    · exact Or.inr (Or.inr (Or.inl (by rw [sW_n j9, jd]; exact r)))
    · exact Or.inr (Or.inl (by rw [sW_n i9, sW_n j9, id, jd]))
    · exact Or.inr (Or.inr (Or.inr (by rw [sW_n i9, id]; exact r)))
theorem dl {b i j : Nat} (hb : b < 12) (hi : i < 8) (hj : j < 8) : ∀ (k r : Nat) (is : Int32), r + k ≤ 6 → (is = 0 ∨ is = 1) → (r_dpl v (Int32.ofNat b) (Int32.ofNat i) (Int32.ofNat j) k (Int32.ofNat r) is = 0 ↔ is = 0 ∧ ∀ q : Nat, r ≤ q → q < r + k → ¬ rQ (sF v 67 b) i j (Int32.ofNat q))
  | 0, r, is, _, _ => by
    unfold r_dpl
    exact ⟨fun h => ⟨h, fun q h1 h2 => by omega⟩, fun h => h.1⟩
  | k + 1, r, is, hr, his => by
    have wi := pp (sr_wt (v := v) (r := Int32.ofNat r) hb hi)
    have wj := pp (sr_wt (v := v) (r := Int32.ofNat r) hb hj)
    have ti := pp (sr_to (v := v) (r := Int32.ofNat r) hb hi)
    have tj := pp (sr_to (v := v) (r := Int32.ofNat r) hb hj)
    unfold r_dpl
    rw [nn_s]
    generalize hz : (if is = 0 then if r_writesTo v (Int32.ofNat b) (Int32.ofNat j) (Int32.ofNat r) = 0 then if r_writesTo v (Int32.ofNat b) (Int32.ofNat i) (Int32.ofNat r) = 0 then 0 else if r_touches v (Int32.ofNat b) (Int32.ofNat j) (Int32.ofNat r) = 0 then 0 else 1 else if r_touches v (Int32.ofNat b) (Int32.ofNat i) (Int32.ofNat r) = 0 then if r_writesTo v (Int32.ofNat b) (Int32.ofNat i) (Int32.ofNat r) = 0 then 0 else if r_touches v (Int32.ofNat b) (Int32.ofNat j) (Int32.ofNat r) = 0 then 0 else 1 else 1 else (1 : Int32)) = z
    have h1 : z = 0 ∨ z = 1 := by
      rw [← hz]
      repeat' split
      all_goals simp
    have h2 : z = 0 ↔ is = 0 ∧ ¬ rQ (sF v 67 b) i j (Int32.ofNat r) := by
      rw [← hz]
      unfold rQ
      rw [ti, tj, wi, wj]
      by_cases a0 : is = 0 <;> by_cases a1 : r_writesTo v (Int32.ofNat b) (Int32.ofNat j) (Int32.ofNat r) = 0 <;> by_cases a2 : r_writesTo v (Int32.ofNat b) (Int32.ofNat i) (Int32.ofNat r) = 0 <;> by_cases a3 : r_touches v (Int32.ofNat b) (Int32.ofNat i) (Int32.ofNat r) = 0 <;> by_cases a4 : r_touches v (Int32.ofNat b) (Int32.ofNat j) (Int32.ofNat r) = 0 <;> simp [a0, a1, a2, a3, a4]
    rw [dl hb hi hj k (r + 1) z (by omega) h1, h2]
    constructor
    · rintro ⟨⟨b1, b2⟩, b3⟩
      refine ⟨b1, fun q q1 q2 => ?_⟩
      by_cases e : q = r
      · rw [e]; exact b2
      · exact b3 q (by omega) (by omega)
    · rintro ⟨b1, b2⟩
      exact ⟨⟨b1, b2 r (by omega) (by omega)⟩, fun q q1 q2 => b2 q (by omega) (by omega)⟩
theorem sr_dep {b i j : Nat} (hb : b < 12) (hi : i < 8) (hj : j < 8) (h : sWF (sF v 67 b)) : r_depends v (Int32.ofNat b) (Int32.ofNat i) (Int32.ofNat j) = 0 ↔ ¬ sDep (sF v 67 b) i j := by
  unfold r_depends
  rw [rx0 hb hi, rx0 hb hj, show ((6 : Int32).toInt - (0 : Int32).toInt).toNat = 6 from rfl]
  have h01 : (if v.1 67 (32 * b + 4 * i) < 7 then 0 else if v.1 67 (32 * b + 4 * j) < 7 then 0 else (1 : Int32)) = 0 ∨ (if v.1 67 (32 * b + 4 * i) < 7 then 0 else if v.1 67 (32 * b + 4 * j) < 7 then 0 else (1 : Int32)) = 1 := by
    repeat' split
    all_goals simp
  have e := dl (v := v) hb hi hj 6 0 (if v.1 67 (32 * b + 4 * i) < 7 then 0 else if v.1 67 (32 * b + 4 * j) < 7 then 0 else 1) (by omega) h01
  refine Iff.trans e ?_
  rw [dep_rQ h hi hj]
  unfold sF
  constructor
  · rintro ⟨a, c⟩ (⟨d1, d2⟩ | ⟨q, q1, q2⟩)
    · rw [if_neg d1, if_neg d2] at a
      exact i10' a
    · exact c q (by omega) (by omega) q2
  · intro hn
    refine ⟨?_, fun q _ q2 q3 => hn (Or.inr ⟨q, by omega, q3⟩)⟩
    by_cases d1 : v.1 67 (32 * b + 4 * i) < 7
    · rw [if_pos d1]
    · by_cases d2 : v.1 67 (32 * b + 4 * j) < 7
      · rw [if_neg d1, if_pos d2]
      · exact absurd (Or.inl ⟨d1, d2⟩) hn
end SPB
