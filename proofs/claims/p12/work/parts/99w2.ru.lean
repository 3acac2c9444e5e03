/-! reuse: what one side finds, the other finds -/
section RUA
variable {v w : vm_V} {s s' : Nat → Int32}
theorem cg_sWr {i : Nat} {r : Int32} (h : ∀ k : Nat, k < 32 → s k = s' k) (hi : i < 8) : sWr s i r ↔ sWr s' i r := by
  unfold sWr
  rw [h (4 * i) (by omega), h (4 * i + 1) (by omega)]
theorem cg_sW {i : Nat} (h : ∀ k : Nat, k < 32 → s k = s' k) (hi : i < 8) : sW s i = sW s' i := by
  unfold sW
  rw [h (4 * i) (by omega), h (4 * i + 1) (by omega)]
theorem cg_sR {i : Nat} {r : Int32} (h : ∀ k : Nat, k < 32 → s k = s' k) (hi : i < 8) : sR s i r ↔ sR s' i r := by
  unfold sR
  rw [h (4 * i) (by omega), h (4 * i + 2) (by omega), h (4 * i + 3) (by omega)]
theorem cg_sDep {i j : Nat} (h : ∀ k : Nat, k < 32 → s k = s' k) (hi : i < 8) (hj : j < 8) : sDep s i j ↔ sDep s' i j := by
  unfold sDep
  rw [h (4 * i) (by omega), h (4 * j) (by omega), cg_sW h hi, cg_sW h hj, cg_sR h hi, cg_sR h hj]
theorem cg_sEq {i j : Nat} (h : ∀ k : Nat, k < 32 → s k = s' k) (hi : i < 8) (hj : j < 8) : sEq s j i ↔ sEq s' j i := by
  unfold sEq
  rw [h (4 * i) (by omega), h (4 * j) (by omega), h (4 * i + 2) (by omega), h (4 * j + 2) (by omega), h (4 * i + 3) (by omega), h (4 * j + 3) (by omega)]
theorem cg_sH {e m : Nat} (h : ∀ k : Nat, k < 32 → s k = s' k) (he : e < 8) (hm : m < 8) : sH s e m ↔ sH s' e m := by
  unfold sH
  rw [h (4 * e) (by omega), h (4 * m) (by omega), h (4 * e + 1) (by omega), cg_sW h hm, cg_sR h he]
theorem cg_sCl {i j : Nat} (h : ∀ k : Nat, k < 32 → s k = s' k) (hj : j < i) (hi : i < 8) : sCl s j i ↔ sCl s' j i := by
  unfold sCl
  rw [cg_sEq h hi (by omega), h (4 * j + 1) (by omega), cg_sR h (show j < 8 by omega)]
  constructor
  · rintro ⟨a, b, c⟩
    exact ⟨a, b, fun m m1 m2 => (cg_sH h (by omega) (by omega)).mp (c m m1 m2)⟩
  · rintro ⟨a, b, c⟩
    exact ⟨a, b, fun m m1 m2 => (cg_sH h (by omega) (by omega)).mpr (c m m1 m2)⟩
theorem cg_sWF (h : ∀ k : Nat, k < 32 → s k = s' k) (hs : sWF s) : sWF s' := by
  intro i hi
  have := hs i hi
  rw [h (4 * i) (by omega), h (4 * i + 1) (by omega), h (4 * i + 2) (by omega), h (4 * i + 3) (by omega)] at this
  exact this
/-- the first one -/
def Fst (C : Nat → Prop) (e i : Nat) (r : Int32) : Prop := (r = -1 ∧ ∀ q : Nat, e ≤ q → q < i → ¬ C q) ∨ ∃ q : Nat, e ≤ q ∧ q < i ∧ C q ∧ (∀ p : Nat, e ≤ p → p < q → ¬ C p) ∧ r = Int32.ofNat q
theorem Fst_u {C D : Nat → Prop} {e i : Nat} {r t : Int32} (hc : ∀ q : Nat, e ≤ q → q < i → (C q ↔ D q)) (h1 : Fst C e i r) (h2 : Fst D e i t) : r = t := by
  rcases h1 with ⟨a1, a2⟩ | ⟨q, a1, a2, a3, a4, a5⟩
  · rcases h2 with ⟨b1, b2⟩ | ⟨p, b1, b2, b3, b4, b5⟩
    · rw [a1, b1]
    · exact absurd ((hc p b1 b2).mpr b3) (a2 p b1 b2)
  · rcases h2 with ⟨b1, b2⟩ | ⟨p, b1, b2, b3, b4, b5⟩
    · exact absurd ((hc q a1 a2).mp a3) (b2 q a1 a2)
    · have : q = p := by
        rcases Nat.lt_trichotomy q p with l | l | l
        · exact absurd ((hc q a1 a2).mp a3) (b4 q a1 l)
        · exact l
        · exact absurd ((hc p b1 b2).mpr b3) (a4 p b1 l)
      rw [a5, b5, this]
theorem cl_fel {c b i : Nat} (h1 : v.1 3 3 = Int32.ofNat c) (hc : c ≤ 6) (hb : b < c) (hi : i < 8) : ∀ (k e : Nat), e + k = i → Fst (fun q => sCl (sF v 4 b) q i) e i (c_fel v (Int32.ofNat b) (Int32.ofNat i) k (Int32.ofNat e))
  | 0, e, he => Or.inl ⟨rfl, fun q q1 q2 => by omega⟩
  | k + 1, e, he => by
    have ih := cl_fel h1 hc hb hi k (e + 1) (by omega)
    have a := cl_eq (i := i) (j := e) h1 hc hb hi (by omega)
    have b' := cl_sh (e := e) (n := i) h1 hc hb (by omega) (by omega)
    have up : ¬ sCl (sF v 4 b) e i → Fst (fun q => sCl (sF v 4 b) q i) e i (c_fel v (Int32.ofNat b) (Int32.ofNat i) k (Int32.ofNat (e + 1))) := by
      intro hn
      rcases ih with ⟨r1, r2⟩ | ⟨q, r1, r2, r3, r4, r5⟩
      · refine Or.inl ⟨r1, fun q q1 q2 => ?_⟩
        by_cases ee : q = e
        · rw [ee]; exact hn
        · exact r2 q (by omega) q2
      · refine Or.inr ⟨q, by omega, r2, r3, fun p p1 p2 => ?_, r5⟩
        by_cases ee : p = e
        · rw [ee]; exact hn
        · exact r4 p (by omega) p2
    unfold c_fel
    rw [nn_s]
    by_cases q1 : c_sameWork v (Int32.ofNat b) (Int32.ofNat e) (Int32.ofNat i) = 0
    · rw [if_pos q1]
      exact up (fun hC => a.mp q1 hC.1)
    · rw [if_neg q1]
      by_cases q2 : c_stillHolds v (Int32.ofNat b) (Int32.ofNat e) (Int32.ofNat i) = 0
      · rw [if_pos q2]
        exact up (fun hC => b'.mp q2 hC.2)
      · rw [if_neg q2]
        refine Or.inr ⟨e, Nat.le_refl e, by omega, ⟨(pp a).mpr q1, (pp b').mpr q2⟩, fun p p1 p2 => by omega, rfl⟩
theorem nn_p1 {k : Nat} : Int32.ofNat (k + 1) + (-1) = Int32.ofNat k := by
  rw [← nn_s, Int32.add_assoc]
  exact Int32.add_zero _
theorem sr_rfl {b i : Nat} {op : Int32} (hb : b < 12) (hi : i < 8) (h2 : ¬ op ≤ 1) (h9 : ¬ 9 ≤ op) : ∀ (k : Nat) (j fd : Int32), k ≤ i → (∀ z : Nat, k = z + 1 → j = Int32.ofNat z) → ((r_rfl v (Int32.ofNat b) (Int32.ofNat i) op k j fd = fd ∧ ∀ q : Nat, q < k → ¬ sSrv (sF v 67 b) q i) ∨ ∃ q : Nat, q < k ∧ sSrv (sF v 67 b) q i ∧ (∀ p : Nat, p < q → ¬ sSrv (sF v 67 b) p i) ∧ r_rfl v (Int32.ofNat b) (Int32.ofNat i) op k j fd = Int32.ofNat q)
  | 0, j, fd, _, _ => Or.inl ⟨rfl, fun q hq => by omega⟩
  | k + 1, j, fd, hk, hj => by
    obtain rfl := hj k rfl
    have a := sr_srv (v := v) (j := k) (i := i) hb (by omega) hi
    unfold r_rfl
    rw [if_neg h2, if_neg h9]
    have ih := sr_rfl hb hi h2 h9 k (Int32.ofNat k + (-1)) (if r_serves v (Int32.ofNat b) (Int32.ofNat k) (Int32.ofNat i) = 0 then fd else Int32.ofNat k) (by omega) (fun z hz => by rw [hz]; exact nn_p1)
    by_cases q1 : r_serves v (Int32.ofNat b) (Int32.ofNat k) (Int32.ofNat i) = 0
    · rw [if_pos q1] at ih ⊢
      rcases ih with ⟨r1, r2⟩ | ⟨q, r1, r2, r3, r4⟩
      · refine Or.inl ⟨r1, fun q hq => ?_⟩
        by_cases e : q = k
        · rw [e]; exact a.mp q1
        · exact r2 q (by omega)
      · exact Or.inr ⟨q, by omega, r2, r3, r4⟩
    · rw [if_neg q1] at ih ⊢
      rcases ih with ⟨r1, r2⟩ | ⟨q, r1, r2, r3, r4⟩
      · exact Or.inr ⟨k, by omega, (pp a).mpr q1, fun p hp => r2 p hp, r1⟩
      · exact Or.inr ⟨q, by omega, r2, r3, r4⟩
/-- where it is looked for -/
theorem calc28 {o : Int32} : (¬ o = 8 ∧ c_isCalc v o = 0) ↔ (o < 2 ∨ 9 ≤ o) := by
  unfold c_isCalc
  have t2 : (2 : Int32).toInt = 2 := rfl
  have t7 : (7 : Int32).toInt = 7 := rfl
  have t8 : (8 : Int32).toInt = 8 := rfl
  have t9 : (9 : Int32).toInt = 9 := rfl
  by_cases a : o < 2
  · rw [if_pos a]
    have a' := Int32.lt_iff_toInt_lt.mp a
    refine ⟨fun _ => Or.inl a, fun _ => ⟨fun q => ?_, rfl⟩⟩
    rw [q] at a'
    omega
  · rw [if_neg a]
    by_cases b : 7 < o
    · rw [if_pos b]
      have b' := Int32.lt_iff_toInt_lt.mp b
      constructor
      · rintro ⟨q, _⟩
        right
        rw [Int32.le_iff_toInt_le]
        have : o.toInt ≠ 8 := fun e => q (Int32.toInt_inj.mp (by rw [e, t8]))
        omega
      · rintro (q | q)
        · exact absurd q a
        · refine ⟨fun e => ?_, rfl⟩
          rw [e, Int32.le_iff_toInt_le] at q
          omega
    · rw [if_neg b]
      have b' : ¬ (7 : Int32).toInt < o.toInt := fun q => b (Int32.lt_iff_toInt_lt.mpr q)
      refine ⟨fun q => absurd q.2 i10', ?_⟩
      rintro (q | q)
      · exact absurd q a
      · have := Int32.le_iff_toInt_le.mp q
        omega
end RUA
