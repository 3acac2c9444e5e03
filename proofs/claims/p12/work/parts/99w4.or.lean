/-! order: heights, the next one -/
section ORA
variable {v w v0 w0 : vm_V} {c b n : Nat}
theorem a01 : (0 &&& 1 : Int32) = 0 := by decide
theorem a11 : (1 &&& 1 : Int32) = 1 := by decide
theorem lS_si {P Q k l : Nat} {y z : Int32} (h : lS v0 w0 v w) (hP : P = 12 ∨ P = 13 ∨ P = 16 ∨ P = 17) (hQ : Q = 86 ∨ Q = 87 ∨ Q = 88 ∨ Q = 89) : lS v0 w0 (vm_si v P k y) (vm_si w Q l z) := by
  refine ⟨kC_tr h.1 (kC_si hP), kR_tr h.2.1 (kR_si hQ), fun j hj => ?_, fun j hj => ?_⟩
  · rw [vm_si1b, vm_si1b, if_neg (by omega), if_neg (by omega)]
    exact h.2.2.1 j hj
  · rw [vm_si1b, vm_si1b, if_neg (by omega), if_neg (by omega)]
    exact h.2.2.2 j hj
theorem lS_siC {P k : Nat} {y : Int32} (h : lS v0 w0 v w) (hP : P = 12 ∨ P = 13 ∨ P = 16 ∨ P = 17) : lS v0 w0 (vm_si v P k y) w := by
  refine ⟨kC_tr h.1 (kC_si hP), h.2.1, fun j hj => ?_, fun j hj => ?_⟩
  · rw [vm_si1b, if_neg (by omega)]
    exact h.2.2.1 j hj
  · rw [vm_si1b, if_neg (by omega)]
    exact h.2.2.2 j hj
theorem lS_siR {Q l : Nat} {z : Int32} (h : lS v0 w0 v w) (hQ : Q = 86 ∨ Q = 87 ∨ Q = 88 ∨ Q = 89) : lS v0 w0 v (vm_si w Q l z) := by
  refine ⟨h.1, kR_tr h.2.1 (kR_si hQ), fun j hj => ?_, fun j hj => ?_⟩
  · rw [vm_si1b, if_neg (by omega)]
    exact h.2.2.1 j hj
  · rw [vm_si1b, if_neg (by omega)]
    exact h.2.2.2 j hj
/-- depends on both sides -/
theorem dp_ls {i j : Nat} (hB : pB0 c v0 w0) (h : lS v0 w0 v w) (hb : b < c) (hi : i < 8) (hj : j < 8) : c_depends v (Int32.ofNat b) (Int32.ofNat i) (Int32.ofNat j) = 0 ↔ r_depends w (Int32.ofNat b) (Int32.ofNat i) (Int32.ofNat j) = 0 := by
  obtain ⟨n', f1, f2, f3, f4, f5, f6, f7, f8⟩ := lS_f hB h hb
  have hc := hB.1
  rw [sp_dep f2 hc hb hi hj, sr_dep (by omega) hi hj f8, cg_sDep f7 hi hj]
theorem mx_eq {g h : Int32} : c_max v g h = if h ≤ g then g else h := by
  unfold c_max
  by_cases q : g < h
  · rw [if_pos q, if_neg (Int32.not_le.mpr q)]
  · rw [if_neg q, if_pos (Int32.not_lt.mp q)]
theorem ht_ls {i : Nat} {T : Int32} (hB : pB0 c v0 w0) (h : lS v0 w0 v w) (hb : b < c) (hn : n ≤ 8) (hi : i < n) (hT : (if c_codeAt v 3 (Int32.ofNat b) (Int32.ofNat i) 0 < 0 then 0 else if Int32.ofNat (v.2.2.2 1) ≤ c_codeAt v 3 (Int32.ofNat b) (Int32.ofNat i) 0 then 0 else v.1 1 (c_codeAt v 3 (Int32.ofNat b) (Int32.ofNat i) 0).toNatClampNeg) = T) (hh : ∀ q : Nat, i < q → q < n → v.1 16 q = w.1 88 q) : ∀ (k j : Nat) (g : Int32), j + k = n → i < j → c_htl v (Int32.ofNat b) (Int32.ofNat i) (Int32.ofNat n) k (Int32.ofNat j) g = r_hml w (Int32.ofNat b) (Int32.ofNat i) k (Int32.ofNat j) g + T
  | 0, j, g, _, _ => by
    unfold c_htl r_hml
    rw [hT]
  | k + 1, j, g, hj, hij => by
    unfold c_htl r_hml
    rw [if_neg (show ¬ (8 : Int32) ≤ Int32.ofNat j from nl (k := 8) (by omega) (by omega) (by omega)), nn_s, nn_nat (by omega), hh j hij (by omega), mx_eq]
    have hd := dp_ls hB h hb (i := j) (j := i) (by omega) (by omega)
    by_cases q : c_depends v (Int32.ofNat b) (Int32.ofNat j) (Int32.ofNat i) = 0
    · rw [if_pos q, if_pos (hd.mp q)]
      exact ht_ls hB h hb hn hi hT hh k (j + 1) g (by omega) (by omega)
    · rw [if_neg q, if_neg (fun q2 => q (hd.mpr q2))]
      exact ht_ls hB h hb hn hi hT hh k (j + 1) _ (by omega) (by omega)
theorem hm_bd {i M : Nat} (hh : ∀ q : Nat, i < q → q < n → 1 ≤ (w.1 88 q).toInt ∧ (w.1 88 q).toInt ≤ M) (hn : n ≤ 8) : ∀ (k j : Nat) (g : Int32), j + k = n → i < j → 0 ≤ g.toInt → g.toInt ≤ M → 0 ≤ (r_hml w (Int32.ofNat b) (Int32.ofNat i) k (Int32.ofNat j) g).toInt ∧ (r_hml w (Int32.ofNat b) (Int32.ofNat i) k (Int32.ofNat j) g).toInt ≤ M
  | 0, j, g, _, _, h1, h2 => ⟨h1, h2⟩
  | k + 1, j, g, hj, hij, h1, h2 => by
    unfold r_hml
    rw [nn_s, nn_nat (by omega)]
    have hq := hh j hij (by omega)
    refine hm_bd hh hn k (j + 1) _ (by omega) (by omega) ?_ ?_
    · split
      · exact h1
      · split
        · exact h1
        · omega
    · split
      · exact h2
      · split
        · exact h2
        · omega
theorem tk_bd {z : Int32} : 1 ≤ (r_takes v z).toInt ∧ (r_takes v z).toInt ≤ 4 := by
  unfold r_takes
  have t1 : (1 : Int32).toInt = 1 := rfl
  have t2 : (2 : Int32).toInt = 2 := rfl
  have t3 : (3 : Int32).toInt = 3 := rfl
  have t4 : (4 : Int32).toInt = 4 := rfl
  split
  · omega
  · split
    · omega
    · split <;> omega
/-- what an instruction takes -/
theorem tk_ls {i : Nat} (hB : pB0 c v0 w0) (h : lS v0 w0 v w) (hb : b < c) (hi : i < 8) : (if c_codeAt v 3 (Int32.ofNat b) (Int32.ofNat i) 0 < 0 then 0 else if Int32.ofNat (v.2.2.2 1) ≤ c_codeAt v 3 (Int32.ofNat b) (Int32.ofNat i) 0 then 0 else v.1 1 (c_codeAt v 3 (Int32.ofNat b) (Int32.ofNat i) 0).toNatClampNeg) = r_takes w (w.1 67 ((32 * Int32.ofNat b) + (4 * Int32.ofNat i)).toNatClampNeg) := by
  obtain ⟨n', f1, f2, f3, f4, f5, f6, f7, f8⟩ := lS_f hB h hb
  obtain ⟨hc, _, _, _, _, _, _, _, _, ht, hl⟩ := hB
  have o1 := (sp_code (i := i) f2 hc hb hi).1
  simp only [Nat.reduceAdd] at o1
  obtain ⟨⟨w1, w2⟩, _⟩ := f8 i hi
  rw [← f7 _ (by omega)] at w1 w2
  obtain ⟨o, p1, p2, p3⟩ := nn_of w1
  have e2 : w.1 67 ((32 * Int32.ofNat b) + (4 * Int32.ofNat i)).toNatClampNeg = Int32.ofNat o := by
    rw [rx0 (by omega) hi, ← p1, f7 _ (by omega)]
    rfl
  have hv : v.2.2.2 1 = 10 := by rw [h.1.2]; exact hl
  rw [o1, p1, e2, hv, if_neg (nz (by omega)), if_neg (nl (by omega) (by omega) (by omega)), nn_nat (by omega), h.1.1 1 o (by omega) (by omega) (by omega) (by omega) (by omega) (by omega), ht o (by omega)]
  rfl
/-- behind the heights -/
def oH (n m : Nat) (v w : vm_V) : Prop := ∀ q : Nat, m ≤ q → q < n → v.1 16 q = w.1 88 q ∧ 1 ≤ (w.1 88 q).toInt ∧ (w.1 88 q).toInt ≤ 4 * ((n : Int) - q) ∧ v.1 17 q = 0 ∧ w.1 89 q = 0
theorem oh_ls (hB : pB0 c v0 w0) (hb : b < c) (hn : n ≤ 8) : ∀ (k : Nat) (I : Int32) (v w : vm_V), k ≤ n → (∀ z : Nat, k = z + 1 → I = Int32.ofNat z) → v.1 6 b = Int32.ofNat n → lS v0 w0 v w → oH n k v w → lS v0 w0 (c_ohl (Int32.ofNat b) (Int32.ofNat n) k I v) (r_ohl (Int32.ofNat b) k I w) ∧ oH n 0 (c_ohl (Int32.ofNat b) (Int32.ofNat n) k I v) (r_ohl (Int32.ofNat b) k I w)
  | 0, I, v, w, _, _, _, h, ho => ⟨h, ho⟩
  | k + 1, I, v, w, hk, hI, h6, h, ho => by
    obtain rfl := hI k rfl
    obtain ⟨n', f1, f2, f3, f4, f5, f6, f7, f8⟩ := lS_f hB h hb
    have en : n' = n := by
      rw [f4] at h6
      exact (nn_eq (by omega) (by omega)).mp h6
    subst n'
    have hc := hB.1
    have h1 : lS v0 w0 (vm_si v 17 k 0) w := lS_siC h (by omega)
    have hT := tk_ls (i := k) hB h1 hb (by omega)
    have e1 : c_heightOf (vm_si v 17 k 0) (Int32.ofNat b) (Int32.ofNat k) (Int32.ofNat n) = r_hml w (Int32.ofNat b) (Int32.ofNat k) (n - (k + 1)) (Int32.ofNat (k + 1)) 0 + r_takes w (w.1 67 ((32 * Int32.ofNat b) + (4 * Int32.ofNat k)).toNatClampNeg) := by
      unfold c_heightOf
      rw [nn_s, show ((Int32.ofNat n).toInt - (Int32.ofNat (k + 1)).toInt).toNat = n - (k + 1) from by rw [Int32.toInt_ofNat_of_lt (by omega), Int32.toInt_ofNat_of_lt (by omega)]; omega]
      exact ht_ls hB h1 hb f1 (by omega) hT (fun q q1 q2 => by rw [vm_si1b, if_neg (by omega)]; exact (ho q (by omega) q2).1) _ _ _ (by omega) (by omega)
    have hm := hm_bd (w := w) (b := b) (i := k) (n := n) (M := 4 * (n - (k + 1))) (fun q q1 q2 => by have := ho q (by omega) q2; omega) f1 (n - (k + 1)) (k + 1) 0 (by omega) (by omega) (by decide) (by have : (0 : Int32).toInt = 0 := rfl; omega)
    have hb' := tk_bd (v := w) (z := w.1 67 ((32 * Int32.ofNat b) + (4 * Int32.ofNat k)).toNatClampNeg)
    have e2 : ((w.1 66 (Int32.ofNat b).toNatClampNeg).toInt - (Int32.ofNat (k + 1)).toInt).toNat = n - (k + 1) := by
      rw [nn_nat (by omega), f6, Int32.toInt_ofNat_of_lt (by omega), Int32.toInt_ofNat_of_lt (by omega)]
      omega
    have sm : (r_takes w (w.1 67 ((32 * Int32.ofNat b) + (4 * Int32.ofNat k)).toNatClampNeg) + r_hml w (Int32.ofNat b) (Int32.ofNat k) (n - (k + 1)) (Int32.ofNat (k + 1)) 0).toInt = (r_takes w (w.1 67 ((32 * Int32.ofNat b) + (4 * Int32.ofNat k)).toNatClampNeg)).toInt + (r_hml w (Int32.ofNat b) (Int32.ofNat k) (n - (k + 1)) (Int32.ofNat (k + 1)) 0).toInt := by
      rw [Int32.toInt_add]
      exact ty_bm (by omega) (by omega)
    unfold c_ohl r_ohl
    rw [a01, nn_nat (by omega), e1, nn_s, e2, Int32.add_comm (r_hml w (Int32.ofNat b) (Int32.ofNat k) (n - (k + 1)) (Int32.ofNat (k + 1)) 0)]
    refine oh_ls hB hb hn k _ _ _ (by omega) (fun z hz => by rw [hz]; exact nn_p1) ?_ ?_ ?_
    · rw [vm_si1b, if_neg (by omega), vm_si1b, if_neg (by omega)]
      exact h6
    · exact lS_siR (lS_si h1 (by omega) (by omega)) (by omega)
    · intro q q1 q2
      by_cases e : q = k
      · subst e
        refine ⟨?_, ?_, ?_, ?_, ?_⟩
        · simp [vm_si1b]
        · simp only [vm_si1b, Nat.reduceEqDiff, false_and, if_false, and_self, if_true]
          omega
        · simp only [vm_si1b, Nat.reduceEqDiff, false_and, if_false, and_self, if_true]
          omega
        · simp [vm_si1b]
        · simp [vm_si1b]
      · have := ho q (by omega) q2
        simpa [vm_si1b, e] using this
/-- who may come next -/
def rdy (s pl : Nat → Int32) (i : Nat) : Prop := pl i = 0 ∧ ∀ q : Nat, q < i → pl q = 0 → ¬ sDep s i q
theorem if_ls {i : Nat} (h1 : v.1 3 3 = Int32.ofNat c) (hc : c ≤ 6) (hb : b < c) (hi : i < 8) : ∀ (k e : Nat), e + k = i → (c_ifl v (Int32.ofNat b) (Int32.ofNat i) k (Int32.ofNat e) = 0 ↔ ¬ ∀ q : Nat, e ≤ q → q < i → v.1 17 q = 0 → ¬ sDep (sF v 4 b) i q)
  | 0, e, _ => by
    unfold c_ifl
    exact ⟨fun h => absurd h i10', fun h => absurd (fun q q1 q2 => by omega) h⟩
  | k + 1, e, he => by
    have ih := if_ls h1 hc hb hi k (e + 1) (by omega)
    have hd := sp_dep (i := i) (j := e) h1 hc hb hi (by omega)
    have hs : (∀ q : Nat, e ≤ q → q < i → v.1 17 q = 0 → ¬ sDep (sF v 4 b) i q) ↔ (v.1 17 e = 0 → ¬ sDep (sF v 4 b) i e) ∧ ∀ q : Nat, e + 1 ≤ q → q < i → v.1 17 q = 0 → ¬ sDep (sF v 4 b) i q := by
      constructor
      · intro h
        exact ⟨h e (by omega) (by omega), fun q q1 q2 => h q (by omega) q2⟩
      · rintro ⟨a, b⟩ q q1 q2
        by_cases e' : q = e
        · rw [e']; exact a
        · exact b q (by omega) q2
    rw [hs]
    unfold c_ifl
    rw [if_neg (show ¬ (8 : Int32) ≤ Int32.ofNat e from nl (k := 8) (by omega) (by omega) (by omega)), nn_s, nn_nat (by omega)]
    generalize (∀ q : Nat, e + 1 ≤ q → q < i → v.1 17 q = 0 → ¬ sDep (sF v 4 b) i q) = Z at ih ⊢
    by_cases a1 : v.1 17 e = 0
    · rw [if_pos a1]
      by_cases a2 : c_depends v (Int32.ofNat b) (Int32.ofNat i) (Int32.ofNat e) = 0
      · rw [if_pos a2, ih]
        have := hd.mp a2
        simp [a1, this]
      · rw [if_neg a2]
        have := (pp hd).mpr a2
        simp [a1, this]
    · rw [if_neg a1, ih]
      simp [a1]
theorem rd_ls {i : Nat} {nn bs : Int32} (hb : b < 12) (hi : i < 8) (hwf : sWF (sF w 67 b)) : ∀ (k j : Nat) (rd : Int32), j + k = i → (rd = 0 ∨ rd = 1) → (r_rdl w (Int32.ofNat b) nn bs (Int32.ofNat i) k (Int32.ofNat j) rd = 0 ↔ ¬ (rd = 1 ∧ ∀ q : Nat, j ≤ q → q < i → w.1 89 q = 0 → ¬ sDep (sF w 67 b) i q))
  | 0, j, rd, _, hr => by
    unfold r_rdl
    rcases hr with rfl | rfl
    · simp
    · exact ⟨fun h => absurd h i10', fun h => absurd ⟨rfl, fun q q1 q2 => by omega⟩ h⟩
  | k + 1, j, rd, hj, hr => by
    have hd := sr_dep (v := w) (i := i) (j := j) hb hi (by omega) hwf
    unfold r_rdl
    rw [nn_s, nn_nat (by omega)]
    generalize hz : (if rd = 0 then 0 else if w.1 89 j = 0 then if r_depends w (Int32.ofNat b) (Int32.ofNat i) (Int32.ofNat j) = 0 then 1 else 0 else (1 : Int32)) = z
    have g1 : z = 0 ∨ z = 1 := by
      rw [← hz]
      repeat' split
      all_goals simp
    have g2 : z = 1 ↔ rd = 1 ∧ (w.1 89 j = 0 → ¬ sDep (sF w 67 b) i j) := by
      rw [← hz, ← hd]
      rcases hr with rfl | rfl
      · simp
      · by_cases a1 : w.1 89 j = 0 <;> by_cases a2 : r_depends w (Int32.ofNat b) (Int32.ofNat i) (Int32.ofNat j) = 0 <;> simp [a1, a2]
    rw [rd_ls hb hi hwf k (j + 1) z (by omega) g1, g2]
    apply not_congr
    constructor
    · rintro ⟨⟨b1, b2⟩, b3⟩
      refine ⟨b1, fun q q1 q2 => ?_⟩
      by_cases e : q = j
      · rw [e]; exact b2
      · exact b3 q (by omega) q2
    · rintro ⟨b1, b2⟩
      exact ⟨⟨b1, b2 j (by omega) (by omega)⟩, fun q q1 q2 => b2 q (by omega) q2⟩
end ORA
