/-! fold on both sides -/
section FOA
variable {v w v0 w0 : vm_V} {c b n : Nat} {x : vm_Y}
/-- what both know -/
def fK (v w : vm_V) : Prop := ∀ r : Nat, r < 6 → v.1 12 r = w.1 86 r ∧ (¬ w.1 86 r = 0 → v.1 13 r = w.1 87 r)
/-- the rest of the block is as yet the source's -/
def fU (b i : Nat) (w : vm_V) : Prop := (∀ k : Nat, 4 * i ≤ k → k < 32 → w.1 67 (192 + (32 * b + k)) = sF w 67 b k) ∧ ∀ k : Nat, k < 4 → w.1 68 (24 + (4 * b + k)) = w.1 68 (4 * b + k)
theorem rfV_cg {op p q : Int32} (hk : fK v w) (hp : ¬ op = 0 → p.toNatClampNeg < 6) (hq : ¬ op = 0 → q.toNatClampNeg < 6) : rfVal (v.1 12) (v.1 13) op p q = rfVal (w.1 86) (w.1 87) op p q := by
  unfold rfVal
  by_cases o0 : op = 0
  · rw [if_pos o0, if_pos o0]
  · rw [if_neg o0, if_neg o0]
    obtain ⟨p1, p2⟩ := hk _ (hp o0)
    obtain ⟨q1, q2⟩ := hk _ (hq o0)
    rw [p1, q1]
    by_cases kp : w.1 86 p.toNatClampNeg = 0
    · simp only [if_pos kp]
    · rw [p2 kp]
      by_cases kq : w.1 86 q.toNatClampNeg = 0
      · simp only [if_pos kq]
      · rw [q2 kq]
theorem rg {x : Int32} (h : 0 ≤ x.toInt ∧ x.toInt ≤ 5) : ∃ a : Nat, a < 6 ∧ x = Int32.ofNat a := by
  obtain ⟨a, a1, a2, a3⟩ := nn_of h.1
  exact ⟨a, by omega, a1⟩
theorem reg1 {a : Nat} (h : a < 6) : c_isReg v (Int32.ofNat a) = 1 := by
  unfold c_isReg
  rw [if_neg (nz (by omega)), if_neg (show ¬ (6 : Int32) ≤ Int32.ofNat a from nl (k := 6) (by omega) (by omega) h)]
theorem kn1 {a : Nat} (h : a < 6) : c_isKnown v (Int32.ofNat a) = if v.1 12 a = 0 then 0 else 1 := by
  unfold c_isKnown
  rw [reg1 h, if_neg i10', nn_nat (by omega)]
theorem nm1 {a : Nat} (h : a < 6) : c_numberIn v (Int32.ofNat a) = v.1 13 a := by
  unfold c_numberIn
  rw [reg1 h, if_neg i10', nn_nat (by omega)]
theorem nt1 {a : Nat} {z : Int32} (h : a < 6) : c_note v (Int32.ofNat a) z = vm_si (vm_si v 12 a 1) 13 a z := by
  unfold c_note
  rw [reg1 h, if_neg i10', nn_nat (by omega), a11]
theorem fg1 {a : Nat} (h : a < 6) : c_forget v (Int32.ofNat a) = vm_si v 12 a 0 := by
  unfold c_forget
  rw [reg1 h, if_neg i10', nn_nat (by omega), a01]
theorem op5 {op : Int32} (h : 0 ≤ op.toInt ∧ op.toInt ≤ 9) : op = 0 ∨ op = 1 ∨ op = 8 ∨ op = 9 ∨ (¬ op = 0 ∧ ¬ op = 1 ∧ ¬ op < 2 ∧ ¬ 7 < op ∧ op < 8 ∧ ¬ op = 9) := by
  obtain ⟨o, e, e2, _⟩ := nn_of h.1
  subst e
  have : o = 0 ∨ o = 1 ∨ o = 2 ∨ o = 3 ∨ o = 4 ∨ o = 5 ∨ o = 6 ∨ o = 7 ∨ o = 8 ∨ o = 9 := by omega
  rcases this with rfl | rfl | rfl | rfl | rfl | rfl | rfl | rfl | rfl | rfl <;> decide
def fcB (v : vm_V) (b i : Nat) (op : Int32) (d : Nat) (p q : Int32) : vm_V := if op = 9 then v else match rfVal (v.1 12) (v.1 13) op p q with
  | some z => if op = 0 then vm_si (vm_si v 12 d 1) 13 d z else setc (vm_si (vm_si v 12 d 1) 13 d z) 8 (32 * b + 4 * i) 0 (Int32.ofNat d) 0 z
  | none => vm_si v 12 d 0
theorem fc_step {i : Nat} (hc : c ≤ 6) (hb : b < c) (hi : i < n) (hn : n ≤ 8) (h3 : v.1 3 3 = Int32.ofNat c) (h7 : v.1 7 3 = Int32.ofNat c) (h10 : v.1 10 b = Int32.ofNat n) (hwf : sWF (sF v 4 b)) : ∃ d : Nat, d < 6 ∧ sF v 4 b (4 * i + 1) = Int32.ofNat d ∧ c_foldCode v (Int32.ofNat b) (Int32.ofNat i) = fcB v b i (sF v 4 b (4 * i)) d (sF v 4 b (4 * i + 2)) (sF v 4 b (4 * i + 3)) := by
  obtain ⟨w1, w3, w4, w5⟩ := hwf i (by omega)
  obtain ⟨o0, o1, o2, o3⟩ := sp_code (i := i) h3 hc hb (by omega)
  simp only [Nat.reduceAdd] at o0 o1 o2 o3
  obtain ⟨d, d1, d2⟩ := rg w3
  obtain ⟨p, p1, p2⟩ := rg w4
  refine ⟨d, d1, d2, ?_⟩
  have st : ∀ z : Int32, c_setCode (vm_si (vm_si v 12 d 1) 13 d z) 7 (Int32.ofNat b) (Int32.ofNat i) 0 (Int32.ofNat d) 0 z = setc (vm_si (vm_si v 12 d 1) 13 d z) 8 (32 * b + 4 * i) 0 (Int32.ofNat d) 0 z := fun z => pu_setc (p := 7) (l := n) (by
    rw [vm_si1b, if_neg (by omega), vm_si1b, if_neg (by omega)]
    exact h7) hc hb (by
    rw [vm_si1b, if_neg (by omega), vm_si1b, if_neg (by omega)]
    exact h10) hn hi
  have nd : ∀ z : Int32, (vm_si (vm_si v 12 d 1) 13 d z).1 13 d = z := fun z => by rw [vm_si1b, if_pos ⟨rfl, rfl⟩]
  unfold c_foldCode
  rw [o0, o1, o2, o3, d2, p2]
  generalize sF v 4 b (4 * i) = op at w1 w5
  generalize sF v 4 b (4 * i + 3) = q at w5
  simp only [nt1 d1, fg1 d1, nm1 d1, nm1 p1, kn1 p1, nd, st]
  unfold fcB rfVal
  rw [nn_nat (a := p) (by omega)]
  rcases op5 w1 with rfl | rfl | rfl | rfl | ⟨a0, a1, a2, a7, a8, a9⟩
  · rw [if_pos rfl, if_neg (by decide), if_pos rfl]
    simp only [if_true]
  · by_cases kp : v.1 12 p = 0
    · simp +decide only [if_pos kp, if_true, c_isCalc, c_writes, if_false]
    · simp +decide only [if_neg kp, if_true, if_false]
  · simp +decide only [c_isCalc, c_writes, if_true, if_false]
  · simp +decide only [c_isCalc, c_writes, if_true, if_false]
  · obtain ⟨q', q1, q2⟩ := rg (w5 a0)
    subst q2
    have ec : c_isCalc v op = 1 := by
      unfold c_isCalc
      rw [if_neg a2, if_neg a7]
    have ew : c_writes v op = 1 := if_neg a9
    rw [if_neg a0, if_neg a1, if_neg a9, if_neg a0, if_neg a1, if_pos a8, ec, if_neg i10', ew, if_neg i10', nn_nat (a := q') (by omega)]
    unfold c_canCalc c_divZero
    rw [kn1 p1, kn1 q1, nm1 q1]
    by_cases kp : v.1 12 p = 0
    · simp only [if_pos kp, if_true]
    · by_cases kq : v.1 12 q' = 0
      · simp only [if_neg kp, if_pos kq, if_true, i10', if_false]
      · by_cases o7 : op = 7
        · by_cases z7 : v.1 13 q' = 0
          · simp only [if_neg kp, if_neg kq, if_pos o7, if_pos z7, i10', if_false, if_true, if_pos (And.intro o7 z7)]
          · simp only [if_neg kp, if_neg kq, if_pos o7, if_neg z7, i10', if_false, if_true, if_neg (fun h : op = 7 ∧ v.1 13 q' = 0 => z7 h.2), if_neg a0]
            rfl
        · simp only [if_neg kp, if_neg kq, if_neg o7, i10', if_false, if_true, if_neg (fun h : op = 7 ∧ v.1 13 q' = 0 => o7 h.1), if_neg a0]
          rfl
def frB (w : vm_V) (b i : Nat) (op : Int32) (d : Nat) (p q : Int32) : vm_V := if op = 9 then w else match rfVal (w.1 86) (w.1 87) op p q with
  | some z => vm_si (vm_si (setc w 67 (192 + (32 * b + 4 * i)) 0 (Int32.ofNat d) 0 z) 86 d 1) 87 d z
  | none => vm_si (vm_si w 86 d 0) 87 d 0
theorem fix {i : Nat} : (192 + (32 * Int32.ofNat b)) + (4 * Int32.ofNat i) = Int32.ofNat (192 + (32 * b + 4 * i)) := by
  rw [show (192 : Int32) = Int32.ofNat 192 from rfl, show (32 : Int32) = Int32.ofNat 32 from rfl, show (4 : Int32) = Int32.ofNat 4 from rfl, nn_mul, nn_mul, nn_add, nn_add, show 192 + 32 * b + 4 * i = 192 + (32 * b + 4 * i) by omega]
theorem fixf {f : Nat} {K : Nat} (h : K + f < 10000) : (Int32.ofNat K + Int32.ofNat f).toNatClampNeg = K + f := by
  rw [nn_add, nn_nat (by omega)]
theorem fr_step {i d : Nat} (hb : b < 6) (hi : i < 8) (hu : fU b i w) (hd : d < 6) (h : sF w 67 b (4 * i + 1) = Int32.ofNat d) : rfB w (Int32.ofNat b) (Int32.ofNat i) = frB w b i (sF w 67 b (4 * i)) d (sF w 67 b (4 * i + 2)) (sF w 67 b (4 * i + 3)) := by
  have e0 : w.1 67 (Int32.ofNat (192 + (32 * b + 4 * i))).toNatClampNeg = sF w 67 b (4 * i) := by
    rw [nn_nat (by omega)]
    exact hu.1 (4 * i) (by omega) (by omega)
  have e1 : w.1 67 (Int32.ofNat (192 + (32 * b + 4 * i)) + 1).toNatClampNeg = Int32.ofNat d := by
    rw [show (1 : Int32) = Int32.ofNat 1 from rfl, fixf (by omega), ← h, ← hu.1 (4 * i + 1) (by omega) (by omega)]
    rfl
  have e2 : w.1 67 (Int32.ofNat (192 + (32 * b + 4 * i)) + 2).toNatClampNeg = sF w 67 b (4 * i + 2) := by
    rw [show (2 : Int32) = Int32.ofNat 2 from rfl, fixf (by omega), ← hu.1 (4 * i + 2) (by omega) (by omega)]
    rfl
  have e3 : w.1 67 (Int32.ofNat (192 + (32 * b + 4 * i)) + 3).toNatClampNeg = sF w 67 b (4 * i + 3) := by
    rw [show (3 : Int32) = Int32.ofNat 3 from rfl, fixf (by omega), ← hu.1 (4 * i + 3) (by omega) (by omega)]
    rfl
  unfold rfB frB
  rw [fix, e0, e1, e2, e3, nn_nat (a := d) (by omega)]
  by_cases o9 : sF w 67 b (4 * i) = 9
  · rw [if_pos o9, if_pos o9]
  · rw [if_neg o9, if_neg o9]
    generalize rfVal (w.1 86) (w.1 87) (sF w 67 b (4 * i)) (sF w 67 b (4 * i + 2)) (sF w 67 b (4 * i + 3)) = R
    cases R with
    | none => rfl
    | some z =>
      show vm_si (vm_si (r_put w (Int32.ofNat (192 + (32 * b + 4 * i))) 0 (Int32.ofNat d) 0 z) 86 d 1) 87 d z = _
      rw [pu_put (by omega), show puD 0 (Int32.ofNat d) = Int32.ofNat d from if_neg (by decide), show puA 0 0 = 0 from by decide, show puB 0 z = z from by
        unfold puB
        rw [if_pos (by decide), if_pos rfl]]
/-- what one instruction's work leaves as it was -/
theorem fr_o {i d : Nat} {op p q : Int32} {P j : Nat} (h : P ≠ 67 ∨ ¬ (192 + (32 * b + 4 * i) ≤ j ∧ j < 192 + (32 * b + 4 * i) + 4)) (h86 : P ≠ 86) (h87 : P ≠ 87) : (frB w b i op d p q).1 P j = w.1 P j := by
  unfold frB
  split
  · rfl
  · split
    · rw [vm_si1b, if_neg (by omega), vm_si1b, if_neg (by omega), setc_o (by omega)]
    · rw [vm_si1b, if_neg (by omega), vm_si1b, if_neg (by omega)]
theorem fr_2 {i d : Nat} {op p q : Int32} : (frB w b i op d p q).2 = w.2 := by
  unfold frB
  split
  · rfl
  · split <;> rfl
theorem fr_u {i d : Nat} {op p q : Int32} (hb : b < 6) (hi : i < 8) (hu : fU b i w) : fU b (i + 1) (frB w b i op d p q) := by
  refine ⟨fun k k1 k2 => ?_, fun k hk => ?_⟩
  · unfold sF
    rw [fr_o (by omega) (by omega) (by omega), fr_o (by omega) (by omega) (by omega)]
    exact hu.1 k (by omega) k2
  · rw [fr_o (by omega) (by omega) (by omega), fr_o (by omega) (by omega) (by omega)]
    exact hu.2 k hk
theorem fr_s {i d k : Nat} {op p q : Int32} (hb : b < 6) (hk : k < 32) : sF (frB w b i op d p q) 67 b k = sF w 67 b k := by
  unfold sF
  rw [fr_o (by omega) (by omega) (by omega)]
theorem setc_id {P k : Nat} {o d a z : Int32} (h0 : w.1 P k = o) (h1 : w.1 P (k + 1) = d) (h2 : w.1 P (k + 2) = a) (h3 : w.1 P (k + 3) = z) : setc w P k o d a z = w := by
  refine Prod.ext (funext fun q => funext fun j => ?_) rfl
  by_cases h : q = P ∧ k ≤ j ∧ j < k + 4
  · obtain ⟨rfl, g1, g2⟩ := h
    have : j = k ∨ j = k + 1 ∨ j = k + 2 ∨ j = k + 3 := by omega
    rcases this with rfl | rfl | rfl | rfl
    · rw [setc_0, h0]
    · rw [setc_1, h1]
    · rw [setc_2, h2]
    · rw [setc_3, h3]
  · exact setc_o h
theorem cr {x : Int32} (h : 0 ≤ x.toInt ∧ x.toInt ≤ 5) : x.toNatClampNeg < 6 := by
  obtain ⟨a, a1, rfl⟩ := rg h
  rw [nn_nat (by omega)]
  exact a1
theorem fK_si {d : Nat} {z : Int32} {v' w' : vm_V} (h : fK v w) (hv : ∀ r : Nat, r < 6 → v'.1 12 r = (if r = d then 1 else v.1 12 r) ∧ v'.1 13 r = (if r = d then z else v.1 13 r)) (hw : ∀ r : Nat, r < 6 → w'.1 86 r = (if r = d then 1 else w.1 86 r) ∧ w'.1 87 r = (if r = d then z else w.1 87 r)) : fK v' w' := by
  intro r hr
  rw [(hv r hr).1, (hv r hr).2, (hw r hr).1, (hw r hr).2]
  by_cases e : r = d
  · simp only [if_pos e]
    exact ⟨trivial, fun _ => trivial⟩
  · simp only [if_neg e]
    exact h r hr
theorem fo_step {i : Nat} (hB : pB0 c v0 w0) (hb : b < c) (hi : i < n) (h6 : v.1 6 b = Int32.ofNat n) (hn8 : n ≤ 8) (h : lS v0 w0 v w) (hk : fK v w) (hu : fU b i w) : lS v0 w0 (c_foldCode v (Int32.ofNat b) (Int32.ofNat i)) (rfB w (Int32.ofNat b) (Int32.ofNat i)) ∧ fK (c_foldCode v (Int32.ofNat b) (Int32.ofNat i)) (rfB w (Int32.ofNat b) (Int32.ofNat i)) ∧ fU b (i + 1) (rfB w (Int32.ofNat b) (Int32.ofNat i)) := by
  obtain ⟨n', f1, f2, f3, f4, f5, f6, f7, f8⟩ := lS_f hB h hb
  have en : n' = n := by
    rw [f4] at h6
    exact (nn_eq (by omega) (by omega)).mp h6
  subst en
  have hc := hB.1
  obtain ⟨d, d1, d2, d3⟩ := fc_step (i := i) hc hb hi f1 f2 f3 f5 (cg_sWF (fun k hk => (f7 k hk).symm) f8)
  rw [f7 _ (by omega)] at d2
  obtain ⟨w1, w3, w4, w5⟩ := f8 i (by omega)
  rw [d3, fr_step (by omega) (by omega) hu d1 d2, f7 _ (by omega), f7 _ (by omega), f7 _ (by omega)]
  refine ⟨?_, ?_, fr_u (by omega) (by omega) hu⟩
  · unfold fcB frB
    by_cases o9 : sF w 67 b (4 * i) = 9
    · rw [if_pos o9, if_pos o9]
      exact h
    · rw [if_neg o9, if_neg o9, rfV_cg hk (fun _ => cr w4) (fun q => cr (w5 q))]
      cases hR : rfVal (w.1 86) (w.1 87) (sF w 67 b (4 * i)) (sF w 67 b (4 * i + 2)) (sF w 67 b (4 * i + 3)) with
      | none => exact lS_siR (lS_si h (by omega) (by omega)) (by omega)
      | some z =>
        show lS v0 w0 (if sF w 67 b (4 * i) = 0 then _ else _) (vm_si (vm_si (setc w 67 (192 + (32 * b + 4 * i)) 0 (Int32.ofNat d) 0 z) 86 d 1) 87 d z)
        by_cases o0 : sF w 67 b (4 * i) = 0
        · rw [if_pos o0]
          have hz : z = sF w 67 b (4 * i + 3) := by
            unfold rfVal at hR
            rw [if_pos o0] at hR
            exact (Option.some.inj hR).symm
          obtain ⟨_, _, _, _, _, _, _, b8, _⟩ := hB
          have g0 := b8 (8 * b + i) (by omega)
          have t0 := h.2.1.2.1 (4 * (8 * b + i)) (by omega)
          have t2 := h.2.1.2.1 (4 * (8 * b + i) + 2) (by omega)
          have o0' : w.1 67 (4 * (8 * b + i)) = 0 := by
            rw [← o0]
            unfold sF
            rw [show 4 * (8 * b + i) = 32 * b + 4 * i by omega]
          have a0' : sF w 67 b (4 * i + 2) = 0 := by
            rw [← g0 (t0.symm.trans o0'), ← t2]
            unfold sF
            rw [show 4 * (8 * b + i) + 2 = 32 * b + (4 * i + 2) by omega]
          rw [setc_id ((hu.1 (4 * i) (by omega) (by omega)).trans o0) ((show w.1 67 (192 + (32 * b + 4 * i) + 1) = _ from hu.1 (4 * i + 1) (by omega) (by omega)).trans d2) ((show w.1 67 (192 + (32 * b + 4 * i) + 2) = _ from hu.1 (4 * i + 2) (by omega) (by omega)).trans a0') ((show w.1 67 (192 + (32 * b + 4 * i) + 3) = _ from hu.1 (4 * i + 3) (by omega) (by omega)).trans hz.symm)]
          exact lS_si (lS_si h (by omega) (by omega)) (by omega) (by omega)
        · rw [if_neg o0]
          exact lS_siR (lS_siR (lS_setc (lS_siC (lS_siC h (by omega)) (by omega))) (by omega)) (by omega)
  · unfold fcB frB
    by_cases o9 : sF w 67 b (4 * i) = 9
    · rw [if_pos o9, if_pos o9]
      exact hk
    · rw [if_neg o9, if_neg o9, rfV_cg hk (fun _ => cr w4) (fun q => cr (w5 q))]
      cases hR : rfVal (w.1 86) (w.1 87) (sF w 67 b (4 * i)) (sF w 67 b (4 * i + 2)) (sF w 67 b (4 * i + 3)) with
      | none =>
        intro r hr
        have := hk r hr
        by_cases e : r = d
        · subst e
          simp [vm_si1b]
        · simpa [vm_si1b, e] using this
      | some z =>
        show fK (if sF w 67 b (4 * i) = 0 then _ else _) _
        refine fK_si (d := d) (z := z) hk (fun r hr => ?_) (fun r hr => ?_)
        · split
          · simp [vm_si1b]
          · rw [setc_o (by omega), setc_o (by omega)]
            simp [vm_si1b]
        · simp [vm_si1b]
          rw [setc_o (by omega), setc_o (by omega)]
          exact ⟨rfl, rfl⟩
theorem fo_loop (hB : pB0 c v0 w0) (hb : b < c) (hn8 : n ≤ 8) : ∀ (k i : Nat) (v w : vm_V), i + k = n → v.1 6 b = Int32.ofNat n → lS v0 w0 v w → fK v w → fU b i w → lS v0 w0 (c_fgl (Int32.ofNat b) (Int32.ofNat n) k (Int32.ofNat i) v) (r_fol (Int32.ofNat b) k (Int32.ofNat i) w) ∧ fK (c_fgl (Int32.ofNat b) (Int32.ofNat n) k (Int32.ofNat i) v) (r_fol (Int32.ofNat b) k (Int32.ofNat i) w) ∧ fU b n (r_fol (Int32.ofNat b) k (Int32.ofNat i) w)
  | 0, i, v, w, hi, _, h, hk, hu => ⟨h, hk, by rw [← hi]; exact hu⟩
  | k + 1, i, v, w, hi, h6, h, hk, hu => by
    obtain ⟨g1, g2, g3⟩ := fo_step hB hb (by omega) h6 hn8 h hk hu
    unfold c_fgl r_fol
    rw [nn_s]
    refine fo_loop hB hb hn8 k (i + 1) _ _ (by omega) ?_ g1 g2 g3
    rw [g1.1.1 6 b (by omega) (by omega) (by omega) (by omega) (by omega) (by omega), ← h.1.1 6 b (by omega) (by omega) (by omega) (by omega) (by omega) (by omega)]
    exact h6
theorem fo_all (hb : b < 6) : ∀ (k j : Nat) (v w : vm_V), j + k = 6 → lS v0 w0 v w → (∀ r : Nat, r < j → v.1 12 r = 0 ∧ w.1 86 r = 0) → fU b 0 w → lS v0 w0 (c_fga (Int32.ofNat b) k (Int32.ofNat j) v) (r_fga k (Int32.ofNat j) w) ∧ fK (c_fga (Int32.ofNat b) k (Int32.ofNat j) v) (r_fga k (Int32.ofNat j) w) ∧ fU b 0 (r_fga k (Int32.ofNat j) w)
  | 0, j, v, w, hj, h, hz, hu => ⟨h, fun r hr => by
      obtain ⟨z1, z2⟩ := hz r (by omega)
      exact ⟨by unfold c_fga r_fga; rw [z1, z2], fun q => absurd z2 q⟩, hu⟩
  | k + 1, j, v, w, hj, h, hz, hu => by
    unfold c_fga r_fga
    rw [fg1 (by omega), nn_nat (by omega), a01, nn_s]
    refine fo_all hb k (j + 1) _ _ (by omega) (lS_si h (by omega) (by omega)) (fun r hr => ?_) ?_
    · by_cases e : r = j
      · subst e
        simp [vm_si1b]
      · have := hz r (by omega)
        simpa [vm_si1b, e] using this
    · refine ⟨fun k k1 k2 => ?_, fun k hk => ?_⟩
      · unfold sF
        rw [vm_si1b, if_neg (by omega), vm_si1b, if_neg (by omega)]
        exact hu.1 k k1 k2
      · rw [vm_si1b, if_neg (by omega), vm_si1b, if_neg (by omega)]
        exact hu.2 k hk
theorem fo_end (hB : pB0 c v0 w0) (hb : b < c) (h : lS v0 w0 v w) (hk : fK v w) (hu : fU b n w) : lS v0 w0 (c_foldEnd v (Int32.ofNat b)) (r_fex w (Int32.ofNat b)) := by
  obtain ⟨n', f1, f2, f3, f4, f5, f6, f7, f8⟩ := lS_f hB h hb
  have hc := hB.1
  obtain ⟨_, _, _, _, _, b6, _, _, b9, _⟩ := hB
  have src : ∀ f : Nat, f < 4 → v.1 5 (4 * b + f) = w.1 68 (4 * b + f) := fun f hf => by
    rw [h.1.1 5 _ (by omega) (by omega) (by omega) (by omega) (by omega) (by omega), b6 _ (by omega), h.2.1.2.2.1 _ (by omega)]
  have ce : ∀ f : Nat, f < 4 → c_endAt v 3 (Int32.ofNat b) (Int32.ofNat f) = w.1 68 (4 * b + f) := fun f hf => by
    rw [pu_end f2 hc hb hf, ← src f hf]
  have re : ∀ f : Nat, f < 4 → w.1 68 ((24 + (4 * Int32.ofNat b)) + Int32.ofNat f).toNatClampNeg = w.1 68 (4 * b + f) := fun f hf => by
    rw [show (24 : Int32) = Int32.ofNat 24 from rfl, show (4 : Int32) = Int32.ofNat 4 from rfl, nn_mul, nn_add, nn_add, nn_nat (by omega), show 24 + 4 * b + f = 24 + (4 * b + f) by omega]
    exact hu.2 f hf
  have re0 : w.1 68 (24 + (4 * Int32.ofNat b)).toNatClampNeg = w.1 68 (4 * b + 0) := by
    rw [← re 0 (by omega), show Int32.ofNat 0 = (0 : Int32) from rfl, Int32.add_zero]
  have c0 := ce 0 (by omega)
  have c1 := ce 1 (by omega)
  have c2 := ce 2 (by omega)
  have c3 := ce 3 (by omega)
  have r1 := re 1 (by omega)
  have r2 := re 2 (by omega)
  have r3 := re 3 (by omega)
  have bd : 0 ≤ (w.1 68 (4 * b + 1)).toInt ∧ (w.1 68 (4 * b + 1)).toInt ≤ 5 := by
    rw [h.2.1.2.2.1 _ (by omega)]
    exact b9 _ (by omega)
  obtain ⟨a, a1, a2⟩ := rg bd
  obtain ⟨k1, k2⟩ := hk a a1
  unfold c_foldEnd r_fex
  rw [show c_endAt v 3 (Int32.ofNat b) 0 = _ from c0, show c_endAt v 3 (Int32.ofNat b) 1 = _ from c1, show c_endAt v 3 (Int32.ofNat b) 2 = _ from c2, show c_endAt v 3 (Int32.ofNat b) 3 = _ from c3, re0, show w.1 68 ((24 + (4 * Int32.ofNat b)) + 1).toNatClampNeg = _ from r1, show w.1 68 ((24 + (4 * Int32.ofNat b)) + 2).toNatClampNeg = _ from r2, show w.1 68 ((24 + (4 * Int32.ofNat b)) + 3).toNatClampNeg = _ from r3, a2, kn1 a1, nm1 a1, nn_nat (a := a) (by omega), k1]
  by_cases e1 : w.1 68 (4 * b + 0) = 1
  · rw [if_pos e1, if_pos e1]
    by_cases kk : w.1 86 a = 0
    · rw [if_pos kk, if_pos rfl, if_pos kk]
      exact h
    · rw [if_neg kk, if_neg i10', if_neg kk, k2 kk, pu_sete (p := 7) f3 hc hb, show (6 : Int32) + Int32.ofNat b = Int32.ofNat (6 + b) from nn_add 6 b, pu_rsete (by omega), show 4 * (6 + b) = 24 + 4 * b by omega]
      exact lS_sete h
  · rw [if_neg e1, if_neg e1]
    exact h
def r_fold (w : vm_V) (b n : Nat) : vm_V := r_fex (r_fol (Int32.ofNat b) n 0 (r_fga 6 0 w)) (Int32.ofNat b)
theorem fold_ls (hB : pB0 c v0 w0) (hb : b < c) (h : lS v0 w0 v w) (hu : fU b 0 w) (h6 : v0.1 6 b = Int32.ofNat n) (hn8 : n ≤ 8) : lS v0 w0 (c_fold v (Int32.ofNat b)) (r_fold w b n) := by
  have hc := hB.1
  obtain ⟨g1, g2, g3⟩ := fo_all (by omega) 6 0 v w rfl h (fun r hr => by omega) hu
  obtain ⟨n', f1, f2, f3, f4, f5, f6, f7, f8⟩ := lS_f hB g1 hb
  have k6 : (c_fga (Int32.ofNat b) 6 (Int32.ofNat 0) v).1 6 b = Int32.ofNat n := by
    rw [g1.1.1 6 b (by omega) (by omega) (by omega) (by omega) (by omega) (by omega)]
    exact h6
  have hn0 : ((Int32.ofNat n).toInt - (0 : Int32).toInt).toNat = n := by
    rw [Int32.toInt_ofNat_of_lt (by omega), show (0 : Int32).toInt = 0 from rfl]
    omega
  have hl : c_lengthOf (c_fga (Int32.ofNat b) 6 (Int32.ofNat 0) v) 3 (Int32.ofNat b) = Int32.ofNat n := by
    rw [pu_len f2 hc hb]
    exact k6
  obtain ⟨l1, l2, l3⟩ := fo_loop hB hb hn8 n 0 _ _ (by omega) k6 g1 g2 g3
  unfold c_fold r_fold
  rw [show ((6 : Int32).toInt - (0 : Int32).toInt).toNat = 6 from rfl, show c_lengthOf (c_fga (Int32.ofNat b) 6 0 v) 3 (Int32.ofNat b) = _ from hl, hn0]
  exact fo_end hB hb l1 l2 l3
end FOA
