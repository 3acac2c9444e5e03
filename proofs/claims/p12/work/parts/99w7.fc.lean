/-! fold, the reference's: its contract; what the work on a block leaves as it was -/
section FOC
variable {v w v0 w0 : vm_V} {c b n : Nat} {x : vm_Y}
theorem rf_O {i : Nat} (hb : b < 6) (hi : i < 8) (hu : fU b i w) (hwf : sWF (sF w 67 b)) : rfO w (Int32.ofNat b) (Int32.ofNat i) := by
  obtain ⟨w1, _⟩ := hwf i hi
  have e0 : w.1 67 ((192 + (32 * Int32.ofNat b)) + (4 * Int32.ofNat i)).toNatClampNeg = sF w 67 b (4 * i) := by
    rw [fix, nn_nat (by omega)]
    exact hu.1 (4 * i) (by omega) (by omega)
  unfold rfO
  rw [e0]
  obtain ⟨o, e, e2, _⟩ := nn_of w1.1
  rw [e]
  have : o = 0 ∨ o = 1 ∨ o = 2 ∨ o = 3 ∨ o = 4 ∨ o = 5 ∨ o = 6 ∨ o = 7 ∨ o = 8 ∨ o = 9 := by omega
  rcases this with rfl | rfl | rfl | rfl | rfl | rfl | rfl | rfl | rfl | rfl <;> decide
theorem lp165 (hb : b < 6) (hn8 : n ≤ 8) : ∀ (k i : Nat) (l3 l4 l5 l6 l7 l8 l9 : Value) (w : vm_V), i + k = n → w.1 66 b = Int32.ofNat n → sWF (sF w 67 b) → fU b i w → (vE 165 23 [.ref 64, .int (Int32.ofNat b), .int (Int32.ofNat i), l3, l4, l5, l6, l7, l8, l9] [] w x ↔ x = vd (r_fex (r_fol (Int32.ofNat b) k (Int32.ofNat i) w) (Int32.ofNat b)))
  | 0, i, l3, l4, l5, l6, l7, l8, l9, w, hi, h66, hwf, hu => by
    rw [lx165 (by rw [nn_nat (by omega), h66, ← hi]; exact Int32.le_refl _)]
    rfl
  | k + 1, i, l3, l4, l5, l6, l7, l8, l9, w, hi, h66, hwf, hu => by
    have hl : ¬ w.1 66 (Int32.ofNat b).toNatClampNeg ≤ Int32.ofNat i := by
      rw [nn_nat (by omega), h66]
      exact nl (by omega) (by omega) (by omega)
    obtain ⟨m3, m4, m5, m6, m7, m8, m9, e⟩ := fs_all (x := x) (l3 := l3) (l4 := l4) (l5 := l5) (l6 := l6) (l7 := l7) (l8 := l8) (l9 := l9) (rf_O hb (by omega) hu hwf) hl
    obtain ⟨_, w3, _, _⟩ := hwf i (by omega)
    obtain ⟨d, d1, d2⟩ := rg w3
    have st := fr_step hb (by omega) hu d1 d2
    rw [e, nn_s, lp165 hb hn8 k (i + 1) m3 m4 m5 m6 m7 m8 m9 (rfB w (Int32.ofNat b) (Int32.ofNat i)) (by omega) (by rw [st, fr_o (by omega) (by omega) (by omega)]; exact h66) (by rw [st]; exact cg_sWF (fun k hk => (fr_s hb hk).symm) hwf) (by rw [st]; exact fr_u hb (by omega) hu)]
    rw [show r_fol (Int32.ofNat b) (k + 1) (Int32.ofNat i) w = r_fol (Int32.ofNat b) k (Int32.ofNat i + 1) (rfB w (Int32.ofNat b) (Int32.ofNat i)) from rfl, nn_s]
theorem rga_o {P j : Nat} (hP : P ≠ 86) : ∀ (k : Nat) (r : Int32) (w : vm_V), (r_fga k r w).1 P j = w.1 P j
  | 0, _, _ => rfl
  | k + 1, r, w => by
    unfold r_fga
    rw [rga_o hP k, vm_si1b, if_neg (fun q => hP q.1)]
theorem rga_2 : ∀ (k : Nat) (r : Int32) (w : vm_V), (r_fga k r w).2 = w.2
  | 0, _, _ => rfl
  | k + 1, r, w => by
    unfold r_fga
    rw [rga_2 k]
    rfl
theorem rga_u (hu : fU b 0 w) : fU b 0 (r_fga 6 0 w) := by
  refine ⟨fun k k1 k2 => ?_, fun k hk => ?_⟩
  · unfold sF
    rw [rga_o (by omega), rga_o (by omega)]
    exact hu.1 k k1 k2
  · rw [rga_o (by omega), rga_o (by omega)]
    exact hu.2 k hk
theorem rga_s (hwf : sWF (sF w 67 b)) : sWF (sF (r_fga 6 0 w) 67 b) := cg_sWF (fun k _ => by
  unfold sF
  rw [rga_o (by omega)]) hwf
theorem ct165 (hb : b < 6) (hn8 : n ≤ 8) (h66 : w.1 66 b = Int32.ofNat n) (hwf : sWF (sF w 67 b)) (hu : fU b 0 w) : vE 165 0 [.ref 64, .int (Int32.ofNat b), .retAddr 0, .retAddr 0, .retAddr 0, .retAddr 0, .retAddr 0, .retAddr 0, .retAddr 0, .retAddr 0] [] w x ↔ x = vd (r_fold w b n) := by
  simp only [q165_0, q165_1]
  refine (lp165_2 6 0 w rfl).trans ?_
  exact lp165 hb hn8 n 0 _ _ _ _ _ _ _ (r_fga 6 0 w) (by omega) (by rw [rga_o (by omega)]; exact h66) (rga_s hwf) (rga_u hu)
/-- what the work on block b leaves as it was -/
def fF (b : Nat) (w w' : vm_V) : Prop := (∀ P j : Nat, P ≠ 67 → P ≠ 68 → P ≠ 86 → P ≠ 87 → P ≠ 88 → P ≠ 89 → w'.1 P j = w.1 P j) ∧ (∀ j : Nat, ¬ (192 + 32 * b ≤ j ∧ j < 192 + 32 * b + 32) → w'.1 67 j = w.1 67 j) ∧ (∀ j : Nat, ¬ (24 + 4 * b ≤ j ∧ j < 24 + 4 * b + 4) → w'.1 68 j = w.1 68 j) ∧ w'.2 = w.2
theorem fF_rf : fF b w w := ⟨fun _ _ _ _ _ _ _ _ => rfl, fun _ _ => rfl, fun _ _ => rfl, rfl⟩
theorem fF_tr {u : vm_V} (h1 : fF b w v) (h2 : fF b v u) : fF b w u := ⟨fun P j a d e f g i => (h2.1 P j a d e f g i).trans (h1.1 P j a d e f g i), fun j hj => (h2.2.1 j hj).trans (h1.2.1 j hj), fun j hj => (h2.2.2.1 j hj).trans (h1.2.2.1 j hj), h2.2.2.2.trans h1.2.2.2⟩
theorem fF_si {P k : Nat} {z : Int32} (hP : P = 86 ∨ P = 87 ∨ P = 88 ∨ P = 89) : fF b w (vm_si w P k z) := ⟨fun p j _ _ _ _ _ _ => if_neg (fun q => by omega), fun j _ => if_neg (fun q => by omega), fun j _ => if_neg (fun q => by omega), rfl⟩
theorem fF_setc {k : Nat} {o d a z : Int32} (h1 : 192 + 32 * b ≤ k) (h2 : k + 4 ≤ 192 + 32 * b + 32) : fF b w (setc w 67 k o d a z) := ⟨fun p j _ _ _ _ _ _ => setc_o (fun q => by omega), fun j _ => setc_o (fun q => by omega), fun j _ => setc_o (fun q => by omega), rfl⟩
theorem fF_sete {o d a z : Int32} : fF b w (setc w 68 (24 + 4 * b) o d a z) := ⟨fun p j _ _ _ _ _ _ => setc_o (fun q => by omega), fun j _ => setc_o (fun q => by omega), fun j _ => setc_o (fun q => by omega), rfl⟩
theorem ff_rul (hb : b < 6) : ∀ (k i : Nat) (w : vm_V), i + k ≤ 8 → fF b w (r_rul (Int32.ofNat b) k (Int32.ofNat i) w)
  | 0, _, _, _ => fF_rf
  | k + 1, i, w, h => by
    unfold r_rul
    rw [nn_s]
    split
    · exact ff_rul hb k (i + 1) w (by omega)
    · rw [fix, pu_put (by omega)]
      exact fF_tr (fF_setc (by omega) (by omega)) (ff_rul hb k (i + 1) _ (by omega))
theorem ff_reuse (hb : b < 6) (h66 : w.1 66 b = Int32.ofNat n) (hn8 : n ≤ 8) : fF b w (r_reuse w (Int32.ofNat b)) := by
  unfold r_reuse
  rw [nn_nat (by omega), h66, show ((Int32.ofNat n).toInt - (0 : Int32).toInt).toNat = n from by rw [Int32.toInt_ofNat_of_lt (by omega), show (0 : Int32).toInt = 0 from rfl]; omega]
  exact ff_rul hb n 0 w (by omega)
theorem ff_ohl {B : Int32} : ∀ (k : Nat) (I : Int32) (w : vm_V), fF b w (r_ohl B k I w)
  | 0, _, _ => fF_rf
  | k + 1, I, w => by
    unfold r_ohl
    exact fF_tr (fF_tr (fF_si (by omega)) (fF_si (by omega))) (ff_ohl k _ _)
theorem ff_cfl {i : Nat} {bs : Int32} (hb : b < 6) (hi : i < 8) : ∀ (k f : Nat) (w : vm_V), f + k ≤ 4 → fF b w (r_cfl (Int32.ofNat b) (Int32.ofNat i) bs k (Int32.ofNat f) w)
  | 0, _, _, _ => fF_rf
  | k + 1, f, w, h => by
    unfold r_cfl
    rw [nn_s, fix, fixf (by omega)]
    have hh : ∀ z : Int32, fF b w (vm_si w 67 (192 + (32 * b + 4 * i) + f) z) := fun z => ⟨fun p j _ _ _ _ _ _ => by rw [vm_si1b, if_neg (by omega)], fun j _ => by rw [vm_si1b, if_neg (by omega)], fun j _ => by rw [vm_si1b, if_neg (by omega)], rfl⟩
    exact fF_tr (hh _) (ff_cfl hb hi k (f + 1) _ (by omega))
theorem ff_orl (hb : b < 6) : ∀ (k i : Nat) (w : vm_V), i + k ≤ 8 → fF b w (r_orl (Int32.ofNat b) k (Int32.ofNat i) w)
  | 0, _, _, _ => fF_rf
  | k + 1, i, w, h => by
    unfold r_orl
    rw [nn_s]
    exact fF_tr (fF_tr (fF_si (by omega)) (ff_cfl hb (by omega) 4 0 _ (by omega))) (ff_orl hb k (i + 1) _ (by omega))
theorem ff_order (hb : b < 6) (h66 : w.1 66 b = Int32.ofNat n) (hn8 : n ≤ 8) : fF b w (r_order w (Int32.ofNat b)) := by
  unfold r_order
  rw [nn_nat (by omega), h66, show ((Int32.ofNat n).toInt - (0 : Int32).toInt).toNat = n from by rw [Int32.toInt_ofNat_of_lt (by omega), show (0 : Int32).toInt = 0 from rfl]; omega]
  exact fF_tr (ff_ohl _ _ _) (ff_orl hb n 0 _ (by omega))
theorem ff_fol (hb : b < 6) : ∀ (k i : Nat) (w : vm_V), i + k ≤ 8 → sWF (sF w 67 b) → fU b i w → fF b w (r_fol (Int32.ofNat b) k (Int32.ofNat i) w)
  | 0, _, _, _, _, _ => fF_rf
  | k + 1, i, w, h, hwf, hu => by
    obtain ⟨_, w3, _, _⟩ := hwf i (by omega)
    obtain ⟨d, d1, d2⟩ := rg w3
    unfold r_fol
    rw [nn_s, fr_step hb (by omega) hu d1 d2]
    refine fF_tr ⟨fun p j _ _ _ _ _ _ => fr_o (by omega) (by omega) (by omega), fun j _ => fr_o (by omega) (by omega) (by omega), fun j _ => fr_o (by omega) (by omega) (by omega), fr_2⟩ (ff_fol hb k (i + 1) _ (by omega) (cg_sWF (fun k hk => (fr_s hb hk).symm) hwf) (fr_u hb (by omega) hu))
theorem ff_fex (hb : b < 6) : fF b w (r_fex w (Int32.ofNat b)) := by
  unfold r_fex
  split
  · split
    · exact fF_rf
    · rw [show (6 : Int32) + Int32.ofNat b = Int32.ofNat (6 + b) from nn_add 6 b, pu_rsete (by omega), show 4 * (6 + b) = 24 + 4 * b by omega]
      exact fF_sete
  · exact fF_rf
theorem ff_fold (hb : b < 6) (hn8 : n ≤ 8) (hwf : sWF (sF w 67 b)) (hu : fU b 0 w) : fF b w (r_fold w b n) := by
  unfold r_fold
  have h1 : fF b w (r_fga 6 0 w) := ⟨fun p j _ _ _ _ _ _ => rga_o (by omega) _ _ _, fun j _ => rga_o (by omega) _ _ _, fun j _ => rga_o (by omega) _ _ _, rga_2 _ _ _⟩
  exact fF_tr h1 (fF_tr (ff_fol hb n 0 _ (by omega) (rga_s hwf) (rga_u hu)) (ff_fex hb))
theorem fF_u {e : Nat} (h : fF b w v) (hb : b < 6) (he : e < 6) (hne : e ≠ b) (hu : fU e 0 w) : fU e 0 v := by
  refine ⟨fun k k1 k2 => ?_, fun k hk => ?_⟩
  · unfold sF
    rw [h.2.1 _ (by omega), h.2.1 _ (by omega)]
    exact hu.1 k k1 k2
  · rw [h.2.2.1 _ (by omega), h.2.2.1 _ (by omega)]
    exact hu.2 k hk
end FOC
