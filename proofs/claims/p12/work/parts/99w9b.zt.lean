/-! the target: where the operation is 0, the second field is 0 -/
section ZTA
variable {v w v0 w0 : vm_V} {c b n : Nat} {x : vm_Y}
def zT (w : vm_V) : Prop := ∀ k : Nat, k < 48 → w.1 67 (192 + 4 * k) = 0 → w.1 67 (192 + 4 * k + 2) = 0
theorem zT_setc {i : Nat} {o d a z : Int32} (h : zT w) (h0 : o = 0 → a = 0) : zT (setc w 67 (192 + (32 * b + 4 * i)) o d a z) := by
  intro k hk
  by_cases e : k = 8 * b + i
  · rw [show 192 + 4 * k = 192 + (32 * b + 4 * i) by omega, setc_0, setc_2]
    exact h0
  · rw [setc_o (by omega), setc_o (by omega)]
    exact h k hk
theorem zT_si {P k : Nat} {z : Int32} (hP : P ≠ 67) (h : zT w) : zT (vm_si w P k z) := fun j hj => by
  rw [vm_si1b, if_neg (fun q => hP q.1.symm), vm_si1b, if_neg (fun q => hP q.1.symm)]
  exact h j hj
theorem zt_rul (hb : b < 6) : ∀ (k i : Nat) (w : vm_V), i + k ≤ 8 → zT w → zT (r_rul (Int32.ofNat b) k (Int32.ofNat i) w)
  | 0, _, _, _, h => h
  | k + 1, i, w, hi, h => by
    unfold r_rul
    rw [nn_s]
    split
    · exact zt_rul hb k (i + 1) w (by omega) h
    · rw [fix, pu_put (by omega)]
      exact zt_rul hb k (i + 1) _ (by omega) (zT_setc h (fun q => absurd q (by decide)))
theorem zt_reuse (hb : b < 6) (h66 : w.1 66 b = Int32.ofNat n) (hn8 : n ≤ 8) (h : zT w) : zT (r_reuse w (Int32.ofNat b)) := by
  unfold r_reuse
  rw [nn_nat (by omega), h66, show ((Int32.ofNat n).toInt - (0 : Int32).toInt).toNat = n from by rw [Int32.toInt_ofNat_of_lt (by omega), show (0 : Int32).toInt = 0 from rfl]; omega]
  exact zt_rul hb n 0 w (by omega) h
theorem zt_ohl {B : Int32} : ∀ (k : Nat) (I : Int32) (w : vm_V), zT w → zT (r_ohl B k I w)
  | 0, _, _, h => h
  | k + 1, I, w, h => by
    unfold r_ohl
    exact zt_ohl k _ _ (zT_si (by omega) (zT_si (by omega) h))
theorem or_zt (hB : pB0 c v0 w0) (hb : b < c) (hn : n ≤ 8) : ∀ (k i : Nat) (v w : vm_V), i + k = n → v.1 6 b = Int32.ofNat n → lS v0 w0 v w → (∀ q : Nat, q < n → v.1 17 q = w.1 89 q) → (∀ q : Nat, q < n → v.1 16 q = w.1 88 q ∧ 1 ≤ (w.1 88 q).toInt) → cnp (fun q => w.1 89 q) n = i → zT w → zT (r_orl (Int32.ofNat b) k (Int32.ofNat i) w)
  | 0, i, v, w, _, _, h, _, _, _, hz => hz
  | k + 1, i, v, w, hi, h6, h, hp, hh, hcn, hzT => by
    obtain ⟨n', f1, f2, f3, f4, f5, f6, f7, f8⟩ := lS_f hB h hb
    have en : n' = n := by
      rw [f4] at h6
      exact (nn_eq (by omega) (by omega)).mp h6
    subst n'
    have hc := hB.1
    have hn0 : ((Int32.ofNat n).toInt - (0 : Int32).toInt).toNat = n := by
      rw [Int32.toInt_ofNat_of_lt (by omega), show (0 : Int32).toInt = 0 from rfl]
      omega
    obtain ⟨g1, g2⟩ := fn_ls hB h hb f1 hp hh (nn := Int32.ofNat i) n 0 (-1) 0 (by omega) (Or.inl ⟨rfl, rfl⟩)
    obtain ⟨z, z1, z2, z3⟩ := cnp_ex (f := fun q => w.1 89 q) (n := n) (by omega)
    have hz : rdy (sF w 67 b) (fun p => w.1 89 p) z := ⟨z2, fun q q1 q2 => absurd q2 (z3 q q1)⟩
    rcases g2 with ⟨_, _, y3⟩ | ⟨t, t1, t2, t3⟩
    · exact absurd hz (y3 z (by omega) z1)
    · have hrt : rdy (sF w 67 b) (fun p => w.1 89 p) t := by
        rcases t3 with t3 | t3
        · exact absurd t3.symm (m1n t (by omega))
        · exact t3
      have ct : c_findNext v (Int32.ofNat b) (Int32.ofNat n) = Int32.ofNat t := by
        unfold c_findNext
        rw [hn0]
        exact g1.trans t2
      have rt : r_fnl w (Int32.ofNat b) (Int32.ofNat i) ((w.1 66 (Int32.ofNat b).toNatClampNeg).toInt - (0 : Int32).toInt).toNat 0 (-1) = Int32.ofNat t := by
        rw [nn_nat (a := b) (by omega), f6, hn0]
        exact t2
      have lS1 : lS v0 w0 (vm_si v 17 t 1) (vm_si w 89 t 1) := lS_si h (by omega) (by omega)
      obtain ⟨n2, u1, u2, u3, u4, u5, u6, u7, u8⟩ := lS_f hB lS1 hb
      obtain ⟨o0, o1, o2, o3⟩ := sp_code (i := t) u2 hc hb (by omega)
      simp only [Nat.reduceAdd] at o0 o1 o2 o3
      have v6 : (vm_si v 17 t 1).1 10 b = Int32.ofNat n := by
        rw [vm_si1b, if_neg (by omega)]
        exact f5
      unfold r_orl
      rw [rt, nn_nat (a := t) (by omega), a11, nn_s, show ((4 : Int32).toInt - (0 : Int32).toInt).toNat = 4 from rfl, cf_ls (by omega) (by omega) (by omega)]
      have pl : ∀ q : Nat, (setc (vm_si w 89 t 1) 67 (192 + (32 * b + 4 * i)) (sF (vm_si w 89 t 1) 67 b (4 * t)) (sF (vm_si w 89 t 1) 67 b (4 * t + 1)) (sF (vm_si w 89 t 1) 67 b (4 * t + 2)) (sF (vm_si w 89 t 1) 67 b (4 * t + 3))).1 89 q = if q = t then 1 else w.1 89 q := by
        intro q
        rw [setc_o (fun z => by omega), vm_si1b]
        simp
      refine or_zt hB hb hn k (i + 1) _ _ (by omega) ?_ (lS_setc lS1) (fun q hq => ?_) (fun q hq => ?_) ?_ ?_
      · rw [setc_o (fun q => by omega), vm_si1b, if_neg (by omega)]
        exact h6
      · rw [pl q, setc_o (fun q => by omega), vm_si1b]
        have := hp q hq
        by_cases e : q = t <;> simp [e, this]
      · rw [setc_o (fun q => by omega), setc_o (fun q => by omega), vm_si1b, if_neg (by omega), vm_si1b, if_neg (by omega)]
        exact hh q hq
      · rw [cnp_up (f := fun q => w.1 89 q) (t := t) t1 hrt.1 (by rw [pl t, if_pos rfl]; exact i10') (fun q _ hq2 => by rw [pl q, if_neg hq2]), hcn]
      · refine zT_setc (zT_si (by omega) hzT) (fun z => ?_)
        obtain ⟨_, _, _, _, _, _, _, b8, _⟩ := hB
        have g0 := b8 (8 * b + t) (by omega)
        have t0 := lS1.2.1.2.1 (4 * (8 * b + t)) (by omega)
        have t2 := lS1.2.1.2.1 (4 * (8 * b + t) + 2) (by omega)
        unfold sF at z ⊢
        rw [show 32 * b + 4 * t = 4 * (8 * b + t) by omega] at z
        rw [show 32 * b + (4 * t + 2) = 4 * (8 * b + t) + 2 by omega, t2]
        exact g0 (t0.symm.trans z)
theorem order_zt (hB : pB0 c v0 w0) (hb : b < c) (h : lS v0 w0 v w) (hz : zT w) : zT (r_order w (Int32.ofNat b)) := by
  obtain ⟨n, f1, f2, f3, f4, f5, f6, f7, f8⟩ := lS_f hB h hb
  have hc := hB.1
  obtain ⟨s1, s2⟩ := nn_sub1 (i := n) (by omega)
  have hn0 : ((Int32.ofNat n).toInt - (0 : Int32).toInt).toNat = n := by
    rw [Int32.toInt_ofNat_of_lt (by omega), show (0 : Int32).toInt = 0 from rfl]
    omega
  obtain ⟨g1, g2⟩ := oh_ls hB hb f1 n (Int32.ofNat n - 1) v w (Nat.le_refl n) s2 f4 h (fun q q1 q2 => by omega)
  unfold r_order
  rw [nn_nat (a := b) (by omega), f6, s1, hn0]
  obtain ⟨m, m1, m2, m3, m4, m5, m6, m7, m8⟩ := lS_f hB g1 hb
  have k6 : (c_ohl (Int32.ofNat b) (Int32.ofNat n) n (Int32.ofNat n - 1) v).1 6 b = Int32.ofNat n := by
    rw [g1.1.1 6 b (by omega) (by omega) (by omega) (by omega) (by omega) (by omega), ← h.1.1 6 b (by omega) (by omega) (by omega) (by omega) (by omega) (by omega)]
    exact f4
  exact or_zt hB hb f1 n 0 _ _ (by omega) k6 g1 (fun q hq => by rw [(g2 q (by omega) hq).2.2.2.1, (g2 q (by omega) hq).2.2.2.2]) (fun q hq => ⟨(g2 q (by omega) hq).1, (g2 q (by omega) hq).2.1⟩) (cnp_0 (fun q hq => (g2 q (by omega) hq).2.2.2.2)) (zt_ohl _ _ _ hz)
theorem zt_frB {i d : Nat} {op p q : Int32} (h : zT w) : zT (frB w b i op d p q) := by
  unfold frB
  split
  · exact h
  · split
    · exact zT_si (by omega) (zT_si (by omega) (zT_setc h (fun _ => rfl)))
    · exact zT_si (by omega) (zT_si (by omega) h)
theorem zt_fol (hb : b < 6) : ∀ (k i : Nat) (w : vm_V), i + k ≤ 8 → sWF (sF w 67 b) → fU b i w → zT w → zT (r_fol (Int32.ofNat b) k (Int32.ofNat i) w)
  | 0, _, _, _, _, _, h => h
  | k + 1, i, w, hi, hwf, hu, h => by
    obtain ⟨_, w3, _, _⟩ := hwf i (by omega)
    obtain ⟨d, d1, d2⟩ := rg w3
    unfold r_fol
    rw [nn_s, fr_step hb (by omega) hu d1 d2]
    exact zt_fol hb k (i + 1) _ (by omega) (cg_sWF (fun k hk => (fr_s hb hk).symm) hwf) (fr_u hb (by omega) hu) (zt_frB h)
theorem zt_fex (hb : b < 6) (h : zT w) : zT (r_fex w (Int32.ofNat b)) := by
  unfold r_fex
  split
  · split
    · exact h
    · rw [show (6 : Int32) + Int32.ofNat b = Int32.ofNat (6 + b) from nn_add 6 b, pu_rsete (by omega)]
      intro j hj
      rw [setc_o (by omega), setc_o (by omega)]
      exact h j hj
  · exact h
theorem zt_fold (hb : b < 6) (hn8 : n ≤ 8) (hwf : sWF (sF w 67 b)) (hu : fU b 0 w) (h : zT w) : zT (r_fold w b n) := by
  unfold r_fold
  refine zt_fex hb (zt_fol hb n 0 _ (by omega) (rga_s hwf) (rga_u hu) (fun j hj => ?_))
  rw [rga_o (by omega), rga_o (by omega)]
  exact h j hj
theorem wk_zt {a : Int32} (hB : pB0 c v0 w0) (hb : b < c) (h : lS v0 w0 v w) (hR : pR c b w) (hz : zT w) : zT (r_wk a w b) := by
  have hc := hB.1
  obtain ⟨n, n1, n2⟩ := hR.2.1 b (by omega)
  unfold r_wk
  by_cases a0 : a = 0
  · rw [if_pos a0, n2, nn_nat (by omega)]
    exact zt_fold (by omega) n1 (hR.2.2.1 b (by omega)) (hR.2.2.2 b (Nat.le_refl b) (by omega)) hz
  · rw [if_neg a0]
    by_cases a1 : a = 1
    · rw [if_pos a1]
      exact zt_reuse (by omega) n2 n1 hz
    · rw [if_neg a1]
      exact order_zt hB hb h hz
theorem ps_zt {a : Int32} (hB : pB0 c v0 w0) : ∀ (k b : Nat) (s : Int32) (v w : vm_V), b + k = c → lS v0 w0 v w → pR c b w → zT w → zT (r_psl a k b s w).2
  | 0, b, s, v, w, _, _, _, hz => hz
  | k + 1, b, s, v, w, hk, h, hR, hz => by
    have hc := hB.1
    have hb : b < c := by omega
    exact ps_zt (a := a) hB k (b + 1) (s + r_diff (r_wk a w b) (Int32.ofNat b)) (c_wk a v b) (r_wk a w b) (by omega) (wk_ls (a := a) hB hb h (hR.2.2.2 b (Nat.le_refl b) (by omega))) (pR_st (by omega) hR (wk_fF (a := a) (by omega) hR)) (wk_zt hB hb h hR hz)
end ZTA
