/-! the loop over the blocks -/
section PLA
variable {v w v0 w0 : vm_V} {c b n : Nat} {x : vm_Y}
theorem nz0 : (0 : Int32).toNatClampNeg = 0 := rfl
def c_wk (a : Int32) (v : vm_V) (b : Nat) : vm_V := if a = 0 then c_fold v (Int32.ofNat b) else if a = 1 then c_reuse v (Int32.ofNat b) else c_order v (Int32.ofNat b)
def r_wk (a : Int32) (w : vm_V) (b : Nat) : vm_V := if a = 0 then r_fold w b (w.1 66 b).toNatClampNeg else if a = 1 then r_reuse w (Int32.ofNat b) else r_order w (Int32.ofNat b)
def c_psl (a : Int32) : Nat → Nat → vm_V → vm_V
  | 0, _, v => v
  | k + 1, b, v => c_psl a k (b + 1) (c_wk a v b)
def r_psl (a : Int32) : Nat → Nat → Int32 → vm_V → Int32 × vm_V
  | 0, _, s, w => (s, w)
  | k + 1, b, s, w => r_psl a k (b + 1) (s + r_diff (r_wk a w b) (Int32.ofNat b)) (r_wk a w b)
theorem lp42 {a : Int32} (hc : c ≤ 6) : ∀ (k b : Nat) (v : vm_V), b + k = c → (vE 42 45 [.ref 2, .int a, .int (Int32.ofNat c), .int (Int32.ofNat b)] [] v x ↔ x = vr (c_diff (c_psl a k b v)) (c_psl a k b v))
  | 0, b, v, h => by
    have e : b = c := by omega
    subst e
    simp only [q42_45, q42_46, q42_47]
    rw [if_pos (Int32.le_refl _)]
    simp only [q42_119, q42_120, q42_123, q42_124, q42_127, Nat.reduceAdd, ct70, exists_eq_left, vB_r, q42_130]
    rfl
  | k + 1, b, v, h => by
    have ne : ¬ Int32.ofNat c ≤ Int32.ofNat b := nl (by omega) (by omega) (by omega)
    rw [show c_psl a (k + 1) b v = c_psl a k (b + 1) (c_wk a v b) from rfl, q42_45]
    simp only [q42_46, q42_47]
    rw [if_neg ne]
    simp only [q42_50, q42_51]
    by_cases a0 : a = 0
    · rw [if_pos a0, show c_wk a v b = c_fold v (Int32.ofNat b) from if_pos a0]
      simp only [q42_54, q42_55, q42_58, q42_59, q42_62, q42_63, q42_66, q42_67, Nat.reduceAdd, ct44, exists_eq_left, vB_d, q42_70, q42_113, q42_116, nn_s]
      exact lp42 hc k (b + 1) _ (by omega)
    · rw [if_neg a0]
      simp only [q42_73, q42_74, q42_75]
      by_cases a1 : a = 1
      · rw [if_pos a1, show c_wk a v b = c_reuse v (Int32.ofNat b) from (if_neg a0).trans (if_pos a1)]
        simp only [q42_78, q42_79, q42_82, q42_83, q42_86, q42_87, q42_90, q42_91, Nat.reduceAdd, ct57, exists_eq_left, vB_d, q42_94, q42_113, q42_116, nn_s]
        exact lp42 hc k (b + 1) _ (by omega)
      · rw [if_neg a1, show c_wk a v b = c_order v (Int32.ofNat b) from (if_neg a0).trans (if_neg a1)]
        simp only [q42_97, q42_98, q42_101, q42_102, q42_105, q42_106, q42_109, q42_110, Nat.reduceAdd, ct63, exists_eq_left, vB_d, q42_113, q42_116, nn_s]
        exact lp42 hc k (b + 1) _ (by omega)
/-- what the reference's loop needs -/
def pR (c b : Nat) (w : vm_V) : Prop := w.1 65 0 = Int32.ofNat c ∧ (∀ e : Nat, e < 6 → ∃ n : Nat, n ≤ 8 ∧ w.1 66 e = Int32.ofNat n) ∧ (∀ e : Nat, e < 6 → sWF (sF w 67 e)) ∧ ∀ e : Nat, b ≤ e → e < 6 → fU e 0 w
theorem wk_fF {a : Int32} (hb : b < 6) (h : pR c b w) : fF b w (r_wk a w b) := by
  obtain ⟨n, n1, n2⟩ := h.2.1 b hb
  unfold r_wk
  by_cases a0 : a = 0
  · rw [if_pos a0, n2, nn_nat (by omega)]
    exact ff_fold hb n1 (h.2.2.1 b hb) (h.2.2.2 b (Nat.le_refl b) hb)
  · rw [if_neg a0]
    by_cases a1 : a = 1
    · rw [if_pos a1]
      exact ff_reuse hb n2 n1
    · rw [if_neg a1]
      exact ff_order hb n2 n1
theorem pR_st (hb : b < 6) (h : pR c b w) (hf : fF b w v) : pR c (b + 1) v := by
  refine ⟨?_, fun e he => ?_, fun e he => ?_, fun e e1 e2 => fF_u hf hb e2 (by omega) (h.2.2.2 e (by omega) e2)⟩
  · rw [hf.1 65 0 (by omega) (by omega) (by omega) (by omega) (by omega) (by omega)]
    exact h.1
  · obtain ⟨n, n1, n2⟩ := h.2.1 e he
    exact ⟨n, n1, by rw [hf.1 66 e (by omega) (by omega) (by omega) (by omega) (by omega) (by omega)]; exact n2⟩
  · exact cg_sWF (fun k hk => by
      unfold sF
      rw [hf.2.1 _ (by omega)]) (h.2.2.1 e he)
theorem tl164 {a s : Int32} {u : vm_V} (hb : b < 6) (h : ∃ n : Nat, n ≤ 8 ∧ u.1 66 b = Int32.ofNat n) : vE 164 76 [.ref 64, .int a, .int s, .int (Int32.ofNat b)] [] u x ↔ vE 164 36 [.ref 64, .int a, .int (s + r_diff u (Int32.ofNat b)), .int (Int32.ofNat (b + 1))] [] u x := by
  obtain ⟨n, n1, n2⟩ := h
  have hl : (u.1 66 (Int32.ofNat b).toNatClampNeg).toInt < 2147483647 := by
    rw [nn_nat (by omega), n2, Int32.toInt_ofNat_of_lt (by omega)]
    omega
  simp only [q164_76, q164_77, q164_78, q164_79, ct174 hl, exists_eq_left, vB_r, Nat.reduceAdd, q164_82, q164_83, q164_84, q164_87, nn_s]
theorem lp164 {a : Int32} (hc : c ≤ 6) : ∀ (k b : Nat) (s : Int32) (w : vm_V), b + k = c → pR c b w → (vE 164 36 [.ref 64, .int a, .int s, .int (Int32.ofNat b)] [] w x ↔ x = vr (r_psl a k b s w).1 (r_changed (r_psl a k b s w).2))
  | 0, b, s, w, h, hR => by
    have e : b = c := by omega
    subst e
    rw [q164_36]
    simp only [q164_37, q164_38, q164_41, q164_42, q164_43, Nat.reduceAdd, nz0]
    rw [hR.1, if_pos (Int32.le_refl _)]
    simp only [q164_90, q164_91, ct150, exists_eq_left, vB_d, Nat.reduceAdd, q164_94, q164_95]
    rfl
  | k + 1, b, s, w, h, hR => by
    have ne : ¬ Int32.ofNat c ≤ Int32.ofNat b := nl (by omega) (by omega) (by omega)
    have hf := wk_fF (a := a) (by omega) hR
    have hS := pR_st (by omega) hR hf
    obtain ⟨n, n1, n2⟩ := hR.2.1 b (by omega)
    have ih := lp164 (a := a) hc k (b + 1) (s + r_diff (r_wk a w b) (Int32.ofNat b)) (r_wk a w b) (by omega) hS
    rw [show r_psl a (k + 1) b s w = r_psl a k (b + 1) (s + r_diff (r_wk a w b) (Int32.ofNat b)) (r_wk a w b) from rfl, ← ih, ← tl164 (by omega) (hS.2.1 b (by omega)), q164_36]
    simp only [q164_37, q164_38, q164_41, q164_42, q164_43, Nat.reduceAdd, nz0]
    rw [hR.1, if_neg ne]
    simp only [q164_46, q164_47]
    by_cases a0 : a = 0
    · rw [if_pos a0, show r_wk a w b = r_fold w b (w.1 66 b).toNatClampNeg from if_pos a0, n2, nn_nat (by omega)]
      simp only [q164_50, q164_51, q164_52, ct165 (by omega : b < 6) n1 n2 (hR.2.2.1 b (by omega)) (hR.2.2.2 b (Nat.le_refl b) (by omega)), exists_eq_left, vB_d, Nat.reduceAdd, q164_55]
    · rw [if_neg a0]
      simp only [q164_58, q164_59, q164_60]
      by_cases a1 : a = 1
      · rw [if_pos a1, show r_wk a w b = r_reuse w (Int32.ofNat b) from (if_neg a0).trans (if_pos a1)]
        simp only [q164_63, q164_64, q164_65, ct167, exists_eq_left, vB_d, Nat.reduceAdd, q164_68]
      · rw [if_neg a1, show r_wk a w b = r_order w (Int32.ofNat b) from (if_neg a0).trans (if_neg a1)]
        simp only [q164_71, q164_72, q164_73, ct170, exists_eq_left, vB_d, Nat.reduceAdd]
theorem wk_ls {a : Int32} (hB : pB0 c v0 w0) (hb : b < c) (h : lS v0 w0 v w) (hu : fU b 0 w) : lS v0 w0 (c_wk a v b) (r_wk a w b) := by
  obtain ⟨n, f1, f2, f3, f4, f5, f6, f7, f8⟩ := lS_f hB h hb
  have hc := hB.1
  unfold c_wk r_wk
  by_cases a0 : a = 0
  · rw [if_pos a0, if_pos a0, f6, nn_nat (by omega)]
    refine fold_ls hB hb h hu ?_ f1
    rw [← h.1.1 6 b (by omega) (by omega) (by omega) (by omega) (by omega) (by omega)]
    exact f4
  · rw [if_neg a0, if_neg a0]
    by_cases a1 : a = 1
    · rw [if_pos a1, if_pos a1]
      exact reuse_ls hB hb h
    · rw [if_neg a1, if_neg a1]
      exact order_ls hB hb h
def fG (b : Nat) (w w' : vm_V) : Prop := (∀ j : Nat, j < 192 + 32 * b → w'.1 67 j = w.1 67 j) ∧ ∀ j : Nat, j < 24 + 4 * b → w'.1 68 j = w.1 68 j
theorem ps_ls {a : Int32} (hB : pB0 c v0 w0) : ∀ (k b : Nat) (s : Int32) (v w : vm_V), b + k = c → lS v0 w0 v w → pR c b w → lS v0 w0 (c_psl a k b v) (r_psl a k b s w).2 ∧ fG b w (r_psl a k b s w).2 ∧ (r_psl a k b s w).1 = c_dfl (c_psl a k b v) k (Int32.ofNat b) s
  | 0, b, s, v, w, _, h, _ => ⟨h, ⟨fun _ _ => rfl, fun _ _ => rfl⟩, rfl⟩
  | k + 1, b, s, v, w, hk, h, hR => by
    have hc := hB.1
    have hb : b < c := by omega
    have hf := wk_fF (a := a) (by omega) hR
    have h1 := wk_ls (a := a) hB hb h (hR.2.2.2 b (Nat.le_refl b) (by omega))
    obtain ⟨g1, g2, g3⟩ := ps_ls (a := a) hB k (b + 1) (s + r_diff (r_wk a w b) (Int32.ofNat b)) (c_wk a v b) (r_wk a w b) (by omega) h1 (pR_st (by omega) hR hf)
    refine ⟨g1, ⟨fun j hj => (g2.1 j (by omega)).trans (hf.2.1 j (by omega)), fun j hj => (g2.2 j (by omega)).trans (hf.2.2.1 j (by omega))⟩, ?_⟩
    rw [show (r_psl a (k + 1) b s w).1 = _ from g3, show c_psl a (k + 1) b v = c_psl a k (b + 1) (c_wk a v b) from rfl]
    obtain ⟨n, m1, m2, m3, m4, m5, m6, m7, m8⟩ := lS_f hB g1 hb
    have h66 : (r_wk a w b).1 66 b = Int32.ofNat n := by
      rw [h1.2.1.1 66 b (by omega) (by omega) (by omega) (by omega) (by omega) (by omega), ← g1.2.1.1 66 b (by omega) (by omega) (by omega) (by omega) (by omega) (by omega)]
      exact m6
    obtain ⟨_, _, _, _, b5, b6, _⟩ := hB
    have hE : bE b (c_psl a k (b + 1) (c_wk a v b)) (r_wk a w b) := by
      refine ⟨fun j hj => ⟨?_, ?_⟩, fun j hj => ⟨?_, ?_⟩⟩
      · rw [g1.2.2.1 _ (by omega)]
        exact g2.1 _ (by omega)
      · rw [g1.1.1 4 _ (by omega) (by omega) (by omega) (by omega) (by omega) (by omega), b5 _ (by omega)]
        exact (h1.2.1.2.1 _ (by omega)).symm
      · rw [g1.2.2.2 _ (by omega)]
        exact g2.2 _ (by omega)
      · rw [g1.1.1 5 _ (by omega) (by omega) (by omega) (by omega) (by omega) (by omega), b6 _ (by omega)]
        exact (h1.2.1.2.2.1 _ (by omega)).symm
    conv => rhs; unfold c_dfl
    rw [df_ls (s := s) m2 m3 hc hb m1 m5 h66 hE, nn_s]
end PLA
