/-! both sides step by step: what a pass may write; reuse -/
section LSA
variable {v w v0 w0 : vm_V} {c : Nat}
def kC (v0 v : vm_V) : Prop := (∀ p j : Nat, p ≠ 8 → p ≠ 9 → p ≠ 12 → p ≠ 13 → p ≠ 16 → p ≠ 17 → v.1 p j = v0.1 p j) ∧ v.2 = v0.2
def kR (w0 w : vm_V) : Prop := (∀ p j : Nat, p ≠ 67 → p ≠ 68 → p ≠ 86 → p ≠ 87 → p ≠ 88 → p ≠ 89 → w.1 p j = w0.1 p j) ∧ (∀ j : Nat, j < 192 → w.1 67 j = w0.1 67 j) ∧ (∀ j : Nat, j < 24 → w.1 68 j = w0.1 68 j) ∧ w.2 = w0.2
def tE (v w : vm_V) : Prop := ∀ k : Nat, k < 192 → v.1 8 k = w.1 67 (192 + k)
def eE (v w : vm_V) : Prop := ∀ k : Nat, k < 24 → v.1 9 k = w.1 68 (24 + k)
def lS (v0 w0 v w : vm_V) : Prop := kC v0 v ∧ kR w0 w ∧ tE v w ∧ eE v w
/-- at the start of a pass, behind the copies -/
def pB0 (c : Nat) (v0 w0 : vm_V) : Prop := c ≤ 6 ∧ v0.1 3 3 = Int32.ofNat c ∧ v0.1 7 3 = Int32.ofNat c ∧ (∀ b : Nat, b < 6 → ∃ n : Nat, n ≤ 8 ∧ v0.1 6 b = Int32.ofNat n ∧ v0.1 10 b = Int32.ofNat n ∧ w0.1 66 b = Int32.ofNat n) ∧ (∀ k : Nat, k < 192 → v0.1 4 k = w0.1 67 k) ∧ (∀ k : Nat, k < 24 → v0.1 5 k = w0.1 68 k) ∧ (∀ b : Nat, b < 6 → sWF (sF w0 67 b)) ∧ (∀ k : Nat, k < 48 → w0.1 67 (4 * k) = 0 → w0.1 67 (4 * k + 2) = 0) ∧ (∀ k : Nat, k < 48 → 0 ≤ (w0.1 68 k).toInt ∧ (w0.1 68 k).toInt ≤ 5) ∧ (∀ k : Nat, k < 10 → v0.1 1 k = r_takes v0 (Int32.ofNat k)) ∧ v0.2.2.2 1 = 10
theorem kC_rf : kC v v := ⟨fun _ _ _ _ _ _ _ _ => rfl, rfl⟩
theorem kC_tr {u : vm_V} (h1 : kC v0 v) (h2 : kC v u) : kC v0 u := ⟨fun p j a b d e f g => (h2.1 p j a b d e f g).trans (h1.1 p j a b d e f g), h2.2.trans h1.2⟩
theorem kR_tr {u : vm_V} (h1 : kR w0 w) (h2 : kR w u) : kR w0 u := ⟨fun p j a b d e f g => (h2.1 p j a b d e f g).trans (h1.1 p j a b d e f g), fun j hj => (h2.2.1 j hj).trans (h1.2.1 j hj), fun j hj => (h2.2.2.1 j hj).trans (h1.2.2.1 j hj), h2.2.2.2.trans h1.2.2.2⟩
theorem kC_setc {P k : Nat} {o d a z : Int32} (hP : P = 8 ∨ P = 9) : kC v (setc v P k o d a z) := ⟨fun p j a b _ _ _ _ => setc_o (fun q => by omega), rfl⟩
theorem kC_si {P k : Nat} {z : Int32} (hP : P = 12 ∨ P = 13 ∨ P = 16 ∨ P = 17) : kC v (vm_si v P k z) := ⟨fun p j _ _ _ _ _ _ => if_neg (fun q => by omega), rfl⟩
theorem kR_setc {k : Nat} {o d a z : Int32} (hk : 192 ≤ k) : kR w (setc w 67 k o d a z) := ⟨fun p j _ _ _ _ _ _ => setc_o (fun q => by omega), fun j hj => setc_o (fun q => by omega), fun j hj => setc_o (fun q => by omega), rfl⟩
theorem kR_sete {k : Nat} {o d a z : Int32} (hk : 24 ≤ k) : kR w (setc w 68 k o d a z) := ⟨fun p j _ _ _ _ _ _ => setc_o (fun q => by omega), fun j hj => setc_o (fun q => by omega), fun j hj => setc_o (fun q => by omega), rfl⟩
theorem kR_si {P k : Nat} {z : Int32} (hP : P = 86 ∨ P = 87 ∨ P = 88 ∨ P = 89) : kR w (vm_si w P k z) := ⟨fun p j _ _ _ _ _ _ => if_neg (fun q => by omega), fun j hj => if_neg (fun q => by omega), fun j hj => if_neg (fun q => by omega), rfl⟩
theorem tE_setc {k : Nat} {o d a z : Int32} (h : tE v w) : tE (setc v 8 k o d a z) (setc w 67 (192 + k) o d a z) := by
  intro j hj
  by_cases q : k ≤ j ∧ j < k + 4
  · have : j = k ∨ j = k + 1 ∨ j = k + 2 ∨ j = k + 3 := by omega
    rcases this with rfl | rfl | rfl | rfl
    · rw [setc_0, setc_0]
    · rw [setc_1, show 192 + (k + 1) = 192 + k + 1 by omega, setc_1]
    · rw [setc_2, show 192 + (k + 2) = 192 + k + 2 by omega, setc_2]
    · rw [setc_3, show 192 + (k + 3) = 192 + k + 3 by omega, setc_3]
  · rw [setc_o (fun q2 => q q2.2), setc_o (fun q2 => by omega)]
    exact h j hj
theorem eE_sete {k : Nat} {o d a z : Int32} (h : eE v w) : eE (setc v 9 k o d a z) (setc w 68 (24 + k) o d a z) := by
  intro j hj
  by_cases q : k ≤ j ∧ j < k + 4
  · have : j = k ∨ j = k + 1 ∨ j = k + 2 ∨ j = k + 3 := by omega
    rcases this with rfl | rfl | rfl | rfl
    · rw [setc_0, setc_0]
    · rw [setc_1, show 24 + (k + 1) = 24 + k + 1 by omega, setc_1]
    · rw [setc_2, show 24 + (k + 2) = 24 + k + 2 by omega, setc_2]
    · rw [setc_3, show 24 + (k + 3) = 24 + k + 3 by omega, setc_3]
  · rw [setc_o (fun q2 => q q2.2), setc_o (fun q2 => by omega)]
    exact h j hj
theorem eE_o {P Q k l : Nat} {o d a z o' d' a' z' : Int32} (h : eE v w) (hP : P ≠ 9) (hQ : Q ≠ 68) : eE (setc v P k o d a z) (setc w Q l o' d' a' z') := fun j hj => by
  rw [setc_o (fun q => hP q.1.symm), setc_o (fun q => hQ q.1.symm)]
  exact h j hj
theorem tE_o {P Q k l : Nat} {o d a z o' d' a' z' : Int32} (h : tE v w) (hP : P ≠ 8) (hQ : Q ≠ 67) : tE (setc v P k o d a z) (setc w Q l o' d' a' z') := fun j hj => by
  rw [setc_o (fun q => hP q.1.symm), setc_o (fun q => hQ q.1.symm)]
  exact h j hj
theorem lS_setc {k : Nat} {o d a z : Int32} (h : lS v0 w0 v w) : lS v0 w0 (setc v 8 k o d a z) (setc w 67 (192 + k) o d a z) := ⟨kC_tr h.1 (kC_setc (Or.inl rfl)), kR_tr h.2.1 (kR_setc (by omega)), tE_setc h.2.2.1, eE_o h.2.2.2 (by omega) (by omega)⟩
theorem lS_sete {k : Nat} {o d a z : Int32} (h : lS v0 w0 v w) : lS v0 w0 (setc v 9 k o d a z) (setc w 68 (24 + k) o d a z) := ⟨kC_tr h.1 (kC_setc (Or.inr rfl)), kR_tr h.2.1 (kR_sete (by omega)), tE_o h.2.2.1 (by omega) (by omega), eE_sete h.2.2.2⟩
/-- what is known of a block in the midst of a pass -/
theorem lS_f {b : Nat} (hB : pB0 c v0 w0) (h : lS v0 w0 v w) (hb : b < c) : ∃ n : Nat, n ≤ 8 ∧ v.1 3 3 = Int32.ofNat c ∧ v.1 7 3 = Int32.ofNat c ∧ v.1 6 b = Int32.ofNat n ∧ v.1 10 b = Int32.ofNat n ∧ w.1 66 b = Int32.ofNat n ∧ (∀ k : Nat, k < 32 → sF v 4 b k = sF w 67 b k) ∧ sWF (sF w 67 b) := by
  obtain ⟨b1, b2, b3, b4, b5, b6, b7, _⟩ := hB
  obtain ⟨⟨k1, _⟩, ⟨r1, r2, _⟩, _⟩ := h
  obtain ⟨n, n1, n2, n3, n4⟩ := b4 b (by omega)
  have e : ∀ k : Nat, k < 32 → sF w0 67 b k = sF w 67 b k := fun k hk => (r2 (32 * b + k) (by omega)).symm
  refine ⟨n, n1, by rw [k1 3 3 (by omega) (by omega) (by omega) (by omega) (by omega) (by omega), b2], by rw [k1 7 3 (by omega) (by omega) (by omega) (by omega) (by omega) (by omega), b3], by rw [k1 6 b (by omega) (by omega) (by omega) (by omega) (by omega) (by omega), n2], by rw [k1 10 b (by omega) (by omega) (by omega) (by omega) (by omega) (by omega), n3], by rw [r1 66 b (by omega) (by omega) (by omega) (by omega) (by omega) (by omega), n4], fun k hk => ?_, cg_sWF e (b7 b (by omega))⟩
  rw [← e k hk]
  unfold sF
  rw [k1 4 _ (by omega) (by omega) (by omega) (by omega) (by omega) (by omega), b5 _ (by omega)]
theorem m1n (q : Nat) (h : q < 1000) : ¬ Int32.ofNat q = -1 := fun e => by
  have := congrArg Int32.toInt e
  rw [Int32.toInt_ofNat_of_lt (by omega), m1] at this
  omega
theorem r_rfl_e {b i op : Int32} (h : op ≤ 1 ∨ 9 ≤ op) : ∀ (k : Nat) (j fd : Int32), r_rfl v b i op k j fd = fd
  | 0, _, _ => rfl
  | k + 1, j, fd => by
    unfold r_rfl
    rcases h with h | h
    · rw [if_pos h]
    · by_cases q : op ≤ 1
      · rw [if_pos q]
      · rw [if_neg q, if_pos h]
theorem nn_sub1 {i : Nat} (h : i < 1000) : ((Int32.ofNat i - 1).toInt + 1).toNat = i ∧ ∀ z : Nat, i = z + 1 → Int32.ofNat i - 1 = Int32.ofNat z := by
  have e : (Int32.ofNat i - 1).toInt = (i : Int) - 1 := by
    rw [Int32.toInt_sub, Int32.toInt_ofNat_of_lt (by omega), show (1 : Int32).toInt = 1 from rfl]
    exact ty_bm (by omega) (by omega)
  refine ⟨by omega, fun z hz => ?_⟩
  rw [hz, ← nn_s, Int32.add_sub_cancel]
/-- what both find -/
theorem ru_t {b i n : Nat} (hc : c ≤ 6) (hb : b < c) (hi : i < n) (hn : n ≤ 8) (h1 : v.1 3 3 = Int32.ofNat c) (he : ∀ k : Nat, k < 32 → sF v 4 b k = sF w 67 b k) (hwf : sWF (sF w 67 b)) : (if c_codeAt v 3 (Int32.ofNat b) (Int32.ofNat i) 0 = 8 then c_findEarlier v (Int32.ofNat b) (Int32.ofNat i) else if c_isCalc v (c_codeAt v 3 (Int32.ofNat b) (Int32.ofNat i) 0) = 0 then (-1) else c_findEarlier v (Int32.ofNat b) (Int32.ofNat i) : Int32) = r_rfl w (Int32.ofNat b) (Int32.ofNat i) (w.1 67 ((32 * Int32.ofNat b) + (4 * Int32.ofNat i)).toNatClampNeg) ((Int32.ofNat i - 1).toInt + 1).toNat (Int32.ofNat i - 1) (-1) ∧ ((if c_codeAt v 3 (Int32.ofNat b) (Int32.ofNat i) 0 = 8 then c_findEarlier v (Int32.ofNat b) (Int32.ofNat i) else if c_isCalc v (c_codeAt v 3 (Int32.ofNat b) (Int32.ofNat i) 0) = 0 then (-1) else c_findEarlier v (Int32.ofNat b) (Int32.ofNat i) : Int32) = -1 ∨ ∃ q : Nat, q < i ∧ (if c_codeAt v 3 (Int32.ofNat b) (Int32.ofNat i) 0 = 8 then c_findEarlier v (Int32.ofNat b) (Int32.ofNat i) else if c_isCalc v (c_codeAt v 3 (Int32.ofNat b) (Int32.ofNat i) 0) = 0 then (-1) else c_findEarlier v (Int32.ofNat b) (Int32.ofNat i) : Int32) = Int32.ofNat q) := by
  have o1 := (sp_code (i := i) h1 hc hb (by omega)).1
  simp only [Nat.reduceAdd] at o1
  have o2 : w.1 67 ((32 * Int32.ofNat b) + (4 * Int32.ofNat i)).toNatClampNeg = sF v 4 b (4 * i) := by
    rw [rx0 (by omega) (by omega), he _ (by omega)]
    rfl
  rw [o1, o2]
  generalize hX : (if sF v 4 b (4 * i) = 8 then c_findEarlier v (Int32.ofNat b) (Int32.ofNat i) else if c_isCalc v (sF v 4 b (4 * i)) = 0 then (-1) else c_findEarlier v (Int32.ofNat b) (Int32.ofNat i) : Int32) = X
  by_cases hs : sF v 4 b (4 * i) < 2 ∨ 9 ≤ sF v 4 b (4 * i)
  · obtain ⟨q1, q2⟩ := (calc28 (v := v)).mpr hs
    rw [if_neg q1, if_pos q2] at hX
    rw [r_rfl_e (by rcases hs with h | h
                    · exact Or.inl (lt2.mpr h)
                    · exact Or.inr h)]
    exact ⟨hX.symm, Or.inl hX.symm⟩
  · have hX' : c_findEarlier v (Int32.ofNat b) (Int32.ofNat i) = X := by
      by_cases q1 : sF v 4 b (4 * i) = 8
      · rw [if_pos q1] at hX
        exact hX
      · rw [if_neg q1] at hX
        by_cases q2 : c_isCalc v (sF v 4 b (4 * i)) = 0
        · exact absurd ((calc28 (v := v)).mp ⟨q1, q2⟩) hs
        · rw [if_neg q2] at hX
          exact hX
    have h2 : ¬ sF v 4 b (4 * i) < 2 := fun q => hs (Or.inl q)
    have h9 : ¬ 9 ≤ sF v 4 b (4 * i) := fun q => hs (Or.inr q)
    have fc : Fst (fun q => sCl (sF v 4 b) q i) 0 i X := by
      rw [← hX']
      unfold c_findEarlier
      rw [show ((Int32.ofNat i).toInt - (0 : Int32).toInt).toNat = i from by rw [Int32.toInt_ofNat_of_lt (by omega), show (0 : Int32).toInt = 0 from rfl]; omega]
      exact cl_fel h1 hc hb (by omega) i 0 (by omega)
    obtain ⟨s1, s2⟩ := nn_sub1 (i := i) (by omega)
    have fr : Fst (fun q => sSrv (sF w 67 b) q i) 0 i (r_rfl w (Int32.ofNat b) (Int32.ofNat i) (sF v 4 b (4 * i)) ((Int32.ofNat i - 1).toInt + 1).toNat (Int32.ofNat i - 1) (-1)) := by
      rw [s1]
      rcases sr_rfl (v := w) (b := b) (i := i) (by omega) (by omega) (fun q => h2 (lt2.mp q)) h9 i (Int32.ofNat i - 1) (-1) (Nat.le_refl i) s2 with ⟨r1, r2⟩ | ⟨q, r1, r2, r3, r4⟩
      · exact Or.inl ⟨r1, fun q _ q2 => r2 q q2⟩
      · exact Or.inr ⟨q, by omega, r1, r2, fun p _ p2 => r3 p p2, r4⟩
    have hu : X = r_rfl w (Int32.ofNat b) (Int32.ofNat i) (sF v 4 b (4 * i)) ((Int32.ofNat i - 1).toInt + 1).toNat (Int32.ofNat i - 1) (-1) := by
      refine Fst_u (fun q _ q2 => ?_) fc fr
      rw [srv_cl hwf q2 (by omega) (by rw [← he _ (by omega)]; exact h2) (by rw [← he _ (by omega)]; exact h9)]
      exact cg_sCl he q2 (by omega)
    refine ⟨hu, ?_⟩
    rcases fc with ⟨a1, _⟩ | ⟨q, _, q2, _, _, q5⟩
    · exact Or.inl a1
    · exact Or.inr ⟨q, q2, q5⟩
theorem ru_ls {b n : Nat} (hB : pB0 c v0 w0) (hb : b < c) (hn8 : n ≤ 8) : ∀ (k i : Nat) (v w : vm_V), i + k = n → v.1 6 b = Int32.ofNat n → lS v0 w0 v w → lS v0 w0 (c_rul (Int32.ofNat b) (Int32.ofNat n) k (Int32.ofNat i) v) (r_rul (Int32.ofNat b) k (Int32.ofNat i) w)
  | 0, i, v, w, _, _, h => h
  | k + 1, i, v, w, hi, hn, h => by
    have hc := hB.1
    obtain ⟨n', f1, f2, f3, f4, f5, f6, f7, f8⟩ := lS_f hB h hb
    have en : n' = n := by
      rw [f4] at hn
      exact (nn_eq (by omega) (by omega)).mp hn
    subst en
    obtain ⟨t1, t2⟩ := ru_t (i := i) hc hb (by omega) f1 f2 f7 f8
    obtain ⟨o0, o1, _, _⟩ := sp_code (i := i) f2 hc hb (by omega)
    unfold c_rul r_rul
    rw [← t1, nn_s]
    rcases t2 with t2 | ⟨q, q1, t2⟩
    · rw [t2, if_pos (by decide), if_pos rfl]
      exact ru_ls hB hb hn8 k (i + 1) v w (by omega) hn h
    · rw [t2, if_neg (nz (by omega)), if_neg (m1n q (by omega))]
      have oq := (sp_code (i := q) f2 hc hb (by omega)).2.1
      simp only [Nat.reduceAdd] at o0 o1 oq
      rw [o1, oq, pu_setc (p := 7) f3 hc hb f5 f1 (by omega)]
      have e1 : w.1 67 (((32 * Int32.ofNat b) + (4 * Int32.ofNat i)) + 1).toNatClampNeg = sF v 4 b (4 * i + 1) := by
        rw [show (((32 * Int32.ofNat b) + (4 * Int32.ofNat i)) + 1).toNatClampNeg = _ from rxf (f := 1) (by omega) (by omega) (by omega), f7 _ (by omega)]
        unfold sF
        rw [show 32 * b + 4 * i + 1 = 32 * b + (4 * i + 1) by omega]
      have e2 : w.1 67 (((32 * Int32.ofNat b) + (4 * Int32.ofNat q)) + 1).toNatClampNeg = sF v 4 b (4 * q + 1) := by
        rw [show (((32 * Int32.ofNat b) + (4 * Int32.ofNat q)) + 1).toNatClampNeg = _ from rxf (f := 1) (by omega) (by omega) (by omega), f7 _ (by omega)]
        unfold sF
        rw [show 32 * b + 4 * q + 1 = 32 * b + (4 * q + 1) by omega]
      have e3 : (192 + (32 * Int32.ofNat b)) + (4 * Int32.ofNat i) = Int32.ofNat (192 + (32 * b + 4 * i)) := by
        rw [show (192 : Int32) = Int32.ofNat 192 from rfl, show (32 : Int32) = Int32.ofNat 32 from rfl, show (4 : Int32) = Int32.ofNat 4 from rfl, nn_mul, nn_mul, nn_add, nn_add, show 192 + 32 * b + 4 * i = 192 + (32 * b + 4 * i) by omega]
      rw [e1, e2, e3, pu_put (by omega)]
      rw [show puD 1 (sF v 4 b (4 * i + 1)) = sF v 4 b (4 * i + 1) from if_neg (by decide), show puA 1 (sF v 4 b (4 * q + 1)) = sF v 4 b (4 * q + 1) from if_neg (by decide), show puB 1 0 = 0 from by decide]
      refine ru_ls hB hb hn8 k (i + 1) _ _ (by omega) ?_ (lS_setc h)
      rw [setc_o (fun q => by omega)]
      exact hn
end LSA
