/-! the class's values: rows, drafts, atoms -/
section EC
variable {v w u : vm_V} {x : vm_Y}
theorem z01 : ((0 : Int32) &&& 1) = 0 := by decide
theorem si_si {P k : Nat} {y z : Int32} : vm_si (vm_si v P k y) P k z = vm_si v P k z := by
  refine Prod.ext ?_ rfl
  funext Q j
  simp only [vm_si1b]
  by_cases h : Q = P ∧ j = k
  · rw [if_pos h, if_pos h]
  · rw [if_neg h, if_neg h, if_neg h]
theorem lp102 {r : Nat} (hl : v.2.2.2 r = 23) : ∀ (m n : Nat), n + m = 23 → (∀ k : Nat, k < n → v.1 r k = v.1 48 k) → (vE 102 2 [.ref 19, .ref r, .int (Int32.ofNat n)] [] v x ↔ x = vr (bI (∀ k : Nat, k < 23 → v.1 r k = v.1 48 k)) v)
  | 0, n, h, hp => by
    obtain rfl : n = 23 := by omega
    rw [q102_2]
    simp only [q102_3, q102_5]
    rw [if_pos (show (23 : Int32) ≤ Int32.ofNat 23 from by decide)]
    simp only [q102_34, q102_35]
    rw [show bI (∀ k : Nat, k < 23 → v.1 r k = v.1 48 k) = 1 from if_pos hp]
  | m + 1, n, h, hp => by
    rw [q102_2]
    simp only [q102_3, q102_5]
    rw [if_neg (show ¬ (23 : Int32) ≤ Int32.ofNat n from nl (k := 23) (by omega) (by omega) (by omega))]
    simp only [q102_8, q102_9, q102_10, q102_11, hl]
    rw [if_neg (show ¬ Int32.ofNat 23 ≤ Int32.ofNat n from nl (k := 23) (by omega) (by omega) (by omega))]
    simp only [q102_14, q102_15, q102_16, q102_17, q102_18, q102_21, q102_22, q102_23, Nat.reduceAdd]
    rw [nn_nat (by omega)]
    by_cases d : v.1 r n = v.1 48 n
    · rw [if_pos d]
      simp only [q102_28, q102_31, nn_s]
      refine lp102 hl m (n + 1) (by omega) (fun k hk => ?_)
      by_cases e : k = n
      · rw [e]
        exact d
      · exact hp k (by omega)
    · rw [if_neg d]
      simp only [q102_26, q102_27]
      rw [show bI (∀ k : Nat, k < 23 → v.1 r k = v.1 48 k) = 0 from if_neg (fun z => d (z n (by omega)))]
/-- isDraft -/
theorem ct102 {r : Nat} (hl : v.2.2.2 r = 23) : vE 102 0 [.ref 19, .ref r, .retAddr 0] [] v x ↔ x = vr (bI (∀ k : Nat, k < 23 → v.1 r k = v.1 48 k)) v := by
  simp only [q102_0, q102_1]
  exact lp102 hl 23 0 rfl (fun k hk => absurd hk (Nat.not_lt_zero k))
def v_add (n : Nat) (v : vm_V) : vm_V := vm_si (v_up (21 + n) 0 23 (fun k => v.1 48 k) (vm_si v 19 7 (Int32.ofNat (n + 1)))) 43 n (bI (∀ k : Nat, k < 23 → 1 ≤ k → v.1 48 k = 0))
theorem lp89 {n : Nat} (hn : n < 22) : ∀ (m c : Nat) (z : Int32), c + m = 23 → 1 ≤ c → z = bI (∀ k : Nat, k < c → 1 ≤ k → u.1 48 k = 0) → (vE 89 50 [.ref 19, .int (Int32.ofNat n), .int (Int32.ofNat c)] [] (vm_si u 43 n z) x ↔ x = vr (Int32.ofNat n) (vm_si u 43 n (bI (∀ k : Nat, k < 23 → 1 ≤ k → u.1 48 k = 0))))
  | 0, c, z, h, h1, hz => by
    obtain rfl : c = 23 := by omega
    rw [q89_50]
    simp only [q89_51, q89_53]
    rw [if_pos (show (23 : Int32) ≤ Int32.ofNat 23 from by decide)]
    simp only [q89_78, q89_79]
    rw [hz]
  | m + 1, c, z, h, h1, hz => by
    rw [q89_50]
    simp only [q89_51, q89_53]
    rw [if_neg (show ¬ (23 : Int32) ≤ Int32.ofNat c from nl (k := 23) (by omega) (by omega) (by omega))]
    simp only [q89_56, q89_57, q89_60, q89_61, q89_62, Nat.reduceAdd]
    rw [nn_nat (show c < 2147483648 by omega), show (vm_si u 43 n z).1 48 c = u.1 48 c from by rw [vm_si1b, if_neg (by omega)]]
    by_cases d : u.1 48 c = 0
    · rw [if_pos d]
      simp only [q89_72, q89_75, nn_s]
      refine lp89 hn m (c + 1) z (by omega) (by omega) ?_
      rw [hz]
      refine bI_c ⟨fun q k hk hk1 => ?_, fun q k hk => q k (by omega)⟩
      by_cases e : k = c
      · rw [e]
        exact d
      · exact q k (by omega) hk1
    · rw [if_neg d]
      simp only [q89_65, q89_66, q89_69, q89_70, q89_71, q89_72, q89_75, nn_s, Nat.reduceAdd, z01]
      rw [nn_nat (show n < 2147483648 by omega), si_si]
      refine lp89 hn m (c + 1) 0 (by omega) (by omega) ?_
      exact (if_neg (fun q => d (q c (by omega) h1))).symm
/-- addDraft -/
theorem ct89 {n : Nat} (h : v.1 19 7 = Int32.ofNat n) (hn : n < 22) : vE 89 0 [.ref 19, .retAddr 0, .retAddr 0] [] v x ↔ x = vr (Int32.ofNat n) (v_add n v) := by
  simp only [q89_0, q89_1, q89_4, q89_5, q89_6, h]
  rw [if_neg (nn_n0 (by omega))]
  simp only [q89_9, q89_10, q89_12]
  rw [if_pos (show Int32.ofNat n < 22 from (nn_lt (b := 22) (by omega) (by omega)).mpr hn)]
  simp only [q89_17, q89_18, q89_19, q89_20, q89_21, q89_24, q89_25, q89_28, q89_29, q89_30, q89_33, q89_34, q89_35, q89_36, q89_38, q89_41, q89_42, q89_45, q89_46, q89_47, q89_48, q89_49, nn_s, Nat.reduceAdd, a11]
  rw [show (23 : Int32).toNatClampNeg = 23 from rfl, show (0 : Int32).toNatClampNeg = 0 from rfl, nn_nat (show n < 2147483648 by omega), v_cpu]
  have e0 : ∀ k : Nat, (vm_si v 19 7 (Int32.ofNat (n + 1))).1 48 (0 + k) = v.1 48 k := fun k => by
    rw [vm_si1b, if_neg (by omega), Nat.zero_add]
  rw [v_upc (g' := fun k => v.1 48 k) (fun k _ => e0 k)]
  have e1 : ∀ k : Nat, (v_up (21 + n) 0 23 (fun k => v.1 48 k) (vm_si v 19 7 (Int32.ofNat (n + 1)))).1 48 k = v.1 48 k := fun k => by
    rw [v_upo (by omega), vm_si1b, if_neg (by omega)]
  refine (lp89 hn 22 1 1 rfl (by omega) (if_pos (fun k h1 h2 => by omega)).symm).trans ?_
  unfold v_add
  rw [bI_c (c := ∀ k : Nat, k < 23 → 1 ≤ k → (v_up (21 + n) 0 23 (fun k => v.1 48 k) (vm_si v 19 7 (Int32.ofNat (n + 1)))).1 48 k = 0) (d := ∀ k : Nat, k < 23 → 1 ≤ k → v.1 48 k = 0) ⟨fun q k hk h1 => (e1 k).symm.trans (q k hk h1), fun q k hk h1 => (e1 k).trans (q k hk h1)⟩]
/-- what holds of the rows: n values, a atoms -/
def VI (n a : Nat) (v : vm_V) : Prop := v.1 19 7 = Int32.ofNat n ∧ v.1 19 8 = Int32.ofNat a ∧ a ≤ n ∧ n ≤ 22 ∧ ((∀ t : Nat, t < 22 → v.2.2.2 (21 + t) = 23) ∧ v.2.2.2 48 = 23) ∧ (∀ t : Nat, t < n → v.1 43 t = bI (∀ k : Nat, k < 23 → 1 ≤ k → v.1 (21 + t) k = 0)) ∧ (∀ s t : Nat, s < n → t < n → (∀ k : Nat, k < 23 → v.1 (21 + s) k = v.1 (21 + t) k) → s = t) ∧ (∀ t k : Nat, t < n → a < k → k < 23 → v.1 (21 + t) k = 0) ∧ ∀ i : Nat, i < a → ∃ t : Nat, t < n ∧ v.1 47 i = Int32.ofNat t ∧ ∀ k : Nat, k < 23 → v.1 (21 + t) k = if k = 1 + i then 1 else 0
/-- what a new value leaves -/
def VX (n a : Nat) (v : vm_V) (n' a' : Nat) (v' : vm_V) : Prop := n ≤ n' ∧ n' ≤ n + 1 ∧ a ≤ a' ∧ a' ≤ a + 1 ∧ (∀ t k : Nat, t < n → k < 23 → v'.1 (21 + t) k = v.1 (21 + t) k) ∧ (∀ i : Nat, i < a → v'.1 44 i = v.1 44 i ∧ v'.1 45 i = v.1 45 i ∧ v'.1 46 i = v.1 46 i ∧ v'.1 47 i = v.1 47 i) ∧ (∀ P j : Nat, P < 19 ∨ 48 < P → v'.1 P j = v.1 P j) ∧ v'.2 = v.2
theorem VX_rf {n a : Nat} : VX n a v n a v := ⟨Nat.le_refl _, Nat.le_succ _, Nat.le_refl _, Nat.le_succ _, fun _ _ _ _ => rfl, fun _ _ => ⟨rfl, rfl, rfl, rfl⟩, fun _ _ _ => rfl, rfl⟩
/-- the draft alone is written -/
theorem VI_48 {n a : Nat} (h : VI n a v) (h1 : ∀ P j : Nat, P ≠ 48 → w.1 P j = v.1 P j) (h2 : w.2 = v.2) : VI n a w := by
  obtain ⟨a1, a2, a3, a4, a5, a6, a7, a8, a9⟩ := h
  refine ⟨(h1 _ _ (by omega)).trans a1, (h1 _ _ (by omega)).trans a2, a3, a4, by rw [h2]; exact a5, fun t ht => ?_, fun s t hs ht q => a7 s t hs ht (fun k hk => ?_), fun t k ht hk hk2 => (h1 _ _ (by omega)).trans (a8 t k ht hk hk2), fun i hi => ?_⟩
  · rw [h1 _ _ (by omega), a6 t ht]
    exact bI_c ⟨fun q k hk hk1 => (h1 _ _ (by omega)).trans (q k hk hk1), fun q k hk hk1 => (h1 _ _ (by omega)).symm.trans (q k hk hk1)⟩
  · have := q k hk
    rwa [h1 _ _ (by omega), h1 _ _ (by omega)] at this
  · obtain ⟨t, t1, t2, t3⟩ := a9 i hi
    exact ⟨t, t1, (h1 _ _ (by omega)).trans t2, fun k hk => (h1 _ _ (by omega)).trans (t3 k hk)⟩
theorem v_add1 {n P j : Nat} : (v_add n v).1 P j = if P = 43 ∧ j = n then bI (∀ k : Nat, k < 23 → 1 ≤ k → v.1 48 k = 0) else if P = 21 + n ∧ 0 ≤ j ∧ j < 0 + 23 then v.1 48 j else if P = 19 ∧ j = 7 then Int32.ofNat (n + 1) else v.1 P j := by
  unfold v_add
  rw [vm_si1b, v_up1, vm_si1b, show j - 0 = j from rfl]
/-- the draft is kept: VI -/
theorem VI_add {n a : Nat} (h : VI n a v) (hn : n < 22) (hz : ∀ k : Nat, a < k → k < 23 → v.1 48 k = 0) (hd : ∀ s : Nat, s < n → ¬ ∀ k : Nat, k < 23 → v.1 (21 + s) k = v.1 48 k) : VI (n + 1) a (v_add n v) ∧ VX n a v (n + 1) a (v_add n v) ∧ ∀ k : Nat, k < 23 → (v_add n v).1 (21 + n) k = v.1 48 k := by
  obtain ⟨a1, a2, a3, a4, a5, a6, a7, a8, a9⟩ := h
  have ro : ∀ t k : Nat, t < n → (v_add n v).1 (21 + t) k = v.1 (21 + t) k := fun t k ht => by
    rw [v_add1, if_neg (by omega), if_neg (by omega), if_neg (by omega)]
  have rn : ∀ k : Nat, k < 23 → (v_add n v).1 (21 + n) k = v.1 48 k := fun k hk => by
    rw [v_add1, if_neg (by omega), if_pos (by omega)]
  refine ⟨⟨?_, ?_, by omega, by omega, a5, fun t ht => ?_, fun s t hs ht q => ?_, fun t k ht hk hk2 => ?_, fun i hi => ?_⟩, ⟨by omega, by omega, by omega, by omega, fun t k ht hk => ro t k ht, fun i hi => ⟨?_, ?_, ?_, ?_⟩, fun P j hP => ?_, rfl⟩, rn⟩
  · rw [v_add1, if_neg (by omega), if_neg (by omega), if_pos ⟨rfl, rfl⟩]
  · rw [v_add1, if_neg (by omega), if_neg (by omega), if_neg (by omega)]
    exact a2
  · by_cases e : t = n
    · subst e
      rw [v_add1, if_pos ⟨rfl, rfl⟩]
      exact bI_c ⟨fun q k hk hk1 => (rn k hk).trans (q k hk hk1), fun q k hk hk1 => (rn k hk).symm.trans (q k hk hk1)⟩
    · rw [v_add1, if_neg (by omega), if_neg (by omega), if_neg (by omega), a6 t (by omega)]
      exact bI_c ⟨fun q k hk hk1 => (ro t k (by omega)).trans (q k hk hk1), fun q k hk hk1 => (ro t k (by omega)).symm.trans (q k hk hk1)⟩
  · by_cases es : s = n
    · by_cases et : t = n
      · omega
      · exfalso
        refine hd t (by omega) (fun k hk => ?_)
        have := q k hk
        rw [es, rn k hk, ro t k (by omega)] at this
        exact this.symm
    · by_cases et : t = n
      · exfalso
        refine hd s (by omega) (fun k hk => ?_)
        have := q k hk
        rw [et, rn k hk, ro s k (by omega)] at this
        exact this
      · refine a7 s t (by omega) (by omega) (fun k hk => ?_)
        have := q k hk
        rwa [ro s k (by omega), ro t k (by omega)] at this
  · by_cases e : t = n
    · rw [e, rn k hk2]
      exact hz k hk hk2
    · rw [ro t k (by omega)]
      exact a8 t k (by omega) hk hk2
  · obtain ⟨t, t1, t2, t3⟩ := a9 i hi
    refine ⟨t, by omega, ?_, fun k hk => (ro t k t1).trans (t3 k hk)⟩
    rw [v_add1, if_neg (by omega), if_neg (by omega), if_neg (by omega)]
    exact t2
  · rw [v_add1, if_neg (by omega), if_neg (by omega), if_neg (by omega)]
  · rw [v_add1, if_neg (by omega), if_neg (by omega), if_neg (by omega)]
  · rw [v_add1, if_neg (by omega), if_neg (by omega), if_neg (by omega)]
  · rw [v_add1, if_neg (by omega), if_neg (by omega), if_neg (by omega)]
  · rw [v_add1, if_neg (by omega), if_neg (by omega), if_neg (by omega)]
theorem kd_l {n a : Nat} (hV : VI n a v) (hn : n < 22) : ∀ (m i : Nat), i + m = n → (∀ s : Nat, s < i → ¬ ∀ k : Nat, k < 23 → v.1 (21 + s) k = v.1 48 k) → vE 101 2 [.ref 19, .int (Int32.ofNat i)] [] v x → (∃ s : Nat, s < n ∧ (∀ k : Nat, k < 23 → v.1 (21 + s) k = v.1 48 k) ∧ x = vr (Int32.ofNat s) v) ∨ ((∀ s : Nat, s < n → ¬ ∀ k : Nat, k < 23 → v.1 (21 + s) k = v.1 48 k) ∧ x = vr (Int32.ofNat n) (v_add n v))
  | 0, i, h, hp, e => by
    obtain ⟨a1, _⟩ := hV
    rw [q101_2] at e
    simp only [q101_3, q101_4, q101_7, a1] at e
    rw [if_pos (by rw [show i = n by omega]; exact Int32.le_refl _)] at e
    simp only [q101_37, q101_38, ct89 a1 hn, exists_eq_left, vB_r, Nat.reduceAdd, q101_41] at e
    exact Or.inr ⟨fun s hs => hp s (by omega), e⟩
  | m + 1, i, h, hp, e => by
    obtain ⟨a1, a2, a3, a4, a5, a6⟩ := hV
    have hV : VI n a v := ⟨a1, a2, a3, a4, a5, a6⟩
    rw [q101_2] at e
    simp only [q101_3, q101_4, q101_7, a1] at e
    rw [if_neg (nl (by omega) (by omega) (by omega))] at e
    simp only [q101_10, q101_11, q101_13] at e
    rw [if_neg (show ¬ (22 : Int32) ≤ Int32.ofNat i from nl (k := 22) (by omega) (by omega) (by omega))] at e
    simp only [q101_16, q101_17, q101_18, q101_21, q101_22, q101_23, Nat.reduceAdd, nn_nat (show i < 2147483648 by omega), ct102 (a5.1 i (by omega)), exists_eq_left, vB_r, q101_26] at e
    by_cases c : ∀ k : Nat, k < 23 → v.1 (21 + i) k = v.1 48 k
    · rw [if_neg (fun z => bI_z.mp z c)] at e
      simp only [q101_29, q101_30] at e
      exact Or.inl ⟨i, by omega, c, e⟩
    · rw [if_pos (bI_z.mpr c)] at e
      simp only [q101_31, q101_34, nn_s] at e
      refine kd_l hV hn m (i + 1) (by omega) (fun s hs => ?_) e
      by_cases q : s = i
      · rw [q]
        exact c
      · exact hp s (by omega)
/-- keepDraft -/
theorem kd_x {n a : Nat} (hV : VI n a v) (hn : n < 22) (hz : ∀ k : Nat, a < k → k < 23 → v.1 48 k = 0) (e : vE 101 0 [.ref 19, .retAddr 0] [] v x) : ∃ (s n' : Nat) (v' : vm_V), x = vr (Int32.ofNat s) v' ∧ VI n' a v' ∧ VX n a v n' a v' ∧ s < n' ∧ ∀ k : Nat, k < 23 → v'.1 (21 + s) k = v.1 48 k := by
  simp only [q101_0, q101_1] at e
  rcases kd_l hV hn n 0 (Nat.zero_add n) (fun s hs => absurd hs (Nat.not_lt_zero s)) e with ⟨s, s1, s2, s3⟩ | ⟨s1, s2⟩
  · exact ⟨s, n, v, s3, hV, VX_rf, s1, s2⟩
  · obtain ⟨g1, g2, g3⟩ := VI_add hV hn hz s1
    exact ⟨n, n + 1, v_add n v, s2, g1, g2, by omega, g3⟩
theorem VX_48 {n a n' a' : Nat} {v' : vm_V} (hn : n ≤ 22) (h1 : ∀ P j : Nat, P ≠ 48 → w.1 P j = v.1 P j) (h2 : w.2 = v.2) (h : VX n a w n' a' v') : VX n a v n' a' v' := by
  obtain ⟨b1, b2, b3, b4, b5, b6, b7, b8⟩ := h
  refine ⟨b1, b2, b3, b4, fun t k ht hk => (b5 t k ht hk).trans (h1 _ _ (by omega)) , fun i hi => ?_, fun P j hP => (b7 P j hP).trans (h1 _ _ (by omega)), b8.trans h2⟩
  obtain ⟨c1, c2, c3, c4⟩ := b6 i hi
  exact ⟨c1.trans (h1 _ _ (by omega)), c2.trans (h1 _ _ (by omega)), c3.trans (h1 _ _ (by omega)), c4.trans (h1 _ _ (by omega))⟩
/-- what making a value from a draft gives -/
def MK (n a : Nat) (v : vm_V) (g : Nat → Int32) (x : vm_Y) : Prop := ∃ (s n' : Nat) (v' : vm_V), x = vr (Int32.ofNat s) v' ∧ VI n' a v' ∧ VX n a v n' a v' ∧ s < n' ∧ ∀ k : Nat, k < 23 → v'.1 (21 + s) k = g k
theorem mk_d {n a : Nat} {g : Nat → Int32} (hV : VI n a v) (hn : n < 22) (hz : ∀ k : Nat, a < k → k < 23 → g k = 0) (h1 : ∀ P j : Nat, P ≠ 48 → w.1 P j = v.1 P j) (h2 : w.2 = v.2) (h3 : ∀ k : Nat, k < 23 → w.1 48 k = g k) (e : vE 101 0 [.ref 19, .retAddr 0] [] w x) : MK n a v g x := by
  obtain ⟨s, n', v', f1, f2, f3, f4, f5⟩ := kd_x (VI_48 hV h1 h2) hn (fun k hk hk2 => (h3 k hk2).trans (hz k hk hk2)) e
  exact ⟨s, n', v', f1, f2, VX_48 (by omega) h1 h2 f3, f4, fun k hk => (f5 k hk).trans (h3 k hk)⟩
/-- makeNumber -/
theorem mk_num {n a : Nat} {z : Int32} (hV : VI n a v) (hn : n < 22) (e : vE 100 0 [.ref 19, .int z] [] v x) : MK n a v (fun k => if k = 0 then z else 0) x := by
  have hl := hV.2.2.2.2.1.2
  simp only [q100_0, q100_1, q100_4, q100_5, Nat.reduceAdd, ct80 hl (by omega), exists_eq_left, vB_d, q100_8, q100_9, q100_12, q100_13, q100_14, q100_15, q100_16] at e
  obtain ⟨y, e1, e2⟩ := e
  rw [v_flu, show (0 : Int32).toNatClampNeg = 0 from rfl] at e1
  obtain ⟨s, n', v', f1, f2, f3, f4, f5⟩ := mk_d (w := vm_si (v_up 48 0 23 (fun _ => 0) v) 48 0 z) (g := fun k => if k = 0 then z else 0) hV hn (fun k hk _ => if_neg (by omega)) (fun P j hP => by
    rw [vm_si1b, if_neg (fun q => hP q.1), v_upo hP]) rfl (fun k hk => by
    rw [vm_si1b]
    by_cases k0 : k = 0
    · rw [if_pos ⟨rfl, k0⟩, if_pos k0]
    · rw [if_neg (fun q => k0 q.2), v_up1, if_pos (by omega), if_neg k0]) e1
  subst f1
  simp only [vB_r, Nat.reduceAdd, q100_19] at e2
  exact ⟨s, n', v', e2, f2, f3, f4, f5⟩
theorem cell_n {t k : Nat} (ht : t < 22) (hk : k < 23) : c_cell v (Int32.ofNat t) (Int32.ofNat k) = v.1 (21 + t) k := by
  unfold c_cell
  rw [if_neg (nn_n0 (by omega)), if_neg (show ¬ (22 : Int32) ≤ Int32.ofNat t from nl (k := 22) (by omega) (by omega) ht), if_neg (nn_n0 (by omega)), if_neg (show ¬ (23 : Int32) ≤ Int32.ofNat k from nl (k := 23) (by omega) (by omega) hk), if_neg i10, nn_nat (by omega), nn_nat (by omega)]
theorem lp104 {s t : Nat} {z : Int32} (hs : s < 22) (ht : t < 22) : ∀ (m c : Nat), c + m = 23 → (vE 104 3 [.ref 19, .int (Int32.ofNat s), .int (Int32.ofNat t), .int z, .int (Int32.ofNat c)] [] (v_up 48 0 c (fun k => v.1 (21 + s) k + z * v.1 (21 + t) k) v) x ↔ vE 104 40 [.ref 19, .int (Int32.ofNat s), .int (Int32.ofNat t), .int z, .int (Int32.ofNat 23)] [] (v_up 48 0 23 (fun k => v.1 (21 + s) k + z * v.1 (21 + t) k) v) x)
  | 0, c, h => by
    obtain rfl : c = 23 := by omega
    rw [q104_3]
    simp only [q104_5, q104_7]
    rw [if_pos (show (23 : Int32) ≤ Int32.ofNat 23 from by decide)]
  | m + 1, c, h => by
    rw [q104_3]
    simp only [q104_5, q104_7]
    rw [if_neg (show ¬ (23 : Int32) ≤ Int32.ofNat c from nl (k := 23) (by omega) (by omega) (by omega))]
    simp only [q104_10, q104_11, q104_14, q104_16, q104_17, q104_18, q104_20, ct96, exists_eq_left, vB_r, q104_23, q104_24, q104_25, q104_26, q104_28, q104_31, q104_32, q104_33, q104_34, q104_37, Nat.reduceAdd, nn_s, cell_n hs (show c < 23 by omega), cell_n ht (show c < 23 by omega)]
    rw [nn_nat (show c < 2147483648 by omega), v_upo (by omega), v_upo (by omega)]
    have e := v_upS (v := v) (q := 48) (j := 0) (n := c) (g := fun k => v.1 (21 + s) k + z * v.1 (21 + t) k)
    rw [Nat.zero_add] at e
    rw [e]
    exact lp104 hs ht m (c + 1) (by omega)
/-- makeSum -/
theorem mk_sum {n a s t : Nat} {z : Int32} (hV : VI n a v) (hn : n < 22) (hs : s < n) (ht : t < n) (e : vE 104 0 [.ref 19, .int (Int32.ofNat s), .int (Int32.ofNat t), .int z, .retAddr 0] [] v x) : MK n a v (fun k => v.1 (21 + s) k + z * v.1 (21 + t) k) x := by
  simp only [q104_0, q104_1] at e
  have e := (show vE 104 3 [.ref 19, .int (Int32.ofNat s), .int (Int32.ofNat t), .int z, .int (Int32.ofNat 0)] [] v x from e)
  have L := lp104 (v := v) (x := x) (z := z) (show s < 22 by omega) (show t < 22 by omega) 23 0 rfl
  rw [v_up0] at L
  have e := L.mp e
  simp only [q104_40, q104_41] at e
  obtain ⟨y, e1, e2⟩ := e
  have a8 := hV.2.2.2.2.2.2.2.1
  obtain ⟨s', n', v', f1, f2, f3, f4, f5⟩ := mk_d (w := v_up 48 0 23 (fun k => v.1 (21 + s) k + z * v.1 (21 + t) k) v) (g := fun k => v.1 (21 + s) k + z * v.1 (21 + t) k) hV hn (fun k hk hk2 => by
    rw [a8 s k hs hk hk2, a8 t k ht hk hk2, Int32.mul_zero, Int32.add_zero]) (fun P j hP => v_upo hP) rfl (fun k hk => by
    rw [v_up1, if_pos (by omega)]
    rfl) e1
  subst f1
  simp only [vB_r, Nat.reduceAdd, q104_44] at e2
  exact ⟨s', n', v', e2, f2, f3, f4, f5⟩
/-- makeAtom: the search -/
def aM (v : vm_V) (K l r : Int32) (s : Nat) : Prop := v.1 44 s = K ∧ v.1 45 s = l ∧ v.1 46 s = r
theorem at_l {n a : Nat} {K l r : Int32} {l5 : Value} (hV : VI n a v) : ∀ (m i : Nat), i + m = a → (∀ s : Nat, s < i → ¬ aM v K l r s) → vE 88 3 [.ref 19, .int K, .int l, .int r, .int (Int32.ofNat i), l5] [] v x → (∃ s : Nat, s < a ∧ aM v K l r s ∧ (∀ q : Nat, q < s → ¬ aM v K l r q) ∧ x = vr (v.1 47 s) v) ∨ ((∀ s : Nat, s < a → ¬ aM v K l r s) ∧ vE 88 66 [.ref 19, .int K, .int l, .int r, .int (Int32.ofNat a), l5] [] v x)
  | 0, i, h, hp, e => by
    obtain ⟨a1, a2, _⟩ := hV
    rw [q88_3] at e
    simp only [q88_5, q88_6, q88_9, a2] at e
    rw [if_pos (by rw [show i = a by omega]; exact Int32.le_refl _), show i = a by omega] at e
    exact Or.inr ⟨fun s hs => hp s (by omega), e⟩
  | m + 1, i, h, hp, e => by
    obtain ⟨a1, a2, a3, a4, a5⟩ := hV
    have hV : VI n a v := ⟨a1, a2, a3, a4, a5⟩
    rw [q88_3] at e
    simp only [q88_5, q88_6, q88_9, a2] at e
    rw [if_neg (nl (by omega) (by omega) (by omega))] at e
    simp only [q88_12, q88_14, q88_16] at e
    rw [if_neg (show ¬ (22 : Int32) ≤ Int32.ofNat i from nl (k := 22) (by omega) (by omega) (by omega))] at e
    simp only [q88_19, q88_20, q88_23, q88_25, q88_26, q88_27, Nat.reduceAdd, nn_nat (show i < 2147483648 by omega)] at e
    have nx : ¬ aM v K l r i → vE 88 60 [.ref 19, .int K, .int l, .int r, .int (Int32.ofNat i), l5] [] v x → (∃ s : Nat, s < a ∧ aM v K l r s ∧ (∀ q : Nat, q < s → ¬ aM v K l r q) ∧ x = vr (v.1 47 s) v) ∨ ((∀ s : Nat, s < a → ¬ aM v K l r s) ∧ vE 88 66 [.ref 19, .int K, .int l, .int r, .int (Int32.ofNat a), l5] [] v x) := fun hno e => by
      simp only [q88_60, q88_63, nn_s] at e
      refine at_l hV m (i + 1) (by omega) (fun s hs => ?_) e
      by_cases q : s = i
      · rw [q]
        exact hno
      · exact hp s (by omega)
    by_cases c1 : v.1 44 i = K
    · rw [if_pos c1] at e
      simp only [q88_30, q88_31, q88_34, q88_36, q88_37, q88_38, Nat.reduceAdd, nn_nat (show i < 2147483648 by omega)] at e
      by_cases c2 : v.1 45 i = l
      · rw [if_pos c2] at e
        simp only [q88_41, q88_42, q88_45, q88_47, q88_48, q88_49, Nat.reduceAdd, nn_nat (show i < 2147483648 by omega)] at e
        by_cases c3 : v.1 46 i = r
        · rw [if_pos c3] at e
          simp only [q88_52, q88_53, q88_56, q88_58, q88_59, Nat.reduceAdd, nn_nat (show i < 2147483648 by omega)] at e
          exact Or.inl ⟨i, by omega, ⟨c1, c2, c3⟩, hp, e⟩
        · rw [if_neg c3] at e
          exact nx (fun z => c3 z.2.2) e
      · rw [if_neg c2] at e
        exact nx (fun z => c2 z.2.1) e
    · rw [if_neg c1] at e
      exact nx (fun z => c1 z.1) e
def v_ad0 (a : Nat) (v : vm_V) : vm_V := vm_si (v_up 48 0 23 (fun _ => 0) (vm_si v 19 8 (Int32.ofNat (a + 1)))) 48 (1 + a) 1
def v_at (K l r : Int32) (n a : Nat) (v : vm_V) : vm_V := vm_si (vm_si (vm_si (vm_si (v_add n (v_ad0 a v)) 44 a K) 45 a l) 46 a r) 47 a (Int32.ofNat n)
theorem v_ad01 {a P j : Nat} : (v_ad0 a v).1 P j = if P = 48 ∧ j = 1 + a then 1 else if P = 48 ∧ 0 ≤ j ∧ j < 0 + 23 then 0 else if P = 19 ∧ j = 8 then Int32.ofNat (a + 1) else v.1 P j := by
  unfold v_ad0
  rw [vm_si1b, v_up1, vm_si1b]
theorem at_new {n a : Nat} {K l r : Int32} {l4 l5 : Value} (hV : VI n a v) (hn : n < 22) (e : vE 88 66 [.ref 19, .int K, .int l, .int r, l4, l5] [] v x) : x = vr (Int32.ofNat n) (v_at K l r n a v) := by
  obtain ⟨a1, a2, a3, a4, a5, _⟩ := hV
  simp only [q88_66, q88_67, q88_70, q88_72, q88_74, a2] at e
  rw [if_neg (nn_n0 (by omega))] at e
  simp only [q88_77, q88_79, q88_81] at e
  rw [if_pos (show Int32.ofNat a < 22 from (nn_lt (b := 22) (by omega) (by omega)).mpr (by omega))] at e
  simp only [q88_86, q88_87, q88_89, q88_90, q88_91, q88_94, q88_95, q88_98, q88_99, nn_s, Nat.reduceAdd, ct80 (v := vm_si v 19 8 (Int32.ofNat (a + 1))) (show (vm_si v 19 8 (Int32.ofNat (a + 1))).2.2.2 48 = 23 from a5.2) (by omega), exists_eq_left, vB_d, q88_102, q88_103, q88_106, q88_107, q88_109, q88_110, q88_111, q88_112, q88_113] at e
  rw [v_flu, show (1 : Int32) + Int32.ofNat a = Int32.ofNat (1 + a) from nn_add 1 a, nn_nat (show 1 + a < 2147483648 by omega)] at e
  have hu : (v_ad0 a v).1 19 7 = Int32.ofNat n := by
    rw [v_ad01, if_neg (by omega), if_neg (by omega), if_neg (by omega)]
    exact a1
  have e := (show ∃ y, vE 89 0 [.ref 19, .retAddr 0, .retAddr 0] [] (v_ad0 a v) y ∧ vB 88 113 [.ref 19, .int K, .int l, .int r, .int (Int32.ofNat a), l5] [] y x from e)
  simp only [ct89 hu hn, exists_eq_left, vB_r, Nat.reduceAdd, q88_116, q88_118, q88_119, q88_122, q88_124, q88_125, q88_126, q88_127, q88_130, q88_132, q88_133, q88_134, q88_135, q88_138, q88_140, q88_141, q88_142, q88_143, q88_146, q88_148, q88_150, q88_151, q88_153, nn_nat (show a < 2147483648 by omega)] at e
  exact e
theorem v_at1 {K l r : Int32} {n a P j : Nat} (h : P < 44 ∨ 47 < P) : (v_at K l r n a v).1 P j = (v_add n (v_ad0 a v)).1 P j := by
  unfold v_at
  rw [vm_si1b, if_neg (by omega), vm_si1b, if_neg (by omega), vm_si1b, if_neg (by omega), vm_si1b, if_neg (by omega)]
theorem VI_at {n a : Nat} {K l r : Int32} (h : VI n a v) (hn : n < 22) : VI (n + 1) (a + 1) (v_at K l r n a v) ∧ VX n a v (n + 1) (a + 1) (v_at K l r n a v) ∧ (∀ k : Nat, k < 23 → (v_at K l r n a v).1 (21 + n) k = if k = 1 + a then 1 else 0) ∧ (v_at K l r n a v).1 44 a = K ∧ (v_at K l r n a v).1 45 a = l ∧ (v_at K l r n a v).1 46 a = r := by
  obtain ⟨a1, a2, a3, a4, a5, a6, a7, a8, a9⟩ := h
  have d48 : ∀ k : Nat, k < 23 → (v_ad0 a v).1 48 k = if k = 1 + a then 1 else 0 := fun k hk => by
    rw [v_ad01]
    by_cases q : k = 1 + a
    · rw [if_pos ⟨rfl, q⟩, if_pos q]
    · rw [if_neg (fun z => q z.2), if_pos (by omega), if_neg q]
  have dO : ∀ P j : Nat, P ≠ 48 → ¬ (P = 19 ∧ j = 8) → (v_ad0 a v).1 P j = v.1 P j := fun P j h1 h2 => by
    rw [v_ad01, if_neg (fun z => h1 z.1), if_neg (fun z => h1 z.1), if_neg h2]
  have ro : ∀ t k : Nat, t < n → (v_at K l r n a v).1 (21 + t) k = v.1 (21 + t) k := fun t k ht => by
    rw [v_at1 (by omega), v_add1, if_neg (by omega), if_neg (by omega), if_neg (by omega)]
    exact dO _ _ (by omega) (by omega)
  have rn : ∀ k : Nat, k < 23 → (v_at K l r n a v).1 (21 + n) k = if k = 1 + a then 1 else 0 := fun k hk => by
    rw [v_at1 (by omega), v_add1, if_neg (by omega), if_pos (by omega)]
    exact d48 k hk
  have lo : ∀ P i : Nat, 44 ≤ P → P ≤ 47 → i < a → (v_at K l r n a v).1 P i = v.1 P i := fun P i h1 h2 hi => by
    unfold v_at
    rw [vm_si1b, if_neg (by omega), vm_si1b, if_neg (by omega), vm_si1b, if_neg (by omega), vm_si1b, if_neg (by omega), v_add1, if_neg (by omega), if_neg (by omega), if_neg (by omega)]
    exact dO _ _ (by omega) (by omega)
  refine ⟨⟨?_, ?_, by omega, by omega, a5, fun t ht => ?_, fun s t hs ht q => ?_, fun t k ht hk hk2 => ?_, fun i hi => ?_⟩, ⟨by omega, by omega, by omega, by omega, fun t k ht hk => ro t k ht, fun i hi => ⟨lo 44 i (by omega) (by omega) hi, lo 45 i (by omega) (by omega) hi, lo 46 i (by omega) (by omega) hi, lo 47 i (by omega) (by omega) hi⟩, fun P j hP => ?_, rfl⟩, rn, ?_, ?_, ?_⟩
  · rw [v_at1 (by omega), v_add1, if_neg (by omega), if_neg (by omega), if_pos ⟨rfl, rfl⟩]
  · rw [v_at1 (by omega), v_add1, if_neg (by omega), if_neg (by omega), if_neg (by omega), v_ad01, if_neg (by omega), if_neg (by omega), if_pos ⟨rfl, rfl⟩]
  · by_cases e : t = n
    · subst e
      rw [v_at1 (by omega), v_add1, if_pos ⟨rfl, rfl⟩]
      exact bI_c ⟨fun q k hk hk1 => (rn k hk).trans ((d48 k hk).symm.trans (q k hk hk1)), fun q k hk hk1 => (d48 k hk).trans ((rn k hk).symm.trans (q k hk hk1))⟩
    · rw [v_at1 (by omega), v_add1, if_neg (by omega), if_neg (by omega), if_neg (by omega), dO _ _ (by omega) (by omega), a6 t (by omega)]
      exact bI_c ⟨fun q k hk hk1 => (ro t k (by omega)).trans (q k hk hk1), fun q k hk hk1 => (ro t k (by omega)).symm.trans (q k hk hk1)⟩
  · by_cases es : s = n
    · by_cases et : t = n
      · omega
      · exfalso
        have := q (1 + a) (by omega)
        rw [es, rn _ (by omega), ro t _ (by omega), if_pos rfl, a8 t (1 + a) (by omega) (by omega) (by omega)] at this
        exact i10 this
    · by_cases et : t = n
      · exfalso
        have := q (1 + a) (by omega)
        rw [et, rn _ (by omega), ro s _ (by omega), if_pos rfl, a8 s (1 + a) (by omega) (by omega) (by omega)] at this
        exact i10 this.symm
      · refine a7 s t (by omega) (by omega) (fun k hk => ?_)
        have := q k hk
        rwa [ro s k (by omega), ro t k (by omega)] at this
  · by_cases e : t = n
    · rw [e, rn k hk2, if_neg (by omega)]
    · rw [ro t k (by omega)]
      exact a8 t k (by omega) (by omega) hk2
  · by_cases e : i = a
    · refine ⟨n, by omega, ?_, fun k hk => ?_⟩
      · unfold v_at
        rw [e, vm_si1b, if_pos ⟨rfl, rfl⟩]
      · rw [e]
        exact rn k hk
    · obtain ⟨t, t1, t2, t3⟩ := a9 i (by omega)
      exact ⟨t, by omega, (lo 47 i (by omega) (by omega) (by omega)).trans t2, fun k hk => (ro t k t1).trans (t3 k hk)⟩
  · rw [v_at1 (by omega), v_add1, if_neg (by omega), if_neg (by omega), if_neg (by omega)]
    exact dO _ _ (by omega) (by omega)
  · unfold v_at
    rw [vm_si1b, if_neg (by omega), vm_si1b, if_neg (by omega), vm_si1b, if_neg (by omega), vm_si1b, if_pos ⟨rfl, rfl⟩]
  · unfold v_at
    rw [vm_si1b, if_neg (by omega), vm_si1b, if_neg (by omega), vm_si1b, if_pos ⟨rfl, rfl⟩]
  · unfold v_at
    rw [vm_si1b, if_neg (by omega), vm_si1b, if_pos ⟨rfl, rfl⟩]
/-- what makeAtom gives: the atom's index i, the value s -/
def MA (n a : Nat) (v : vm_V) (K l r : Int32) (x : vm_Y) : Prop := (∃ i s : Nat, i < a ∧ aM v K l r i ∧ (∀ q : Nat, q < i → ¬ aM v K l r q) ∧ s < n ∧ x = vr (Int32.ofNat s) v ∧ ∀ k : Nat, k < 23 → v.1 (21 + s) k = if k = 1 + i then 1 else 0) ∨ ((∀ q : Nat, q < a → ¬ aM v K l r q) ∧ ∃ v' : vm_V, x = vr (Int32.ofNat n) v' ∧ VI (n + 1) (a + 1) v' ∧ VX n a v (n + 1) (a + 1) v' ∧ (∀ k : Nat, k < 23 → v'.1 (21 + n) k = if k = 1 + a then 1 else 0) ∧ v'.1 44 a = K ∧ v'.1 45 a = l ∧ v'.1 46 a = r)
theorem mk_at {n a : Nat} {K l r : Int32} (hV : VI n a v) (hn : n < 22) (e : vE 88 0 [.ref 19, .int K, .int l, .int r, .retAddr 0, .retAddr 0] [] v x) : MA n a v K l r x := by
  simp only [q88_0, q88_1] at e
  rcases at_l hV a 0 (Nat.zero_add a) (fun s hs => absurd hs (Nat.not_lt_zero s)) e with ⟨i, i1, i2, i3, i4⟩ | ⟨i1, i2⟩
  · obtain ⟨t, t1, t2, t3⟩ := hV.2.2.2.2.2.2.2.2 i i1
    rw [t2] at i4
    exact Or.inl ⟨i, t, i1, i2, i3, t1, i4, t3⟩
  · obtain ⟨g1, g2, g3, g4, g5, g6⟩ := VI_at (K := K) (l := l) (r := r) hV hn
    exact Or.inr ⟨i1, _, at_new hV hn i2, g1, g2, g3, g4, g5, g6⟩
end EC
