/-! effects: both sides -/
section EH
variable {v w v' w' : vm_V} {x x1 x2 : vm_Y}
def eM (v : vm_V) (o : Nat) (K A B : Int32) (e : Nat) : Prop := v.1 (o + 2) e = K ∧ v.1 (o + 3) e = A ∧ v.1 (o + 4) e = B
theorem isEff_n {o e : Nat} {K A B : Int32} (he : e < 8) : c_isEff v o (Int32.ofNat e) K A B = 0 ↔ ¬ eM v o K A B e := by
  unfold c_isEff eM
  rw [if_neg (nn_n0 (by omega)), if_neg (show ¬ (8 : Int32) ≤ Int32.ofNat e from nl (k := 8) (by omega) (by omega) he), nn_nat (by omega)]
  by_cases c1 : v.1 (o + 2) e = K
  · rw [if_pos c1]
    by_cases c2 : v.1 (o + 3) e = A
    · rw [if_pos c2]
      by_cases c3 : v.1 (o + 4) e = B
      · rw [if_pos c3]
        exact ⟨fun q => absurd q i10, fun q => absurd ⟨c1, c2, c3⟩ q⟩
      · rw [if_neg c3]
        exact ⟨fun _ q => c3 q.2.2, fun _ => rfl⟩
    · rw [if_neg c2]
      exact ⟨fun _ q => c2 q.2.1, fun _ => rfl⟩
  · rw [if_neg c1]
    exact ⟨fun _ q => c1 q.1, fun _ => rfl⟩
def v_ae (o : Nat) (K A B : Int32) (c : Nat) (v : vm_V) : vm_V := vm_si (vm_si (vm_si (vm_si v o 4 (Int32.ofNat (c + 1))) (o + 2) c K) (o + 3) c A) (o + 4) c B
theorem addE_n {o c : Nat} {K A B : Int32} (hc : v.1 o 4 = Int32.ofNat c) (h8 : c < 8) : c_addE v o K A B = v_ae o K A B c v := by
  unfold c_addE v_ae
  rw [hc, if_neg (nn_n0 (by omega)), if_neg (show ¬ (8 : Int32) ≤ Int32.ofNat c from nl (k := 8) (by omega) (by omega) h8), nn_s, nn_nat (by omega)]
theorem ao_l {o c : Nat} {K A B : Int32} (hc : v.1 o 4 = Int32.ofNat c) (h8 : c ≤ 8) : ∀ (m i : Nat), i + m = c → (∀ e : Nat, e < i → ¬ eM v o K A B e) → vE 97 3 [.ref o, .int K, .int A, .int B, .int (Int32.ofNat i)] [] v x → ((∃ e : Nat, e < c ∧ eM v o K A B e) ∧ x = vd v) ∨ ((∀ e : Nat, e < c → ¬ eM v o K A B e) ∧ x = vd (c_addE v o K A B))
  | 0, i, h, hp, e => by
    rw [q97_3] at e
    simp only [q97_5, q97_6, q97_9, hc] at e
    rw [if_pos (by rw [show i = c by omega]; exact Int32.le_refl _)] at e
    simp only [q97_38, q97_39, q97_40, q97_41, q97_42, ct93, exists_eq_left, vB_d, Nat.reduceAdd, q97_45] at e
    exact Or.inr ⟨fun y hy => hp y (by omega), e⟩
  | m + 1, i, h, hp, e => by
    rw [q97_3] at e
    simp only [q97_5, q97_6, q97_9, hc] at e
    rw [if_neg (nl (by omega) (by omega) (by omega))] at e
    simp only [q97_12, q97_14, q97_16] at e
    rw [if_neg (show ¬ (8 : Int32) ≤ Int32.ofNat i from nl (k := 8) (by omega) (by omega) (by omega))] at e
    simp only [q97_19, q97_20, q97_22, q97_23, q97_24, q97_25, ct98, exists_eq_left, vB_r, Nat.reduceAdd, q97_28] at e
    by_cases d : eM v o K A B i
    · rw [if_neg (fun z => (isEff_n (by omega)).mp z d)] at e
      simp only [q97_31] at e
      exact Or.inl ⟨⟨i, by omega, d⟩, e⟩
    · rw [if_pos ((isEff_n (by omega)).mpr d)] at e
      simp only [q97_32, q97_35, nn_s] at e
      refine ao_l hc h8 m (i + 1) (by omega) (fun y hy => ?_) e
      by_cases z : y = i
      · rw [z]
        exact d
      · exact hp y (by omega)
/-- addEffectOnce -/
theorem ao_x {o c : Nat} {K A B : Int32} (hc : v.1 o 4 = Int32.ofNat c) (h8 : c ≤ 8) (e : vE 97 0 [.ref o, .int K, .int A, .int B, .retAddr 0] [] v x) : ((∃ e : Nat, e < c ∧ eM v o K A B e) ∧ x = vd v) ∨ ((∀ e : Nat, e < c → ¬ eM v o K A B e) ∧ x = vd (c_addE v o K A B)) := by
  simp only [q97_0, q97_1] at e
  exact ao_l hc h8 c 0 (Nat.zero_add c) (fun y hy => absurd hy (Nat.not_lt_zero y)) e
/-! the reference's -/
def w_ef (S : Nat) (K : Int32) (p i q j c : Nat) (w : vm_V) : vm_V := vm_si (v_up 76 (24 * (8 * S + c)) 24 (fun k => w.1 q (j + k)) (v_up 75 (24 * (8 * S + c)) 24 (fun k => w.1 p (i + k)) (vm_si w 74 (8 * S + c) K))) 73 S (Int32.ofNat (c + 1))
theorem ct182 {S p i q j c : Nat} {K : Int32} (hc : w.1 73 S = Int32.ofNat c) (hS : S < 2) (h8 : c < 8) (hp : p ≠ 73 ∧ p ≠ 74 ∧ p ≠ 75 ∧ p ≠ 76) (hq : q ≠ 73 ∧ q ≠ 74 ∧ q ≠ 75 ∧ q ≠ 76) (hi : i < 1000) (hj : j < 1000) : vE 182 0 [.ref 64, .int (Int32.ofNat S), .int K, .ref p, .int (Int32.ofNat i), .ref q, .int (Int32.ofNat j), .retAddr 0] [] w x ↔ x = vd (w_ef S K p i q j c w) := by
  have nS := nn_nat (show S < 2147483648 by omega)
  have ne := nn_nat (show 8 * S + c < 2147483648 by omega)
  have i8 : (8 : Int32) * Int32.ofNat S + Int32.ofNat c = Int32.ofNat (8 * S + c) := by
    rw [show (8 : Int32) = Int32.ofNat 8 from rfl, nn_mul, nn_add]
  have s24 : 24 * (8 * S + c) < 1000 := by omega
  simp only [q182_0, q182_2, q182_3, q182_4, q182_5, q182_8, q182_9, q182_10, q182_11, q182_13, q182_14, q182_17, q182_19, q182_20, q182_21, q182_22, q182_24, q182_25, q182_28, q182_30, q182_32, q182_33, Nat.reduceAdd, nS, hc, i8, ne, c24, ct183 (show p ≠ 75 from hp.2.2.1) hi s24, exists_eq_left, vB_d]
  have g1 : v_up 75 (24 * (8 * S + c)) 24 (fun k => (vm_si w 74 (8 * S + c) K).1 p (i + k)) (vm_si w 74 (8 * S + c) K) = v_up 75 (24 * (8 * S + c)) 24 (fun k => w.1 p (i + k)) (vm_si w 74 (8 * S + c) K) := v_upc (fun k _ => by rw [vm_si1b, if_neg (fun z => hp.2.1 z.1)])
  rw [g1]
  simp only [q182_36, q182_38, q182_40, q182_41, q182_44, q182_46, q182_48, q182_49, Nat.reduceAdd, c24, ct183 (show q ≠ 76 from hq.2.2.2) hj s24, exists_eq_left, vB_d]
  have g2 : v_up 76 (24 * (8 * S + c)) 24 (fun k => (v_up 75 (24 * (8 * S + c)) 24 (fun k => w.1 p (i + k)) (vm_si w 74 (8 * S + c) K)).1 q (j + k)) (v_up 75 (24 * (8 * S + c)) 24 (fun k => w.1 p (i + k)) (vm_si w 74 (8 * S + c) K)) = v_up 76 (24 * (8 * S + c)) 24 (fun k => w.1 q (j + k)) (v_up 75 (24 * (8 * S + c)) 24 (fun k => w.1 p (i + k)) (vm_si w 74 (8 * S + c) K)) := v_upc (fun k _ => by rw [v_upo hq.2.2.1, vm_si1b, if_neg (fun z => hq.2.1 z.1)])
  rw [g2]
  have h3 : (v_up 76 (24 * (8 * S + c)) 24 (fun k => w.1 q (j + k)) (v_up 75 (24 * (8 * S + c)) 24 (fun k => w.1 p (i + k)) (vm_si w 74 (8 * S + c) K))).1 73 S = Int32.ofNat c := by
    rw [v_upo (by omega), v_upo (by omega), vm_si1b, if_neg (by omega)]
    exact hc
  simp only [q182_52, q182_53, q182_56, q182_57, q182_58, q182_59, q182_60, q182_61, q182_62, Nat.reduceAdd, nS, h3, nn_s]
  exact Iff.rfl
def rE (w : vm_V) (S : Nat) (K : Int32) (p i q j e : Nat) : Prop := w.1 74 (8 * S + e) = K ∧ sm w 75 (24 * (8 * S + e)) p i ∧ sm w 76 (24 * (8 * S + e)) q j
theorem we_l {S p i q j c : Nat} {K : Int32} (hc : w.1 73 S = Int32.ofNat c) (hS : S < 2) (h8 : c ≤ 8) (hi : i < 1000) (hj : j < 1000) : ∀ (m n : Nat) (z : Int32) (l9 : Value), n + m = c → (z = 0 ↔ ∀ e : Nat, e < n → ¬ rE w S K p i q j e) → vE 186 6 [.ref 64, .int (Int32.ofNat S), .int K, .ref p, .int (Int32.ofNat i), .ref q, .int (Int32.ofNat j), .int z, .int (Int32.ofNat n), l9] [] w x → ∃ z : Int32, (z = 0 ↔ ∀ e : Nat, e < c → ¬ rE w S K p i q j e) ∧ x = vr z w
  | 0, n, z, l9, h, hz, e => by
    have nS := nn_nat (show S < 2147483648 by omega)
    rw [q186_6] at e
    simp only [q186_8, q186_9, q186_12, q186_13, q186_14, Nat.reduceAdd, nS, hc] at e
    rw [if_pos (by rw [show n = c by omega]; exact Int32.le_refl _)] at e
    simp only [q186_92, q186_94] at e
    rw [show n = c by omega] at hz
    exact ⟨z, hz, e⟩
  | m + 1, n, z, l9, h, hz, e => by
    have nS := nn_nat (show S < 2147483648 by omega)
    have ne := nn_nat (show 8 * S + n < 2147483648 by omega)
    have i8 : (8 : Int32) * Int32.ofNat S + Int32.ofNat n = Int32.ofNat (8 * S + n) := by
      rw [show (8 : Int32) = Int32.ofNat 8 from rfl, nn_mul, nn_add]
    have s24 : 24 * (8 * S + n) < 1000 := by omega
    rw [q186_6] at e
    simp only [q186_8, q186_9, q186_12, q186_13, q186_14, Nat.reduceAdd, nS, hc] at e
    rw [if_neg (nl (by omega) (by omega) (by omega))] at e
    simp only [q186_17, q186_19, q186_20, q186_21, q186_23, q186_24, q186_26, q186_28, i8] at e
    have yes : (¬ z = 0 ∨ rE w S K p i q j n) → vE 186 79 [.ref 64, .int (Int32.ofNat S), .int K, .ref p, .int (Int32.ofNat i), .ref q, .int (Int32.ofNat j), .int z, .int (Int32.ofNat n), .int (Int32.ofNat (8 * S + n))] [] w x → ∃ z : Int32, (z = 0 ↔ ∀ e : Nat, e < c → ¬ rE w S K p i q j e) ∧ x = vr z w := fun hy e => by
      simp only [q186_79, q186_80, q186_84, q186_86, q186_89, nn_s] at e
      refine we_l hc hS h8 hi hj m (n + 1) 1 _ (by omega) ⟨fun q => absurd q i10, fun q => ?_⟩ e
      exfalso
      rcases hy with hy | hy
      · exact hy (hz.mpr (fun y hy2 => q y (by omega)))
      · exact q n (by omega) hy
    have no : z = 0 → ¬ rE w S K p i q j n → vE 186 83 [.ref 64, .int (Int32.ofNat S), .int K, .ref p, .int (Int32.ofNat i), .ref q, .int (Int32.ofNat j), .int z, .int (Int32.ofNat n), .int (Int32.ofNat (8 * S + n))] [] w x → ∃ z : Int32, (z = 0 ↔ ∀ e : Nat, e < c → ¬ rE w S K p i q j e) ∧ x = vr z w := fun hz0 hy e => by
      simp only [q186_83, q186_84, q186_86, q186_89, nn_s] at e
      refine we_l hc hS h8 hi hj m (n + 1) 0 _ (by omega) ⟨fun _ y hy2 => ?_, fun _ => rfl⟩ e
      by_cases q : y = n
      · rw [q]
        exact hy
      · exact hz.mp hz0 y (by omega)
    by_cases z0 : z = 0
    · rw [if_pos z0] at e
      simp only [q186_31, q186_32, q186_35, q186_37, q186_38, q186_39, Nat.reduceAdd, ne] at e
      by_cases c1 : w.1 74 (8 * S + n) = K
      · rw [if_pos c1] at e
        simp only [q186_42, q186_43, q186_46, q186_48, q186_50, q186_51, q186_52, q186_54, Nat.reduceAdd, c24, ct187 s24 hi, exists_eq_left, vB_r, q186_57] at e
        by_cases c2 : ∀ k : Nat, k < 24 → w.1 75 (24 * (8 * S + n) + k) = w.1 p (i + k)
        · rw [if_neg (fun q => bI_z.mp q c2)] at e
          simp only [q186_60, q186_61, q186_64, q186_66, q186_68, q186_69, q186_71, q186_73, Nat.reduceAdd, c24, ct187 s24 hj, exists_eq_left, vB_r, q186_76] at e
          by_cases c3 : ∀ k : Nat, k < 24 → w.1 76 (24 * (8 * S + n) + k) = w.1 q (j + k)
          · rw [if_neg (fun q => bI_z.mp q c3)] at e
            exact yes (Or.inr ⟨c1, c2, c3⟩) e
          · rw [if_pos (bI_z.mpr c3)] at e
            exact no z0 (fun q => c3 q.2.2) e
        · rw [if_pos (bI_z.mpr c2)] at e
          exact no z0 (fun q => c2 q.2.1) e
      · rw [if_neg c1] at e
        exact no z0 (fun q => c1 q.1) e
    · rw [if_neg z0] at e
      exact yes (Or.inl z0) e
/-- wasEffect -/
theorem we_x {S p i q j c : Nat} {K : Int32} (hc : w.1 73 S = Int32.ofNat c) (hS : S < 2) (h8 : c ≤ 8) (hi : i < 1000) (hj : j < 1000) (e : vE 186 0 [.ref 64, .int (Int32.ofNat S), .int K, .ref p, .int (Int32.ofNat i), .ref q, .int (Int32.ofNat j), .retAddr 0, .retAddr 0, .retAddr 0] [] w x) : ∃ z : Int32, (z = 0 ↔ ∀ e : Nat, e < c → ¬ rE w S K p i q j e) ∧ x = vr z w := by
  simp only [q186_0, q186_1, q186_3, q186_4] at e
  exact we_l hc hS h8 hi hj c 0 0 _ (Nat.zero_add c) ⟨fun _ y hy => absurd hy (Nat.not_lt_zero y), fun _ => rfl⟩ e
/-! what is the same -/
def EE (n : Nat) (v w : vm_V) (o S e : Nat) : Prop := w.1 74 (8 * S + e) = v.1 (o + 2) e ∧ ∃ l : Nat, l < n ∧ v.1 (o + 3) e = Int32.ofNat l ∧ sv v w l 75 (24 * (8 * S + e)) ∧ ((v.1 (o + 2) e = 8 ∧ nv w (v.1 (o + 4) e) 76 (24 * (8 * S + e))) ∨ (¬ v.1 (o + 2) e = 8 ∧ ∃ r : Nat, r < n ∧ v.1 (o + 4) e = Int32.ofNat r ∧ sv v w r 76 (24 * (8 * S + e))))
def QE (n : Nat) (v w : vm_V) (K A B : Int32) (p i q j : Nat) : Prop := ∃ l : Nat, l < n ∧ A = Int32.ofNat l ∧ sv v w l p i ∧ ((K = 8 ∧ nv w B q j) ∨ (¬ K = 8 ∧ ∃ r : Nat, r < n ∧ B = Int32.ofNat r ∧ sv v w r q j))
theorem em_re {n a o S e p i q j : Nat} {K A B : Int32} (hV : VI n a v) (hE : EE n v w o S e) (hQ : QE n v w K A B p i q j) : eM v o K A B e ↔ rE w S K p i q j e := by
  have n22 := hV.2.2.2.1
  obtain ⟨e1, l0, g1, g2, g3, hE⟩ := hE
  obtain ⟨l, l1, l2, l3, hQ⟩ := hQ
  constructor
  · rintro ⟨m1, m2, m3⟩
    obtain rfl : l0 = l := on_inj (by omega) (by omega) (g2.symm.trans (m2.trans l2))
    refine ⟨e1.trans m1, (sv_eq hV g1 g1 g3 l3).mpr rfl, ?_⟩
    rcases hQ with ⟨n1, n2⟩ | ⟨n1, r, r1, r2, r3⟩
    · rcases hE with ⟨h1, h2⟩ | ⟨h1, _⟩
      · exact fun k hk => by rw [h2 k hk, n2 k hk, m3]
      · exact absurd (m1.trans n1) h1
    · rcases hE with ⟨h1, _⟩ | ⟨h1, r0, r4, r5, r6⟩
      · exact absurd (m1.symm.trans h1) n1
      · obtain rfl : r0 = r := on_inj (by omega) (by omega) (r5.symm.trans (m3.trans r2))
        exact (sv_eq hV r1 r1 r6 r3).mpr rfl
  · rintro ⟨m1, m2, m3⟩
    have m1 : v.1 (o + 2) e = K := e1.symm.trans m1
    have z := (sv_eq hV g1 l1 g3 l3).mp m2
    refine ⟨m1, by rw [g2, z, l2], ?_⟩
    rcases hQ with ⟨n1, n2⟩ | ⟨n1, r, r1, r2, r3⟩
    · rcases hE with ⟨h1, h2⟩ | ⟨h1, _⟩
      · have z1 := h2 0 (by omega)
        have z2 := n2 0 (by omega)
        have z3 := m3 0 (by omega)
        rw [if_pos rfl] at z1 z2
        exact z1.symm.trans (z3.trans z2)
      · exact absurd (m1.trans n1) h1
    · rcases hE with ⟨h1, _⟩ | ⟨h1, r0, r4, r5, r6⟩
      · exact absurd (m1.symm.trans h1) n1
      · rw [r5, (sv_eq hV r4 r1 r6 r3).mp m3, r2]
end EH
