/-! what agrees: both sides -/
section ES
variable {v w v' w' : vm_V} {x x1 x2 : vm_Y}
theorem he_l {c : Nat} (hc : v.1 49 4 = Int32.ofNat c) (h8 : c ≤ 8) : ∀ (m i : Nat), i + m = c → (∀ e : Nat, e < i → eM v 49 (v.1 56 e) (v.1 57 e) (v.1 58 e) e) → vE 112 15 [.ref 49, .ref 54, .int (Int32.ofNat i)] [] v x → ∃ z : Int32, (z = 0 ↔ ¬ ∀ e : Nat, e < c → eM v 49 (v.1 56 e) (v.1 57 e) (v.1 58 e) e) ∧ x = vr z v
  | 0, i, h, hp, e => by
    rw [q112_15] at e
    simp only [q112_16, q112_17, q112_20, hc] at e
    rw [if_pos (by rw [show i = c by omega]; exact Int32.le_refl _)] at e
    simp only [q112_63, q112_64] at e
    exact ⟨1, ⟨fun q => absurd q i10, fun q => absurd (fun y hy => hp y (by omega)) q⟩, e⟩
  | m + 1, i, h, hp, e => by
    rw [q112_15] at e
    simp only [q112_16, q112_17, q112_20, hc] at e
    rw [if_neg (nl (by omega) (by omega) (by omega))] at e
    simp only [q112_23, q112_24, q112_26] at e
    rw [if_neg (show ¬ (8 : Int32) ≤ Int32.ofNat i from nl (k := 8) (by omega) (by omega) (by omega))] at e
    simp only [q112_29, q112_30, q112_31, q112_32, q112_35, q112_36, q112_37, q112_38, q112_41, q112_42, q112_43, q112_44, q112_47, q112_48, q112_49, Nat.reduceAdd, nn_nat (show i < 2147483648 by omega), ct98, exists_eq_left, vB_r, q112_52] at e
    by_cases d : eM v 49 (v.1 56 i) (v.1 57 i) (v.1 58 i) i
    · rw [if_neg (fun z => (isEff_n (by omega)).mp z d)] at e
      simp only [q112_57, q112_60, nn_s] at e
      refine he_l hc h8 m (i + 1) (by omega) (fun y hy => ?_) e
      by_cases z : y = i
      · rw [z]
        exact d
      · exact hp y (by omega)
    · rw [if_pos ((isEff_n (by omega)).mpr d)] at e
      simp only [q112_55, q112_56] at e
      exact ⟨0, ⟨fun _ q => d (q i (by omega)), fun _ => rfl⟩, e⟩
/-- hasEffectsOf -/
theorem he_x {c d : Nat} (hc : v.1 49 4 = Int32.ofNat c) (hd : v.1 54 4 = Int32.ofNat d) (h8 : c ≤ 8) (hd8 : d ≤ 8) (e : vE 112 0 [.ref 49, .ref 54, .retAddr 0] [] v x) : ∃ z : Int32, (z = 0 ↔ ¬ (c = d ∧ ∀ e : Nat, e < c → eM v 49 (v.1 56 e) (v.1 57 e) (v.1 58 e) e)) ∧ x = vr z v := by
  simp only [q112_0, q112_1, q112_4, q112_5, q112_8, hc, hd] at e
  by_cases q : c = d
  · rw [if_pos (by rw [q])] at e
    simp only [q112_13, q112_14] at e
    obtain ⟨z, z1, z2⟩ := he_l hc h8 c 0 (Nat.zero_add c) (fun y hy => by omega) e
    exact ⟨z, ⟨fun y y2 => z1.mp y y2.2, fun y => z1.mpr (fun y2 => y ⟨q, y2⟩)⟩, z2⟩
  · rw [if_neg (fun z => q (on_inj (by omega) (by omega) z))] at e
    simp only [q112_11, q112_12] at e
    exact ⟨0, ⟨fun _ y => q y.1, fun _ => rfl⟩, e⟩
def aE (w : vm_V) (e : Nat) : Prop := w.1 74 e = w.1 74 (8 + e) ∧ sm w 75 (24 * e) 75 (24 * (8 + e)) ∧ sm w 76 (24 * e) 76 (24 * (8 + e))
theorem ea_l {c : Nat} (hc : w.1 73 0 = Int32.ofNat c) (h8 : c ≤ 8) : ∀ (m i : Nat) (z : Int32), i + m = c → (z = 0 → ¬ ∀ e : Nat, e < c → aE w e) → (¬ z = 0 → ∀ e : Nat, e < i → aE w e) → vE 193 23 [.ref 64, .int z, .int (Int32.ofNat i)] [] w x → ∃ z : Int32, (z = 0 ↔ ¬ ∀ e : Nat, e < c → aE w e) ∧ x = vr z w
  | 0, i, z, h, h0, h1, e => by
    rw [q193_23] at e
    simp only [q193_24, q193_25, q193_28, q193_29, q193_30, Nat.reduceAdd, show (0 : Int32).toNatClampNeg = 0 from rfl, hc] at e
    rw [if_pos (by rw [show i = c by omega]; exact Int32.le_refl _)] at e
    simp only [q193_117, q193_118] at e
    refine ⟨z, ⟨h0, fun q => Classical.byContradiction (fun y => q (fun e he => h1 y e (by omega)))⟩, e⟩
  | m + 1, i, z, h, h0, h1, e => by
    have s1 : 24 * i < 1000 := by omega
    have s2 : 24 * (8 + i) < 1000 := by omega
    have n8 : (8 : Int32) + Int32.ofNat i = Int32.ofNat (8 + i) := nn_add 8 i
    rw [q193_23] at e
    simp only [q193_24, q193_25, q193_28, q193_29, q193_30, Nat.reduceAdd, show (0 : Int32).toNatClampNeg = 0 from rfl, hc] at e
    rw [if_neg (nl (by omega) (by omega) (by omega))] at e
    simp only [q193_33, q193_34] at e
    by_cases z0 : z = 0
    · rw [if_pos z0] at e
      simp only [q193_117, q193_118] at e
      exact ⟨z, ⟨h0, fun _ => z0⟩, e⟩
    · rw [if_neg z0] at e
      have no : ¬ aE w i → vE 193 109 [.ref 64, .int z, .int (Int32.ofNat i)] [] w x → ∃ z : Int32, (z = 0 ↔ ¬ ∀ e : Nat, e < c → aE w e) ∧ x = vr z w := fun hn e => by
        simp only [q193_109, q193_110, q193_111, q193_114, nn_s] at e
        exact ea_l hc h8 m (i + 1) 0 (by omega) (fun _ q => hn (q i (by omega))) (fun q => absurd rfl q) e
      simp only [q193_37, q193_38, q193_41, q193_42, q193_43, q193_44, q193_47, q193_49, q193_50, q193_51, q193_52, Nat.reduceAdd, n8, nn_nat (show i < 2147483648 by omega), nn_nat (show 8 + i < 2147483648 by omega)] at e
      by_cases c1 : w.1 74 i = w.1 74 (8 + i)
      · rw [if_pos c1] at e
        simp only [q193_55, q193_56, q193_59, q193_61, q193_62, q193_63, q193_64, q193_67, q193_69, q193_71, q193_72, q193_73, q193_74, Nat.reduceAdd, n8, c24, ct187 s1 s2, exists_eq_left, vB_r, q193_77] at e
        by_cases c2 : ∀ k : Nat, k < 24 → w.1 75 (24 * i + k) = w.1 75 (24 * (8 + i) + k)
        · rw [if_neg (fun q => bI_z.mp q c2)] at e
          simp only [q193_80, q193_81, q193_84, q193_86, q193_87, q193_88, q193_89, q193_92, q193_94, q193_96, q193_97, q193_98, q193_99, Nat.reduceAdd, n8, c24, ct187 s1 s2, exists_eq_left, vB_r, q193_102] at e
          by_cases c3 : ∀ k : Nat, k < 24 → w.1 76 (24 * i + k) = w.1 76 (24 * (8 + i) + k)
          · rw [if_neg (fun q => bI_z.mp q c3)] at e
            simp only [q193_105, q193_106, q193_110, q193_111, q193_114, nn_s] at e
            refine ea_l hc h8 m (i + 1) 1 (by omega) (fun q => absurd q i10) (fun _ y hy => ?_) e
            by_cases q : y = i
            · rw [q]
              exact ⟨c1, c2, c3⟩
            · exact h1 z0 y (by omega)
          · rw [if_pos (bI_z.mpr c3)] at e
            exact no (fun q => c3 q.2.2) e
        · rw [if_pos (bI_z.mpr c2)] at e
          exact no (fun q => c2 q.2.1) e
      · rw [if_neg c1] at e
        exact no (fun q => c1 q.1) e
/-- effectsAgree -/
theorem ea_x {c d : Nat} (hc : w.1 73 0 = Int32.ofNat c) (hd : w.1 73 1 = Int32.ofNat d) (h8 : c ≤ 8) (hd8 : d ≤ 8) (e : vE 193 0 [.ref 64, .retAddr 0, .retAddr 0] [] w x) : ∃ z : Int32, (z = 0 ↔ ¬ (c = d ∧ ∀ e : Nat, e < c → aE w e)) ∧ x = vr z w := by
  simp only [q193_0, q193_1, q193_4, q193_5, q193_6, q193_7, q193_10, q193_11, q193_12, Nat.reduceAdd, show (0 : Int32).toNatClampNeg = 0 from rfl, show (1 : Int32).toNatClampNeg = 1 from rfl, hc, hd] at e
  by_cases q : c = d
  · rw [if_pos (by rw [q])] at e
    simp only [q193_15, q193_16, q193_20, q193_21, q193_22] at e
    obtain ⟨z, z1, z2⟩ := ea_l hc h8 c 0 1 (Nat.zero_add c) (fun y => absurd y i10) (fun _ y hy => by omega) e
    exact ⟨z, ⟨fun y y2 => z1.mp y y2.2, fun y => z1.mpr (fun y2 => y ⟨q, y2⟩)⟩, z2⟩
  · rw [if_neg (fun z => q (on_inj (by omega) (by omega) z))] at e
    simp only [q193_19, q193_20, q193_21, q193_22] at e
    by_cases c0 : c = 0
    · subst c0
      rw [q193_23] at e
      simp only [q193_24, q193_25, q193_28, q193_29, q193_30, Nat.reduceAdd, show (0 : Int32).toNatClampNeg = 0 from rfl, hc] at e
      rw [if_pos (show Int32.ofNat 0 ≤ 0 from by decide)] at e
      simp only [q193_117, q193_118] at e
      exact ⟨0, ⟨fun _ y => q y.1, fun _ => rfl⟩, e⟩
    · rw [q193_23] at e
      simp only [q193_24, q193_25, q193_28, q193_29, q193_30, Nat.reduceAdd, show (0 : Int32).toNatClampNeg = 0 from rfl, hc] at e
      rw [if_neg (show ¬ Int32.ofNat c ≤ 0 from nl (k := c) (a := 0) (by omega) (by omega) (by omega))] at e
      simp only [q193_33, q193_34] at e
      rw [if_pos trivial] at e
      simp only [q193_117, q193_118] at e
      exact ⟨0, ⟨fun _ y => q y.1, fun _ => rfl⟩, e⟩
theorem hr_l : ∀ (m i : Nat), i + m = 6 → (∀ r : Nat, r < i → v.1 50 r = v.1 55 r) → vE 115 2 [.ref 49, .ref 54, .int (Int32.ofNat i)] [] v x → ∃ z : Int32, (z = 0 ↔ ¬ ∀ r : Nat, r < 6 → v.1 50 r = v.1 55 r) ∧ x = vr z v
  | 0, i, h, hp, e => by
    obtain rfl : i = 6 := by omega
    rw [q115_2] at e
    simp only [q115_3, q115_5] at e
    rw [if_pos (show (6 : Int32) ≤ Int32.ofNat 6 from by decide)] at e
    simp only [q115_31, q115_32] at e
    exact ⟨1, ⟨fun q => absurd q i10, fun q => absurd hp q⟩, e⟩
  | m + 1, i, h, hp, e => by
    rw [q115_2] at e
    simp only [q115_3, q115_5] at e
    rw [if_neg (show ¬ (6 : Int32) ≤ Int32.ofNat i from nl (k := 6) (by omega) (by omega) (by omega))] at e
    simp only [q115_8, q115_9, q115_12, q115_13, q115_14, q115_15, q115_18, q115_19, q115_20, Nat.reduceAdd, nn_nat (show i < 2147483648 by omega)] at e
    by_cases d : v.1 50 i = v.1 55 i
    · rw [if_pos d] at e
      simp only [q115_25, q115_28, nn_s] at e
      refine hr_l m (i + 1) (by omega) (fun y hy => ?_) e
      by_cases z : y = i
      · rw [z]
        exact d
      · exact hp y (by omega)
    · rw [if_neg d] at e
      simp only [q115_23, q115_24] at e
      exact ⟨0, ⟨fun _ q => d (q i (by omega)), fun _ => rfl⟩, e⟩
theorem hr_x (e : vE 115 0 [.ref 49, .ref 54, .retAddr 0] [] v x) : ∃ z : Int32, (z = 0 ↔ ¬ ∀ r : Nat, r < 6 → v.1 50 r = v.1 55 r) ∧ x = vr z v := by
  simp only [q115_0, q115_1] at e
  exact hr_l 6 0 rfl (fun y hy => by omega) e
theorem ra_g : ∀ (m i : Nat) (z : Int32), i + m = 6 → (z = 0 ↔ ¬ ∀ r : Nat, r < i → sm w 72 (24 * r) 72 (144 + 24 * r)) → vE 195 4 [.ref 64, .int z, .int (Int32.ofNat i)] [] w x → ∃ z : Int32, (z = 0 ↔ ¬ ∀ r : Nat, r < 6 → sm w 72 (24 * r) 72 (144 + 24 * r)) ∧ x = vr z w
  | 0, i, z, h, hz, e => by
    obtain rfl : i = 6 := by omega
    rw [q195_4] at e
    simp only [q195_5, q195_7] at e
    rw [if_pos (show (6 : Int32) ≤ Int32.ofNat 6 from by decide)] at e
    simp only [q195_52, q195_53] at e
    exact ⟨z, hz, e⟩
  | m + 1, i, z, h, hz, e => by
    have s1 : 24 * i < 1000 := by omega
    have s2 : 144 + 24 * i < 1000 := by omega
    have n8 : (144 : Int32) + Int32.ofNat (24 * i) = Int32.ofNat (144 + 24 * i) := nn_add 144 (24 * i)
    rw [q195_4] at e
    simp only [q195_5, q195_7] at e
    rw [if_neg (show ¬ (6 : Int32) ≤ Int32.ofNat i from nl (k := 6) (by omega) (by omega) (by omega))] at e
    simp only [q195_10, q195_11] at e
    have no : (¬ ∀ r : Nat, r < i + 1 → sm w 72 (24 * r) 72 (144 + 24 * r)) → vE 195 44 [.ref 64, .int z, .int (Int32.ofNat i)] [] w x → ∃ z : Int32, (z = 0 ↔ ¬ ∀ r : Nat, r < 6 → sm w 72 (24 * r) 72 (144 + 24 * r)) ∧ x = vr z w := fun hn e => by
      simp only [q195_44, q195_45, q195_46, q195_49, nn_s] at e
      exact ra_g m (i + 1) 0 (by omega) ⟨fun _ => hn, fun _ => rfl⟩ e
    by_cases z0 : z = 0
    · rw [if_pos z0] at e
      exact no (fun q => hz.mp z0 (fun r hr => q r (by omega))) e
    · rw [if_neg z0] at e
      simp only [q195_14, q195_15, q195_18, q195_20, q195_21, q195_22, q195_23, q195_26, q195_29, q195_31, q195_32, q195_33, q195_34, Nat.reduceAdd, c24, n8, ct187 s1 s2, exists_eq_left, vB_r, q195_37] at e
      by_cases c2 : ∀ k : Nat, k < 24 → w.1 72 (24 * i + k) = w.1 72 (144 + 24 * i + k)
      · rw [if_neg (fun q => bI_z.mp q c2)] at e
        simp only [q195_40, q195_41, q195_45, q195_46, q195_49, nn_s] at e
        refine ra_g m (i + 1) 1 (by omega) ⟨fun q => absurd q i10, fun q => absurd (fun r hr => ?_) q⟩ e
        by_cases y : r = i
        · rw [y]
          exact c2
        · exact Classical.byContradiction (fun y2 => z0 (hz.mpr (fun q => y2 (q r (by omega)))))
      · rw [if_pos (bI_z.mpr c2)] at e
        exact no (fun q => c2 (q i (by omega))) e
theorem ra_y (e : vE 195 0 [.ref 64, .retAddr 0, .retAddr 0] [] w x) : ∃ z : Int32, (z = 0 ↔ ¬ ∀ r : Nat, r < 6 → sm w 72 (24 * r) 72 (144 + 24 * r)) ∧ x = vr z w := by
  simp only [q195_0, q195_1, q195_2, q195_3] at e
  exact ra_g 6 0 1 rfl ⟨fun q => absurd q i10, fun q => absurd (fun r hr => by omega) q⟩ e
/-- the same effects; the same ends; the same registers -/
def pA1 (c d : Nat) (v : vm_V) : Prop := c = d ∧ ∀ e : Nat, e < c → eM v 49 (v.1 56 e) (v.1 57 e) (v.1 58 e) e
def pA2 (v : vm_V) : Prop := v.1 49 6 = v.1 54 6 ∧ v.1 49 7 = v.1 54 7
def pA3 (v : vm_V) : Prop := ∀ r : Nat, r < 6 → v.1 50 r = v.1 55 r
theorem pA1_r {n a c d : Nat} (h : PR n a c d v w) : pA1 c d v ↔ (c = d ∧ ∀ e : Nat, e < c → aE w e) := by
  obtain ⟨hV, _, O1, _, O2, _⟩ := h
  refine and_congr_right (fun cd => ?_)
  subst cd
  refine forall_congr' (fun e => ?_)
  refine imp_congr_right (fun he => ?_)
  obtain ⟨e1, l, l1, l2, l3, e2⟩ := O2.2.2 e he
  have hQ : QE n v w (v.1 56 e) (v.1 57 e) (v.1 58 e) 75 (24 * (8 * 1 + e)) 76 (24 * (8 * 1 + e)) := ⟨l, l1, l2, l3, e2⟩
  rw [em_re hV (O1.2.2 e he) hQ]
  unfold rE aE
  rw [show 8 * 0 + e = e by omega, show 8 * 1 + e = 8 + e by omega, ← e1, show 8 * 1 + e = 8 + e by omega]
theorem pA3_r {n a c d : Nat} (h : PR n a c d v w) : pA3 v ↔ ∀ r : Nat, r < 6 → sm w 72 (24 * r) 72 (144 + 24 * r) := by
  obtain ⟨hV, _, O1, _, O2, _⟩ := h
  have n22 := hV.2.2.2.1
  refine forall_congr' (fun r => ?_)
  refine imp_congr_right (fun hr => ?_)
  obtain ⟨t1, t2, t3, t4⟩ := O1.1 r hr
  obtain ⟨u1, u2, u3, u4⟩ := O2.1 r hr
  rw [show 144 * 0 + 24 * r = 24 * r by omega] at t4
  rw [show 144 * 1 + 24 * r = 144 + 24 * r by omega] at u4
  rw [sv_eq hV t2 u2 t4 u4, show v.1 50 r = Int32.ofNat t1 from t3, show v.1 55 r = Int32.ofNat u1 from u3]
  exact ⟨fun q => on_inj (by omega) (by omega) q, fun q => by rw [q]⟩
/-- endsAgree -/
theorem eg_x {n a c d : Nat} (h : PR n a c d v w) (e : vE 194 0 [.ref 64] [] w x) : ∃ z : Int32, (z = 0 ↔ ¬ pA2 v) ∧ x = vr z w := by
  obtain ⟨hV, _, _, E1, _, E2⟩ := h
  have n22 := hV.2.2.2.1
  obtain ⟨k, s, k1, k2, k3, k4, k5, k6, k7, k8, k9⟩ := E1
  obtain ⟨m, t, m1, m2, m3, m4, m5, m6, m7, m8, m9⟩ := E2
  simp only [q194_0, q194_1, q194_4, q194_5, q194_6, q194_7, q194_10, q194_11, q194_12, Nat.reduceAdd, show (0 : Int32).toNatClampNeg = 0 from rfl, show (1 : Int32).toNatClampNeg = 1 from rfl, k4, m4] at e
  unfold pA2
  rw [k3, m3]
  by_cases q : k = m
  · subst q
    rw [if_pos rfl] at e
    simp only [q194_17, q194_18, q194_21, q194_22, q194_23, Nat.reduceAdd, show (0 : Int32).toNatClampNeg = 0 from rfl, k4] at e
    by_cases k0 : k = 0
    · subst k0
      rw [if_pos (show Int32.ofNat 0 = 0 from rfl)] at e
      simp only [q194_52, q194_53, q194_57] at e
      exact ⟨1, ⟨fun q => absurd q i10, fun q => absurd ⟨rfl, (k7 rfl).trans (m7 rfl).symm⟩ q⟩, e⟩
    · rw [if_neg (show ¬ Int32.ofNat k = 0 from nat10 (m := 0) (by omega) (by omega) k0)] at e
      obtain ⟨t1, vv, p1, p2, p3, p4, p5, p6⟩ := k8 k0
      obtain ⟨t2, vu, q1, q2, q3, q4, q5, q6⟩ := m8 k0
      simp only [q194_26, q194_27, q194_30, q194_31, q194_34, q194_35, q194_36, q194_37, q194_40, q194_41, q194_44, q194_45, q194_46, Nat.reduceAdd, show (0 : Int32).toNatClampNeg = 0 from rfl, show (1 : Int32).toNatClampNeg = 1 from rfl, p3, q3, ct187 (show vv < 1000 by omega) (show vu < 1000 by omega), exists_eq_left, vB_r, q194_49] at e
      have key : (∀ k : Nat, k < 24 → w.1 72 (vv + k) = w.1 72 (vu + k)) ↔ t1 = t2 := sv_eq hV p1 q1 p6 q6
      rw [p2, q2]
      by_cases z : t1 = t2
      · rw [if_neg (fun y => bI_z.mp y (key.mpr z))] at e
        simp only [q194_52, q194_53, q194_57] at e
        exact ⟨1, ⟨fun q => absurd q i10, fun q => absurd ⟨rfl, by rw [z]⟩ q⟩, e⟩
      · rw [if_pos (bI_z.mpr (fun y => z (key.mp y)))] at e
        simp only [q194_56, q194_57] at e
        exact ⟨0, ⟨fun _ q => z (on_inj (by omega) (by omega) q.2), fun _ => rfl⟩, e⟩
  · rw [if_neg (fun z => q (on_inj (by omega) (by omega) z))] at e
    simp only [q194_15, q194_16] at e
    exact ⟨0, ⟨fun _ y => q (on_inj (by omega) (by omega) y.1), fun _ => rfl⟩, e⟩
end ES
