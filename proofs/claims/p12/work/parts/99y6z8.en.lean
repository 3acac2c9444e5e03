/-! a block: its end; a block as a whole -/
section EP
variable {v w v' w' v0 u : vm_V} {x x1 x2 : vm_Y}
theorem si_s {P k : Nat} {z : Int32} : (vm_si u P k z).1 P k = z := by rw [vm_si1b, if_pos ⟨rfl, rfl⟩]
theorem si_n {P k j : Nat} {z : Int32} (h : k ≠ j) : (vm_si u P j z).1 P k = u.1 P k := by rw [vm_si1b, if_neg (fun q => h q.2)]
theorem si_o {P Q k j : Nat} {z : Int32} (h : Q ≠ P) : (vm_si u P j z).1 Q k = u.1 Q k := by rw [vm_si1b, if_neg (fun q => h q.1)]
theorem ea_o {p o j : Nat} {z b f : Int32} (h : p + 2 < o) : c_endAt (vm_si u o j z) p b f = c_endAt u p b f := by
  unfold c_endAt
  rw [si_o (show p ≠ o by omega), si_o (show p + 2 ≠ o by omega)]
theorem ov_o {o j : Nat} {z r : Int32} : c_ovin (vm_si u o j z) o r = c_ovin u o r := by
  unfold c_ovin
  rw [si_o (show o + 1 ≠ o by omega)]
  rfl
theorem vn_o {o j : Nat} {z t : Int32} (h : 48 < o) : c_vnum (vm_si u o j z) t = c_vnum u t := by
  unfold c_vnum
  rw [si_o (show 43 ≠ o by omega)]
theorem ce_o {o j t : Nat} {z : Int32} (h : 48 < o) (ht : t < 22) : c_cell (vm_si u o j z) (Int32.ofNat t) 0 = c_cell u (Int32.ofNat t) 0 := by
  have e1 : c_cell (vm_si u o j z) (Int32.ofNat t) 0 = (vm_si u o j z).1 (21 + t) 0 := cell_n (t := t) (k := 0) ht (by omega)
  have e2 : c_cell u (Int32.ofNat t) 0 = u.1 (21 + t) 0 := cell_n (t := t) (k := 0) ht (by omega)
  rw [e1, e2, si_o (by omega)]
def c_e4 (o : Nat) (k l s t : Int32) (v : vm_V) : vm_V := vm_si (vm_si (vm_si (vm_si v o 6 k) o 7 l) o 8 s) o 9 t
/-- the class's workOutEnd -/
theorem ce_x {n a o p b kk aa s t l : Nat} (ho : 48 < o ∧ o + 4 < 64) (hp : p + 3 < 19) (hV : VI n a v) (hk : kk < 3) (ha : aa < 6) (hs : s < 6) (ht : t < 6) (hl : l < n) (hla : v.1 (o + 1) aa = Int32.ofNat l) (h0 : c_endAt v p (Int32.ofNat b) 0 = Int32.ofNat kk) (h1 : c_endAt v p (Int32.ofNat b) 1 = Int32.ofNat aa) (h2 : c_endAt v p (Int32.ofNat b) 2 = Int32.ofNat s) (h3 : c_endAt v p (Int32.ofNat b) 3 = Int32.ofNat t) (e : vE 110 0 [.ref o, .ref 19, .ref p, .int (Int32.ofNat b), .retAddr 0] [] v x) : (kk = 0 → x = vd (c_e4 o 0 0 (Int32.ofNat s) (Int32.ofNat t) v)) ∧ (kk = 2 → x = vd (c_e4 o 2 (Int32.ofNat l) (Int32.ofNat s) (Int32.ofNat t) v)) ∧ (kk = 1 → (¬ (s = t ∨ ∀ k : Nat, k < 23 → 1 ≤ k → v.1 (21 + l) k = 0) → x = vd (c_e4 o 1 (Int32.ofNat l) (Int32.ofNat s) (Int32.ofNat t) v)) ∧ ((s = t ∨ ∀ k : Nat, k < 23 → 1 ≤ k → v.1 (21 + l) k = 0) → x = vd (vm_si (vm_si (vm_si (vm_si (c_e4 o 1 (Int32.ofNat l) (Int32.ofNat s) (Int32.ofNat t) v) o 8 (if (∀ k : Nat, k < 23 → 1 ≤ k → v.1 (21 + l) k = 0) ∧ v.1 (21 + l) 0 = 0 then Int32.ofNat t else Int32.ofNat s)) o 6 0) o 7 0) o 9 0))) := by
  have n22 := hV.2.2.2.1
  have hpo : p + 2 < o := by omega
  have va : c_ovin v o (Int32.ofNat aa) = Int32.ofNat l := (ovin_n ha).trans hla
  have cl : c_cell v (Int32.ofNat l) 0 = v.1 (21 + l) 0 := cell_n (t := l) (k := 0) (by omega) (by omega)
  have n67 : ∀ (u : vm_V) (z : Int32), (vm_si u o 7 z).1 o 6 = u.1 o 6 := fun u z => si_n (by omega)
  have n68 : ∀ (u : vm_V) (z : Int32), (vm_si u o 8 z).1 o 6 = u.1 o 6 := fun u z => si_n (by omega)
  have n69 : ∀ (u : vm_V) (z : Int32), (vm_si u o 9 z).1 o 6 = u.1 o 6 := fun u z => si_n (by omega)
  have n78 : ∀ (u : vm_V) (z : Int32), (vm_si u o 8 z).1 o 7 = u.1 o 7 := fun u z => si_n (by omega)
  have n79 : ∀ (u : vm_V) (z : Int32), (vm_si u o 9 z).1 o 7 = u.1 o 7 := fun u z => si_n (by omega)
  have n89 : ∀ (u : vm_V) (z : Int32), (vm_si u o 9 z).1 o 8 = u.1 o 8 := fun u z => si_n (by omega)
  have go : ∀ l' : Int32, vE 110 32 [.ref o, .ref 19, .ref p, .int (Int32.ofNat b), .retAddr 0] [.int l', .ref o] (vm_si v o 6 (Int32.ofNat kk)) x → vE 110 59 [.ref o, .ref 19, .ref p, .int (Int32.ofNat b), .retAddr 0] [.int (Int32.ofNat kk)] (c_e4 o (Int32.ofNat kk) l' (Int32.ofNat s) (Int32.ofNat t) v) x := fun l' e => by
    simp only [q110_32, q110_35, q110_36, q110_37, q110_38, q110_39, ct56, ea_o hpo, h2, exists_eq_left, vB_r, Nat.reduceAdd, q110_42, q110_45, q110_46, q110_47, q110_48, q110_49, h3, q110_52, q110_55, q110_56, n67, n68, n69, si_s] at e
    exact e
  simp only [q110_0, q110_1, q110_2, q110_3, q110_4, ct56, h0, exists_eq_left, vB_r, Nat.reduceAdd, q110_7, q110_10, q110_11, q110_12, q110_15, si_s] at e
  by_cases k0 : kk = 0
  · subst k0
    rw [if_pos (show Int32.ofNat 0 = 0 from rfl)] at e
    simp only [q110_18, q110_19] at e
    have e := go 0 e
    simp only [q110_59, q110_60] at e
    rw [if_neg (show ¬ Int32.ofNat 0 = 1 from by decide)] at e
    simp only [q110_63] at e
    exact ⟨fun _ => e, fun z => by omega, fun z => by omega⟩
  · rw [if_neg (show ¬ Int32.ofNat kk = 0 from nat10 (m := 0) (by omega) (by omega) k0)] at e
    simp only [q110_22, q110_23, q110_24, q110_25, q110_26, ct56, ea_o hpo, h1, exists_eq_left, vB_r, Nat.reduceAdd, q110_29, ct91, ov_o, va] at e
    have e := go _ e
    simp only [q110_59, q110_60] at e
    by_cases k2 : kk = 2
    · subst k2
      rw [if_neg (show ¬ Int32.ofNat 2 = 1 from by decide)] at e
      simp only [q110_63] at e
      exact ⟨fun z => by omega, fun _ => e, fun z => by omega⟩
    · obtain rfl : kk = 1 := by omega
      rw [if_pos (show Int32.ofNat 1 = 1 from rfl)] at e
      refine ⟨fun z => by omega, fun z => by omega, fun _ => ?_⟩
      have r7 : (c_e4 o (Int32.ofNat 1) (Int32.ofNat l) (Int32.ofNat s) (Int32.ofNat t) v).1 o 7 = Int32.ofNat l := by
        unfold c_e4
        rw [n79, n78, si_s]
      have r8 : (c_e4 o (Int32.ofNat 1) (Int32.ofNat l) (Int32.ofNat s) (Int32.ofNat t) v).1 o 8 = Int32.ofNat s := by
        unfold c_e4
        rw [n89, si_s]
      have r9 : (c_e4 o (Int32.ofNat 1) (Int32.ofNat l) (Int32.ofNat s) (Int32.ofNat t) v).1 o 9 = Int32.ofNat t := si_s
      have rv : c_vnum (c_e4 o (Int32.ofNat 1) (Int32.ofNat l) (Int32.ofNat s) (Int32.ofNat t) v) (Int32.ofNat l) = bI (∀ k : Nat, k < 23 → 1 ≤ k → v.1 (21 + l) k = 0) := by
        unfold c_e4
        rw [vn_o ho.1, vn_o ho.1, vn_o ho.1, vn_o ho.1]
        exact vnum_n hV hl
      have rc : c_cell (c_e4 o (Int32.ofNat 1) (Int32.ofNat l) (Int32.ofNat s) (Int32.ofNat t) v) (Int32.ofNat l) 0 = v.1 (21 + l) 0 := by
        unfold c_e4
        rw [ce_o ho.1 (by omega), ce_o ho.1 (by omega), ce_o ho.1 (by omega), ce_o ho.1 (by omega)]
        exact cl
      simp only [q110_64, q110_65, q110_66, r7, q110_69, ct94, rv, exists_eq_left, vB_r, Nat.reduceAdd, q110_72, q110_74, q110_76] at e
      have fold : ∀ z : Int32, vE 110 118 [.ref o, .ref 19, .ref p, .int (Int32.ofNat b), .int (bI (∀ k : Nat, k < 23 → 1 ≤ k → v.1 (21 + l) k = 0))] [.int z, .ref o] (c_e4 o (Int32.ofNat 1) (Int32.ofNat l) (Int32.ofNat s) (Int32.ofNat t) v) x → x = vd (vm_si (vm_si (vm_si (vm_si (c_e4 o 1 (Int32.ofNat l) (Int32.ofNat s) (Int32.ofNat t) v) o 8 z) o 6 0) o 7 0) o 9 0) := fun z e => by
        simp only [q110_118, q110_121, q110_122, q110_123, q110_126, q110_127, q110_128, q110_131, q110_132, q110_133, q110_136] at e
        exact e
      have at90 : vE 110 90 [.ref o, .ref 19, .ref p, .int (Int32.ofNat b), .int (bI (∀ k : Nat, k < 23 → 1 ≤ k → v.1 (21 + l) k = 0))] [] (c_e4 o (Int32.ofNat 1) (Int32.ofNat l) (Int32.ofNat s) (Int32.ofNat t) v) x → x = vd (vm_si (vm_si (vm_si (vm_si (c_e4 o 1 (Int32.ofNat l) (Int32.ofNat s) (Int32.ofNat t) v) o 8 (if (∀ k : Nat, k < 23 → 1 ≤ k → v.1 (21 + l) k = 0) ∧ v.1 (21 + l) 0 = 0 then Int32.ofNat t else Int32.ofNat s)) o 6 0) o 7 0) o 9 0) := fun e => by
        simp only [q110_90, q110_91, q110_93] at e
        by_cases c1 : ∀ k : Nat, k < 23 → 1 ≤ k → v.1 (21 + l) k = 0
        · rw [if_neg (fun z => bI_z.mp z c1)] at e
          simp only [q110_96, q110_97, q110_98, r7, q110_101, ct95, c_nof, rc, exists_eq_left, vB_r, Nat.reduceAdd, q110_104] at e
          by_cases c2 : v.1 (21 + l) 0 = 0
          · rw [if_pos c2] at e
            simp only [q110_107, q110_108, r9, q110_111] at e
            rw [if_pos ⟨c1, c2⟩]
            exact fold _ e
          · rw [if_neg c2] at e
            simp only [q110_114, q110_115, r8] at e
            rw [if_neg (fun z => c2 z.2)]
            exact fold _ e
        · rw [if_pos (bI_z.mpr c1)] at e
          simp only [q110_114, q110_115, r8] at e
          rw [if_neg (fun z => c1 z.1)]
          exact fold _ e
      by_cases c1 : ∀ k : Nat, k < 23 → 1 ≤ k → v.1 (21 + l) k = 0
      · rw [if_neg (fun z => bI_z.mp z c1)] at e
        exact ⟨fun z => absurd (Or.inr c1) z, fun _ => at90 e⟩
      · rw [if_pos (bI_z.mpr c1)] at e
        simp only [q110_79, q110_80, q110_83, q110_84, r8, r9, q110_87] at e
        by_cases st : s = t
        · rw [if_pos (by rw [st])] at e
          exact ⟨fun z => absurd (Or.inl st) z, fun _ => at90 e⟩
        · rw [if_neg (fun z => st (on_inj (by omega) (by omega) z))] at e
          simp only [q110_136] at e
          exact ⟨fun _ => e, fun z => by
            rcases z with z | z
            · exact absurd z st
            · exact absurd z c1⟩
def w_cn (S : Nat) (k vv s t : Int32) (w : vm_V) : vm_V := vm_si (vm_si (vm_si (vm_si w 79 S k) 80 S vv) 81 S s) 82 S t
theorem w_cno {S P j : Nat} {k vv s t : Int32} (h : ¬ (79 ≤ P ∧ P ≤ 82 ∧ j = S)) : (w_cn S k vv s t w).1 P j = w.1 P j := by
  unfold w_cn
  rw [vm_si1b, if_neg (by omega), vm_si1b, if_neg (by omega), vm_si1b, if_neg (by omega), vm_si1b, if_neg (by omega)]
/-- the reference's conclude, from its four ints on -/
theorem cn_x {n a S kk vv s t l : Nat} {E : Int32} (hS : S < 2) (hV : VI n a v) (hl : l < n) (hk : kk < 3) (hv : vv < 1000) (hs : s < 6) (ht : t < 6) (h1 : sv v w l 72 vv) (e : vE 192 82 [.ref 64, .int (Int32.ofNat S), .int E, .int (Int32.ofNat kk), .int (Int32.ofNat vv), .int (Int32.ofNat s), .int (Int32.ofNat t)] [] w x) : (¬ kk = 1 → x = vd (w_cn S (Int32.ofNat kk) (Int32.ofNat vv) (Int32.ofNat s) (Int32.ofNat t) w)) ∧ (kk = 1 → (¬ (s = t ∨ ∀ k : Nat, k < 23 → 1 ≤ k → v.1 (21 + l) k = 0) → x = vd (w_cn S 1 (Int32.ofNat vv) (Int32.ofNat s) (Int32.ofNat t) w)) ∧ ((s = t ∨ ∀ k : Nat, k < 23 → 1 ≤ k → v.1 (21 + l) k = 0) → x = vd (w_cn S 0 (Int32.ofNat vv) (if s = t ∨ ¬ v.1 (21 + l) 0 = 0 then Int32.ofNat s else Int32.ofNat t) (Int32.ofNat t) w))) := by
  have wv : w.1 72 vv = v.1 (21 + l) 0 := sv_0 h1
  have fin : ∀ k z : Int32, vE 192 134 [.ref 64, .int (Int32.ofNat S), .int E, .int k, .int (Int32.ofNat vv), .int z, .int (Int32.ofNat t)] [] w x → x = vd (w_cn S k (Int32.ofNat vv) z (Int32.ofNat t) w) := fun k z e => by
    simp only [q192_134, q192_135, q192_138, q192_139, q192_140, q192_141, q192_142, q192_145, q192_146, q192_148, q192_149, q192_150, q192_153, q192_154, q192_156, q192_157, q192_158, q192_161, q192_162, q192_164, q192_165, Nat.reduceAdd, nn_nat (show S < 2147483648 by omega)] at e
    exact e
  simp only [q192_82, q192_83, q192_84] at e
  by_cases k1 : kk = 1
  · subst k1
    rw [if_pos (show Int32.ofNat 1 = 1 from rfl)] at e
    simp only [q192_87, q192_89, q192_91] at e
    refine ⟨fun z => absurd rfl z, fun _ => ?_⟩
    have at106 : vE 192 106 [.ref 64, .int (Int32.ofNat S), .int E, .int (Int32.ofNat 1), .int (Int32.ofNat vv), .int (Int32.ofNat s), .int (Int32.ofNat t)] [] w x → x = vd (w_cn S 0 (Int32.ofNat vv) (if s = t ∨ ¬ v.1 (21 + l) 0 = 0 then Int32.ofNat s else Int32.ofNat t) (Int32.ofNat t) w) := fun e => by
      simp only [q192_106, q192_107, q192_108, q192_110, q192_112] at e
      by_cases st : s = t
      · rw [if_pos (by rw [st])] at e
        simp only [q192_125, q192_127, q192_132] at e
        rw [if_pos (Or.inl st)]
        exact fin _ _ e
      · rw [if_neg (fun z => st (on_inj (by omega) (by omega) z))] at e
        simp only [q192_115, q192_116, q192_119, q192_121, q192_122, Nat.reduceAdd, nn_nat (show vv < 2147483648 by omega), wv] at e
        by_cases v0 : v.1 (21 + l) 0 = 0
        · rw [if_pos v0] at e
          simp only [q192_130, q192_132] at e
          rw [if_neg (fun z => by
            rcases z with z | z
            · exact st z
            · exact z v0)]
          exact fin _ _ e
        · rw [if_neg v0] at e
          simp only [q192_125, q192_127, q192_132] at e
          rw [if_pos (Or.inr v0)]
          exact fin _ _ e
    by_cases st : s = t
    · rw [if_pos (by rw [st])] at e
      exact ⟨fun z => absurd (Or.inl st) z, fun _ => at106 e⟩
    · rw [if_neg (fun z => st (on_inj (by omega) (by omega) z))] at e
      simp only [q192_94, q192_95, q192_98, q192_100, Nat.reduceAdd, ct185 hv, exists_eq_left, vB_r, q192_103] at e
      by_cases c1 : ∀ k : Nat, k < 23 → 1 ≤ k → v.1 (21 + l) k = 0
      · rw [if_neg (fun z => (nz1 h1).mp z c1)] at e
        exact ⟨fun z => absurd (Or.inr c1) z, fun _ => at106 e⟩
      · rw [if_pos ((nz1 h1).mpr c1)] at e
        exact ⟨fun _ => fin _ _ e, fun z => by
          rcases z with z | z
          · exact absurd z st
          · exact absurd z c1⟩
  · rw [if_neg (show ¬ Int32.ofNat kk = 1 from nat10 (m := 1) (by omega) (by omega) k1)] at e
    exact ⟨fun _ => fin _ _ e, fun z => absurd z k1⟩
def EN (n : Nat) (v w : vm_V) (o S : Nat) : Prop := ∃ k s : Nat, k < 3 ∧ s < 6 ∧ v.1 o 6 = Int32.ofNat k ∧ w.1 79 S = Int32.ofNat k ∧ v.1 o 8 = Int32.ofNat s ∧ w.1 81 S = Int32.ofNat s ∧ (k = 0 → v.1 o 7 = 0) ∧ (k ≠ 0 → ∃ t vv : Nat, t < n ∧ v.1 o 7 = Int32.ofNat t ∧ w.1 80 S = Int32.ofNat vv ∧ 144 * S ≤ vv ∧ vv + 24 ≤ 144 * S + 144 ∧ sv v w t 72 vv) ∧ (k = 1 → ∃ y : Nat, y < 6 ∧ v.1 o 9 = Int32.ofNat y ∧ w.1 82 S = Int32.ofNat y)
/-- the end: both sides -/
theorem en_x {n a o S c st p b : Nat} {E : Int32} (h : ST n a v w o S c st) (ho : 48 < o ∧ o + 4 < 64) (hS : S < 2) (hp : p + 3 < 19) {kk aa s t : Nat} (hk : kk < 3) (ha : aa < 6) (hs : s < 6) (ht : t < 6) (h0 : c_endAt v p (Int32.ofNat b) 0 = Int32.ofNat kk) (h1 : c_endAt v p (Int32.ofNat b) 1 = Int32.ofNat aa) (h2 : c_endAt v p (Int32.ofNat b) 2 = Int32.ofNat s) (h3 : c_endAt v p (Int32.ofNat b) 3 = Int32.ofNat t) (e1 : vE 110 0 [.ref o, .ref 19, .ref p, .int (Int32.ofNat b), .retAddr 0] [] v x1) (e2 : vE 192 82 [.ref 64, .int (Int32.ofNat S), .int E, .int (Int32.ofNat kk), .int (Int32.ofNat (144 * S + 24 * aa)), .int (Int32.ofNat s), .int (Int32.ofNat t)] [] w x2) : ∃ v' w' : vm_V, x1 = vd v' ∧ x2 = vd w' ∧ EN n v' w' o S ∧ (∀ P j : Nat, ¬ (P = o ∧ 6 ≤ j) → v'.1 P j = v.1 P j) ∧ v'.2 = v.2 ∧ (∀ P j : Nat, ¬ (79 ≤ P ∧ P ≤ 82 ∧ j = S) → w'.1 P j = w.1 P j) ∧ w'.2 = w.2 := by
  obtain ⟨hV, hA, hO, _⟩ := h
  have n22 := hV.2.2.2.1
  obtain ⟨l, hl, l2, l3⟩ := hO.1 aa ha
  obtain ⟨C0, C2, C1⟩ := ce_x ho hp hV hk ha hs ht hl l2 h0 h1 h2 h3 e1
  obtain ⟨R0, R1⟩ := cn_x hS hV hl hk (show 144 * S + 24 * aa < 1000 by omega) hs ht l3 e2
  have eo : ∀ (k z1 z2 z3 : Int32) (P j : Nat), ¬ (P = o ∧ 6 ≤ j) → (c_e4 o k z1 z2 z3 v).1 P j = v.1 P j := fun k z1 z2 z3 P j q => by
    unfold c_e4
    rw [vm_si1b, if_neg (by omega), vm_si1b, if_neg (by omega), vm_si1b, if_neg (by omega), vm_si1b, if_neg (by omega)]
  have c6 : ∀ k z1 z2 z3 : Int32, (c_e4 o k z1 z2 z3 v).1 o 6 = k ∧ (c_e4 o k z1 z2 z3 v).1 o 7 = z1 ∧ (c_e4 o k z1 z2 z3 v).1 o 8 = z2 ∧ (c_e4 o k z1 z2 z3 v).1 o 9 = z3 := fun k z1 z2 z3 => by
    unfold c_e4
    refine ⟨?_, ?_, ?_, si_s⟩
    · rw [si_n (by omega), si_n (by omega), si_n (by omega), si_s]
    · rw [si_n (by omega), si_n (by omega), si_s]
    · rw [si_n (by omega), si_s]
  have w6 : ∀ k z1 z2 z3 : Int32, (w_cn S k z1 z2 z3 w).1 79 S = k ∧ (w_cn S k z1 z2 z3 w).1 80 S = z1 ∧ (w_cn S k z1 z2 z3 w).1 81 S = z2 ∧ (w_cn S k z1 z2 z3 w).1 82 S = z3 := fun k z1 z2 z3 => by
    unfold w_cn
    refine ⟨?_, ?_, ?_, si_s⟩
    · rw [si_o (by omega), si_o (by omega), si_o (by omega), si_s]
    · rw [si_o (by omega), si_o (by omega), si_s]
    · rw [si_o (by omega), si_s]
  have svx : ∀ (v' w' : vm_V), (∀ P j : Nat, ¬ (P = o ∧ 6 ≤ j) → v'.1 P j = v.1 P j) → (∀ P j : Nat, ¬ (79 ≤ P ∧ P ≤ 82 ∧ j = S) → w'.1 P j = w.1 P j) → sv v' w' l 72 (144 * S + 24 * aa) := fun v' w' q1 q2 => sv_r (n := n) (fun t k _ _ => q1 _ _ (by omega)) hl (fun k _ => q2 _ _ (by omega)) l3
  by_cases k0 : kk = 0
  · have x1e := C0 k0
    have x2e := R0 (by omega)
    subst k0
    refine ⟨_, _, x1e, x2e, ⟨0, s, by omega, hs, (c6 _ _ _ _).1, (w6 _ _ _ _).1, (c6 _ _ _ _).2.2.1, (w6 _ _ _ _).2.2.1, fun _ => (c6 _ _ _ _).2.1, fun z => absurd rfl z, fun z => by omega⟩, eo _ _ _ _, rfl, fun P j q => w_cno q, rfl⟩
  · by_cases k2 : kk = 2
    · have x1e := C2 k2
      have x2e := R0 (by omega)
      subst k2
      refine ⟨_, _, x1e, x2e, ⟨2, s, by omega, hs, (c6 _ _ _ _).1, (w6 _ _ _ _).1, (c6 _ _ _ _).2.2.1, (w6 _ _ _ _).2.2.1, fun z => by omega, fun _ => ⟨l, 144 * S + 24 * aa, hl, (c6 _ _ _ _).2.1, (w6 _ _ _ _).2.1, by omega, by omega, svx _ _ (eo _ _ _ _) (fun P j q => w_cno q)⟩, fun z => by omega⟩, eo _ _ _ _, rfl, fun P j q => w_cno q, rfl⟩
    · have k1 : kk = 1 := by omega
      obtain ⟨C3, C4⟩ := C1 k1
      obtain ⟨R2, R3⟩ := R1 k1
      by_cases f : s = t ∨ ∀ k : Nat, k < 23 → 1 ≤ k → v.1 (21 + l) k = 0
      · have x1e := C4 f
        have x2e := R3 f
        have same : (if (∀ k : Nat, k < 23 → 1 ≤ k → v.1 (21 + l) k = 0) ∧ v.1 (21 + l) 0 = 0 then Int32.ofNat t else Int32.ofNat s) = (if s = t ∨ ¬ v.1 (21 + l) 0 = 0 then Int32.ofNat s else Int32.ofNat t) := by
          by_cases st : s = t
          · rw [if_pos (Or.inl st), st, ite_self]
          · have N : ∀ k : Nat, k < 23 → 1 ≤ k → v.1 (21 + l) k = 0 := by
              rcases f with f | f
              · exact absurd f st
              · exact f
            by_cases z : v.1 (21 + l) 0 = 0
            · rw [if_pos ⟨N, z⟩, if_neg (fun y => by
                rcases y with y | y
                · exact st y
                · exact y z)]
            · rw [if_neg (fun y => z y.2), if_pos (Or.inr z)]
        have nx : ∃ m : Nat, m < 6 ∧ (if s = t ∨ ¬ v.1 (21 + l) 0 = 0 then Int32.ofNat s else Int32.ofNat t) = Int32.ofNat m := by
          by_cases z : s = t ∨ ¬ v.1 (21 + l) 0 = 0
          · exact ⟨s, hs, if_pos z⟩
          · exact ⟨t, ht, if_neg z⟩
        obtain ⟨m, m1, m2⟩ := nx
        rw [same, m2] at x1e
        rw [m2] at x2e
        refine ⟨_, _, x1e, x2e, ⟨0, m, by omega, m1, ?_, (w6 _ _ _ _).1, ?_, (w6 _ _ _ _).2.2.1, fun _ => ?_, fun z => absurd rfl z, fun z => by omega⟩, fun P j q => ?_, rfl, fun P j q => w_cno q, rfl⟩
        · rw [si_n (by omega), si_n (by omega), si_s]
          rfl
        · rw [si_n (by omega), si_n (by omega), si_n (by omega), si_s]
        · rw [si_n (by omega), si_s]
        · rw [vm_si1b, if_neg (by omega), vm_si1b, if_neg (by omega), vm_si1b, if_neg (by omega), vm_si1b, if_neg (by omega)]
          exact eo _ _ _ _ P j q
      · have x1e := C3 f
        have x2e := R2 f
        refine ⟨_, _, x1e, x2e, ⟨1, s, by omega, hs, (c6 _ _ _ _).1, (w6 _ _ _ _).1, (c6 _ _ _ _).2.2.1, (w6 _ _ _ _).2.2.1, fun z => by omega, fun _ => ⟨l, 144 * S + 24 * aa, hl, (c6 _ _ _ _).2.1, (w6 _ _ _ _).2.1, by omega, by omega, svx _ _ (eo _ _ _ _) (fun P j q => w_cno q)⟩, fun _ => ⟨t, ht, (c6 _ _ _ _).2.2.2, (w6 _ _ _ _).2.2.2⟩⟩, eo _ _ _ _, rfl, fun P j q => w_cno q, rfl⟩
end EP
