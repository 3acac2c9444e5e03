/-! a side as a whole; effects -/
section EQ
variable {xs : List Int32} {H H1 H2 : am_H} {v w v' w' v0 v1 v2 : vm_V} {x x1 x2 : vm_Y}
def GE (o S n : Nat) (v w v' w' : vm_V) : Prop := (∀ t k : Nat, t < n → k < 23 → v'.1 (21 + t) k = v.1 (21 + t) k) ∧ (∀ P j : Nat, (P < 19 ∨ 48 < P) → ¬ (o ≤ P ∧ P ≤ o + 4) → v'.1 P j = v.1 P j) ∧ v'.2 = v.2 ∧ (∀ P j : Nat, (P < 64 ∨ (64 < P ∧ P < 69) ∨ (82 < P ∧ P ≠ 92)) → w'.1 P j = w.1 P j) ∧ (∀ P j : Nat, 79 ≤ P → P ≤ 82 → j ≠ S → w'.1 P j = w.1 P j) ∧ (∀ j : Nat, j ≠ 5 → w'.1 64 j = w.1 64 j) ∧ (∀ j : Nat, ¬ (144 * S ≤ j ∧ j < 144 * S + 144) → w'.1 72 j = w.1 72 j) ∧ (∀ j : Nat, j ≠ S → w'.1 73 j = w.1 73 j) ∧ (∀ j : Nat, ¬ (8 * S ≤ j ∧ j < 8 * S + 8) → w'.1 74 j = w.1 74 j) ∧ (∀ j : Nat, ¬ (192 * S ≤ j ∧ j < 192 * S + 192) → w'.1 75 j = w.1 75 j ∧ w'.1 76 j = w.1 76 j) ∧ w'.2 = w.2
theorem cn_0 {S E kk aa s t : Nat} (hE : E + 3 < 1000) (h0 : w.1 68 E = Int32.ofNat kk) (h1 : w.1 68 (E + 1) = Int32.ofNat aa) (h2 : w.1 68 (E + 2) = Int32.ofNat s) (h3 : w.1 68 (E + 3) = Int32.ofNat t) (e : vE 192 0 [.ref 64, .int (Int32.ofNat S), .int (Int32.ofNat E), .retAddr 0, .retAddr 0, .retAddr 0, .retAddr 0] [] w x) : vE 192 82 [.ref 64, .int (Int32.ofNat S), .int (Int32.ofNat E), .int (Int32.ofNat kk), .int (Int32.ofNat (144 * S + 24 * aa)), .int (Int32.ofNat s), .int (Int32.ofNat t)] [] w x := by
  have m1 : ¬ Int32.ofNat E = -1 := m1n E (by omega)
  have b1 : (144 : Int32) * Int32.ofNat S = Int32.ofNat (144 * S) := nn_mul 144 S
  have n0 : (Int32.ofNat E).toNatClampNeg = E := nn_nat (by omega)
  have n1 : (Int32.ofNat E + 1).toNatClampNeg = E + 1 := by rw [nn_s, nn_nat (by omega)]
  have n2 : (Int32.ofNat E + 2).toNatClampNeg = E + 2 := by rw [show (2 : Int32) = Int32.ofNat 2 from rfl, nn_add, nn_nat (by omega)]
  have n3 : (Int32.ofNat E + 3).toNatClampNeg = E + 3 := by rw [show (3 : Int32) = Int32.ofNat 3 from rfl, nn_add, nn_nat (by omega)]
  simp only [q192_0, q192_1, q192_2] at e
  rw [if_neg m1] at e
  simp only [q192_9, q192_10, q192_13, q192_14, q192_15, q192_16, q192_19, q192_20, q192_21, q192_23, q192_24, q192_25, Nat.reduceAdd, n0, h0, b1] at e
  rw [if_neg m1] at e
  simp only [q192_32, q192_33, q192_36, q192_37, q192_38, q192_39, q192_40, q192_41, q192_42, q192_44, q192_45, q192_46, Nat.reduceAdd, n1, h1, c24, nn_add] at e
  rw [if_neg m1] at e
  simp only [q192_53, q192_54, q192_57, q192_58, q192_59, q192_60, q192_61, q192_63, q192_64, q192_65, Nat.reduceAdd, n2, h2] at e
  rw [if_neg m1] at e
  simpa only [q192_72, q192_73, q192_76, q192_77, q192_78, q192_79, q192_80, Nat.reduceAdd, n3, h3] using e
theorem cn_1 {S : Nat} (e : vE 192 0 [.ref 64, .int (Int32.ofNat S), .int (-1), .retAddr 0, .retAddr 0, .retAddr 0, .retAddr 0] [] w x) : vE 192 82 [.ref 64, .int (Int32.ofNat S), .int (-1), .int (Int32.ofNat 2), .int (Int32.ofNat (144 * S + 24 * 0)), .int (Int32.ofNat 0), .int (Int32.ofNat 0)] [] w x := by
  have b1 : (144 : Int32) * Int32.ofNat S = Int32.ofNat (144 * S) := nn_mul 144 S
  simp only [q192_0, q192_1, q192_2] at e
  rw [if_pos trivial] at e
  simp only [q192_5, q192_6, q192_15, q192_16, q192_19, q192_20, q192_21, q192_23, q192_24, q192_25, b1] at e
  rw [if_pos trivial] at e
  simp only [q192_28, q192_29, q192_40, q192_41, q192_42, q192_44, q192_45, q192_46] at e
  rw [if_pos trivial] at e
  simp only [q192_49, q192_50, q192_61, q192_63, q192_64, q192_65] at e
  rw [if_pos trivial] at e
  simp only [q192_68, q192_69, q192_80] at e
  rw [show (24 : Int32) * 0 = Int32.ofNat (24 * 0) from by decide, nn_add] at e
  exact e
/-- a side: both -/
theorem side {n a o S p P cc b : Nat} (ho : 48 < o ∧ o + 4 < 64) (hS : S < 2) (hP : P < 2) (hp : p + 3 < 19) (hD : prD p P cc v0) (hb6 : b < 6) (hV : VI n a v) (hA : AR n a v w) (hB : BG n v w S) (hn : n + 8 ≤ 22) (hv : ∀ q j : Nat, q < 19 → v.1 q j = v0.1 q j) (hw : ∀ q j : Nat, rng q j → w.1 q j = v0.1 q j) (e1 : vE 90 0 [.ref o, .ref 19, .ref p, .int (Int32.ofNat b), .retAddr 0, .retAddr 0, .retAddr 0, .retAddr 0, .retAddr 0, .retAddr 0, .retAddr 0] [] v x1) (e2 : vE 180 0 [.ref 64, .int (Int32.ofNat S), .int (Int32.ofNat P), .int (Int32.ofNat b), .retAddr 0, .retAddr 0, .retAddr 0] [] w x2) : ∃ (n' a' c : Nat) (v' w' : vm_V), x1 = vd v' ∧ x2 = vd w' ∧ VI n' a' v' ∧ AR n' a' v' w' ∧ OS n' v' w' o S c ∧ EN n' v' w' o S ∧ n ≤ n' ∧ n' ≤ n + 8 ∧ GE o S n v w v' w' := by
  obtain ⟨d1, d2, d3, d4, d5, d6, d7, d8⟩ := hD
  have hD : prD p P cc v0 := ⟨d1, d2, d3, d4, d5, d6, d7, d8⟩
  have e1 := ff_0 e1
  have e2 := wo_0 hS hP hb6 e2
  obtain ⟨hT, hG⟩ := st_0 (S := S) ho hV hA hB
  have v3 : ∀ u : vm_V, (∀ q j : Nat, q < 19 → u.1 q j = v0.1 q j) → u.1 p 3 = Int32.ofNat cc := fun u hu => (hu p 3 (by omega)).trans d2
  have hv1 : ∀ q j : Nat, q < 19 → (c_f0 o v).1 q j = v0.1 q j := fun q j hq => (hG.2.1 q j (Or.inl hq) (by omega)).trans (hv q j hq)
  have w65 : w.1 65 P = Int32.ofNat cc := (hw 65 P (by unfold rng; omega)).trans d3
  -- the length
  have hlen : ∃ len : Nat, len ≤ 8 ∧ (0 < len → b < cc) ∧ c_lengthOf (c_f0 o v) p (Int32.ofNat b) = Int32.ofNat len ∧ (if w.1 65 P ≤ Int32.ofNat b then 0 else w.1 66 (6 * P + b)) = Int32.ofNat len := by
    by_cases z : b < cc
    · obtain ⟨m, m1, m2, m3⟩ := d4 b hb6
      refine ⟨m, m1, fun _ => z, ?_, ?_⟩
      · rw [pu_len (v3 _ hv1) d1 z]
        exact (hv1 _ _ (by omega)).trans m2
      · rw [w65, if_neg (nl (by omega) (by omega) z)]
        exact (hw 66 _ (by unfold rng; omega)).trans m3
    · refine ⟨0, by omega, fun q => by omega, (ih_no (v3 _ hv1) d1 hb6 z).1, ?_⟩
      rw [w65, if_pos ((nn_le (by omega) (by omega)).mpr (by omega))]
      rfl
  obtain ⟨len, k1, k2, k3, k4⟩ := hlen
  rw [k3] at e1
  rw [k4] at e2
  obtain ⟨n', a', c, st, v2, w2, m6, m7, m8, m9, m10, g1, g2, g3, g4, g5, g6⟩ := bl_x ho hS hP hp hD k2 hb6 k1 len 0 n a 0 0 (c_f0 o v) (r_f0 S w) _ _ _ _ _ (Nat.zero_add len) hT (by omega) (Nat.le_refl 0) hv1 (fun j hj => (hG.2.2.2.1 67 j (by omega)).trans (hw 67 j (by unfold rng; omega))) e1 e2
  have G2 := GF_tr hG g4 (Nat.le_refl n)
  have hv2 : ∀ q j : Nat, q < 19 → v2.1 q j = v0.1 q j := fun q j hq => (G2.2.1 q j (Or.inl hq) (by omega)).trans (hv q j hq)
  have hw2 : ∀ q j : Nat, rng q j → w2.1 q j = v0.1 q j := fun q j h => by
    have q2 : 65 ≤ q ∧ q ≤ 68 := by
      unfold rng at h
      omega
    exact (G2.2.2.2.1 q j (by omega)).trans (hw q j h)
  simp only [q90_151, q90_152, q90_153, q90_154, q90_155] at g5
  obtain ⟨y1, f1, f2⟩ := g5
  simp only [q180_102, q180_103, q180_104, q180_105, q180_106, q180_109, q180_110, q180_111, Nat.reduceAdd, nn_nat (show P < 2147483648 by omega), (hw2 65 P (by unfold rng; omega)).trans d3] at g6
  -- the end's four ints
  have ends : ∃ (kk aa s t : Nat) (E : Int32) (y2 : vm_Y), kk < 3 ∧ aa < 6 ∧ s < 6 ∧ t < 6 ∧ c_endAt v2 p (Int32.ofNat b) 0 = Int32.ofNat kk ∧ c_endAt v2 p (Int32.ofNat b) 1 = Int32.ofNat aa ∧ c_endAt v2 p (Int32.ofNat b) 2 = Int32.ofNat s ∧ c_endAt v2 p (Int32.ofNat b) 3 = Int32.ofNat t ∧ vE 192 82 [.ref 64, .int (Int32.ofNat S), .int E, .int (Int32.ofNat kk), .int (Int32.ofNat (144 * S + 24 * aa)), .int (Int32.ofNat s), .int (Int32.ofNat t)] [] w2 y2 ∧ ∀ w3 : vm_V, y2 = vd w3 → x2 = vd w3 := by
    by_cases z : b < cc
    · rw [if_neg (nl (by omega) (by omega) z)] at g6
      obtain ⟨kk, aa, s, t, p1, p2, p3, p4, p5, p6, p7, p8⟩ := d8 b hb6
      have i4 : (4 : Int32) * Int32.ofNat (6 * P + b) = Int32.ofNat (24 * P + 4 * b) := by
        rw [show (4 : Int32) = Int32.ofNat 4 from rfl, nn_mul, show 4 * (6 * P + b) = 24 * P + 4 * b by omega]
      simp only [q180_114, q180_115, q180_117, q180_118, q180_122, i4] at g6
      obtain ⟨y2, h1, h2⟩ := g6
      have cE : ∀ f : Nat, f < 4 → c_endAt v2 p (Int32.ofNat b) (Int32.ofNat f) = v0.1 68 (24 * P + 4 * b + f) := fun f hf => by
        rw [pu_end (v3 _ hv2) d1 z hf, hv2 _ _ (by omega), d6 _ (by omega), show 24 * P + (4 * b + f) = 24 * P + 4 * b + f by omega]
      refine ⟨kk, aa, s, t, _, y2, p1, p2, p3, p4, (cE 0 (by omega)).trans p5, (cE 1 (by omega)).trans p6, (cE 2 (by omega)).trans p7, (cE 3 (by omega)).trans p8, cn_0 (by omega) ((hw2 68 _ (by unfold rng; omega)).trans p5) ((hw2 68 _ (by unfold rng; omega)).trans p6) ((hw2 68 _ (by unfold rng; omega)).trans p7) ((hw2 68 _ (by unfold rng; omega)).trans p8) h1, fun w3 hy => ?_⟩
      subst hy
      simpa only [vB_d, Nat.reduceAdd, q180_125] using h2
    · rw [if_pos ((nn_le (by omega) (by omega)).mpr (by omega))] at g6
      simp only [q180_121, q180_122] at g6
      obtain ⟨y2, h1, h2⟩ := g6
      obtain ⟨_, z2, z3⟩ := ih_no (v3 _ hv2) d1 hb6 z
      have z4 : ∀ f : Int32, ¬ f = 0 → c_endAt v2 p (Int32.ofNat b) f = 0 := fun f hf => by
        unfold c_endAt
        rw [v3 _ hv2, if_neg (nn_n0 (by omega)), if_pos ((nn_le (by omega) (by omega)).mpr (by omega)), if_neg hf]
      refine ⟨2, 0, 0, 0, _, y2, by omega, by omega, by omega, by omega, z2, z3, z4 2 (by decide), z4 3 (by decide), cn_1 h1, fun w3 hy => ?_⟩
      subst hy
      simpa only [vB_d, Nat.reduceAdd, q180_125] using h2
  obtain ⟨kk, aa, s, t, E, y2, p1, p2, p3, p4, p5, p6, p7, p8, h1, h2⟩ := ends
  obtain ⟨v3', w3, r1, r2, r3, r4, r5, r6, r7⟩ := en_x g1 ho hS hp p1 p2 p3 p4 p5 p6 p7 p8 f1 h1
  subst r1
  simp only [vB_d, Nat.reduceAdd, q90_158] at f2
  have n22 := g1.1.2.2.2.1
  have vl : ∀ P j : Nat, 19 ≤ P → P ≤ 48 → v3'.1 P j = v2.1 P j := fun P j _ _ => r4 P j (by omega)
  have hr : ∀ t k : Nat, t < n' → k < 23 → v3'.1 (21 + t) k = v2.1 (21 + t) k := fun t k _ _ => vl _ _ (by omega) (by omega)
  obtain ⟨G1, G3, G4, G5, G6, G7, G8, G9, G10, G11⟩ := G2
  refine ⟨n', a', c, v3', w3, f2, h2 w3 r2, VI_f g1.1 vl r5, AR_f n22 g1.2.1 vl (r6 _ _ (by omega)) (fun P k _ _ => r6 _ _ (by omega)), ?_, r3, g2, by omega, ?_⟩
  · exact OS_same hr (Nat.le_refl n') (fun k => r4 _ _ (by omega)) (r4 _ _ (by omega)) (fun P e q1 q2 _ => r4 _ _ (by omega)) (fun k _ _ => r6 _ _ (by omega)) (r6 _ _ (by omega)) (fun e _ => r6 _ _ (by omega)) (fun k _ _ => ⟨r6 _ _ (by omega), r6 _ _ (by omega)⟩) g1.2.2.1
  · refine ⟨fun t k ht hk => (hr t k (by omega) hk).trans (G1 t k ht hk), fun P j q1 q2 => (r4 P j (by omega)).trans (G3 P j q1 q2), r5.trans G4, fun P j q => (r6 P j (by omega)).trans (G5 P j (by omega)), fun P j q1 q2 q3 => (r6 P j (by omega)).trans (G5 P j (by omega)), fun j q => (r6 64 j (by omega)).trans (G6 j q), fun j q => (r6 72 j (by omega)).trans (G7 j q), fun j q => (r6 73 j (by omega)).trans (G8 j q), fun j q => (r6 74 j (by omega)).trans (G9 j q), fun j q => ⟨(r6 75 j (by omega)).trans (G10 j q).1, (r6 76 j (by omega)).trans (G10 j q).2⟩, r7.trans G11⟩
/-! effects -/
theorem vlen (hI : lw_I xs H) (hw : vw v H) : (∀ t : Nat, t < 22 → v.2.2.2 (21 + t) = 23) ∧ v.2.2.2 48 = 23 := by
  refine ⟨fun t ht => ?_, gh_ln hI hw (p := 48) rfl (by omega) (by omega)⟩
  have : t = 0 ∨ t = 1 ∨ t = 2 ∨ t = 3 ∨ t = 4 ∨ t = 5 ∨ t = 6 ∨ t = 7 ∨ t = 8 ∨ t = 9 ∨ t = 10 ∨ t = 11 ∨ t = 12 ∨ t = 13 ∨ t = 14 ∨ t = 15 ∨ t = 16 ∨ t = 17 ∨ t = 18 ∨ t = 19 ∨ t = 20 ∨ t = 21 := by omega
  rcases this with rfl | rfl | rfl | rfl | rfl | rfl | rfl | rfl | rfl | rfl | rfl | rfl | rfl | rfl | rfl | rfl | rfl | rfl | rfl | rfl | rfl | rfl <;> exact gh_ln hI hw rfl (by omega) (by omega)
/-- begin and the first side: both -/
theorem one {p P cc b : Nat} (hP : P < 2) (hp : p + 3 < 19) (hD : prD p P cc v0) (hb6 : b < 6) (hl : (∀ t : Nat, t < 22 → v.2.2.2 (21 + t) = 23) ∧ v.2.2.2 48 = 23) (hv : ∀ q j : Nat, q < 19 → v.1 q j = v0.1 q j) (hw : ∀ q j : Nat, rng q j → w.1 q j = v0.1 q j) {y1 y2 : vm_Y} (e1 : vE 87 0 [.ref 19, .retAddr 0] [] v y1) (e2 : vE 178 0 [.ref 64, .retAddr 0, .retAddr 0, .retAddr 0] [] w y2) (f1 : ∀ u : vm_V, y1 = vd u → vE 90 0 [.ref 49, .ref 19, .ref p, .int (Int32.ofNat b), .retAddr 0, .retAddr 0, .retAddr 0, .retAddr 0, .retAddr 0, .retAddr 0, .retAddr 0] [] u x1) (f2 : ∀ u : vm_V, y2 = vd u → vE 180 0 [.ref 64, .int (Int32.ofNat 0), .int (Int32.ofNat P), .int (Int32.ofNat b), .retAddr 0, .retAddr 0, .retAddr 0] [] u x2) : ∃ (n a c : Nat) (v' w' : vm_V), x1 = vd v' ∧ x2 = vd w' ∧ VI n a v' ∧ AR n a v' w' ∧ OS n v' w' 49 0 c ∧ EN n v' w' 49 0 ∧ BG n v' w' 1 ∧ n ≤ 14 ∧ (∀ P j : Nat, (P < 19 ∨ 53 < P) → v'.1 P j = v.1 P j) ∧ v'.2 = v.2 ∧ (∀ P j : Nat, (P < 64 ∨ (64 < P ∧ P < 69) ∨ (82 < P ∧ P ≠ 92)) → w'.1 P j = w.1 P j) ∧ (∀ j : Nat, j ≠ 5 → w'.1 64 j = w.1 64 j) ∧ w'.2 = w.2 := by
  obtain ⟨u1, a1, a2, a3, a4, a5⟩ := cb_x hl.1 hl.2 e1
  obtain ⟨u2, b1, b2, b3, b4, b5⟩ := rb_x e2
  obtain ⟨c1, c2⟩ := bg_x a2 a3 b2 b3
  have wr : ∀ q j : Nat, rng q j → u2.1 q j = w.1 q j := fun q j h => by
    have q2 : 65 ≤ q ∧ q ≤ 68 := by
      unfold rng at h
      omega
    exact b4 q j (by omega) (by omega) (by omega)
  obtain ⟨n, a, c, v', w', g1, g2, g3, g4, g5, g6, g7, g8, g9⟩ := side (S := 0) (by omega) (by omega) hP hp hD hb6 a2 c1 (c2 0 (by omega)) (by omega) (fun q j hq => (a4 q j (Or.inl hq)).trans (hv q j hq)) (fun q j h => (wr q j h).trans (hw q j h)) (f1 u1 a1) (f2 u2 b1)
  obtain ⟨r1, r2, r3, r4, r5, r6, r7, r8, r9, r10, r11⟩ := g9
  refine ⟨n, a, c, v', w', g1, g2, g3, g4, g5, g6, ⟨g7, fun r hr => ?_⟩, by omega, fun P j hP => (r2 P j (by omega) (by omega)).trans (a4 P j (by omega)), r3.trans a5, fun P j h => (r4 P j h).trans (b4 P j (by omega) (by omega) (by omega)), fun j hj => (r6 j hj).trans (b4 64 j (by omega) (by omega) (fun z => hj z.2)), r11.trans b5⟩
  exact sv_r (n := 6) r1 hr (fun k hk => r7 _ (by omega)) ((c2 1 (by omega)).2 r hr)
theorem op_eff (hI : lw_I xs H) (hw : vw v H) (hR : Rp v) (hK : RK v) (hf : ∀ q j : Nat, rng q j → v1.1 q j = v.1 q j) {n b w1 w2 : Int32} (e1 : vE 128 0 [.ref 2, .int n, .int b, .ref 93, .retAddr 0] [] v (vr w1 v1)) (e2 : vE 198 0 [.ref 64, .int n, .int b] [] v1 (vr w2 v2)) : v2.1 64 0 = w1 ∧ (w1 = 0 → v2.2.1 93 0 = w2.toInt64) := by
  obtain ⟨⟨c, c1, c2, c3⟩, ⟨d, d1, d2, d3⟩⟩ := Rc_cnt hI hw hR.1.1
  have hl := vlen hI hw
  have hz : ∀ (u : vm_V) (z : Int32), (vm_si u 64 0 z).1 64 0 = z := fun u z => si_s
  simp only [q128_0, q128_1, q128_2, q128_3, q128_4, q128_5, q129_0, q129_1, q129_2, ct18, exists_eq_left] at e1
  simp only [q198_0, q198_1, q198_2, q198_3, q198_4, ct152, exists_eq_left, vB_r, Nat.reduceAdd, q198_7] at e2
  -- where the block is there
  have main : ∀ p P : Nat, n = Int32.ofNat P → (P = 0 ∧ p = 3 ∨ P = 1 ∧ p = 7) → (if n = 0 then va 3 v else if n = 1 then va 7 v else vt 10 v : vm_Y) = va p v → v2.1 64 0 = w1 ∧ (w1 = 0 → v2.2.1 93 0 = w2.toInt64) := fun p P hn hp hy => by
    subst hn
    have hP : P < 2 := by omega
    have hp19 : p + 3 < 19 := by omega
    obtain ⟨cc, hD⟩ := prD_of hI hw hR hK hp
    have hb := hb_ib (v := v) (w := v1) (p := p) (nn := P) (b := b) hD.1 hD.2.1 hP ((hf 65 P (by unfold rng; omega)).trans hD.2.2.1)
    rw [hy] at e1
    simp only [vB_a, Nat.reduceAdd, q129_5, q129_6, q129_7, q129_8, ct25, exists_eq_left] at e1
    by_cases q : c_hasBlock v p b = 0
    · rw [if_pos (hb.mp q)] at e2
      simp only [q198_14, q198_15, q198_18, q198_19, q198_22, hz] at e2
      rw [if_neg (show ¬ (1 : Int32) ≤ 0 from by decide)] at e2
      simp only [q198_25, q198_26] at e2
      obtain ⟨_, rfl⟩ := vr_inj e2
      simp only [if_pos q, qt129, exists_eq_left, qh128_5_10, q128_13, q128_15, q128_16] at e1
      obtain ⟨rfl, _⟩ := vr_inj e1
      exact ⟨hz _ _, fun z => absurd z i10⟩
    · obtain ⟨bn, n1, rfl⟩ := hb_nat (p := p) hD.2.1 hD.1 q
      rw [if_neg (fun z => q (hb.mpr z))] at e2
      simp only [q198_10, q198_11, q198_15, q198_18, q198_19, q198_22, hz] at e2
      rw [if_pos (show (0 : Int32) ≤ 0 from by decide)] at e2
      simp only [q198_27, q198_28] at e2
      obtain ⟨y2, r1, r2⟩ := e2
      simp only [if_neg q, vB_d, Nat.reduceAdd, q129_11, q129_12, q129_15, q129_16, q129_17, q130_0, q130_1, q130_4] at e1
      obtain ⟨z1, ⟨z2, ⟨y1, s1, s2⟩, s3⟩, s4⟩ := e1
      have b6 := hD.1
      -- the class's side
      obtain ⟨u1, a1, a2, a3, a4, a5⟩ := cb_x hl.1 hl.2 s1
      subst a1
      simp only [vB_d, Nat.reduceAdd, q130_7, q130_8, q130_11, q130_12, q130_15, q130_16, q130_17] at s2
      obtain ⟨x1, t1, t2⟩ := s2
      obtain ⟨u2, b1, b2, b3, b4, b5⟩ := rb_x r1
      subst b1
      have P0 : (Int32.ofNat 0) = 0 := rfl
      simp only [vB_d, Nat.reduceAdd, q198_31, q198_32, q198_33, q198_34, q198_35] at r2
      obtain ⟨x2, t3, t4⟩ := r2
      obtain ⟨m, am, cm, v', w', g1, g2, g3, g4, g5, g6, g7, g8, g9, g10, g11, g12, g13⟩ := one (x1 := x1) (x2 := x2) hP hp19 hD (show bn < 6 by omega) hl (fun _ _ _ => rfl) (fun q j h => by
        rw [vm_si1b, if_neg (by unfold rng at h; omega)]
        exact hf q j h) s1 r1 (fun u hu => by
        have := vd_inj hu
        subst this
        exact t1) (fun u hu => by
        have := vd_inj hu
        subst this
        exact t3)
      subst g1 g2
      simp only [vB_d, Nat.reduceAdd, q130_20, q130_21, q130_24, ct131, c_cE, exists_eq_left, vB_r, q130_27] at t2
      subst t2
      simp only [vB_r, Nat.reduceAdd, q129_20] at s3
      subst s3
      simp only [vB_r, Nat.reduceAdd, q128_8, q128_9, q128_10, q128_17, q128_18] at s4
      obtain ⟨rfl, rfl⟩ := vr_inj s4
      simp only [vB_d, Nat.reduceAdd, q198_38, q198_39, q198_42, q198_43, q198_44] at t4
      obtain ⟨rfl, rfl⟩ := vr_inj t4
      refine ⟨(g12 0 (by omega)).trans (hz _ _), fun _ => ?_⟩
      rw [g13]
      show (vm_sl v' 93 (0 : Int32).toNatClampNeg _).2.1 93 (0 : Int32).toNatClampNeg = _
      rw [vm_sl2]
      refine congrArg Int32.toInt64 ?_
      exact g5.2.1.1.trans g5.2.1.2.1.symm
  by_cases h0 : n = 0
  · exact main 3 0 h0 (Or.inl ⟨rfl, rfl⟩) (if_pos h0)
  · by_cases h1 : n = 1
    · exact main 7 1 h1 (Or.inr ⟨rfl, rfl⟩) (by rw [if_neg h0, if_pos h1])
    · simp only [if_neg h0, if_neg h1, qt129, exists_eq_left, qh128_5_10, q128_13, q128_15, q128_16] at e1
      obtain ⟨rfl, _⟩ := vr_inj e1
      rw [if_pos (ib_out h0 h1)] at e2
      simp only [q198_14, q198_15, q198_18, q198_19, q198_22, hz] at e2
      rw [if_neg (show ¬ (1 : Int32) ≤ 0 from by decide)] at e2
      simp only [q198_25, q198_26] at e2
      obtain ⟨_, rfl⟩ := vr_inj e2
      exact ⟨hz _ _, fun z => absurd z i10⟩
end EQ
