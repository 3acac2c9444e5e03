/-! one instruction: all operations -/
section EN
variable {v w v' w' v0 : vm_V} {x x1 x2 : vm_Y}
theorem nt_v7 {n a l r o c : Nat} (hV : VI n a v) (hr : r < n) (hc : v.1 o 4 = Int32.ofNat c) (h8 : c ≤ 8) (e : vE 92 0 [.ref o, .ref 19, .int 7, .int (Int32.ofNat l), .int (Int32.ofNat r)] [] v x) : ∃ v1 : vm_V, x = vd v1 := by
  obtain ⟨T1, T2⟩ := nt_7 hV hr hc h8 e
  by_cases t : (∀ k : Nat, k < 23 → 1 ≤ k → v.1 (21 + r) k = 0) ∧ ¬ v.1 (21 + r) 0 = 0
  · exact ⟨v, T2 t⟩
  · rcases T1 t with ⟨_, g⟩ | ⟨_, g⟩
    · exact ⟨v, g⟩
    · exact ⟨_, g⟩
theorem nt_v8 {n a l o c st : Nat} {B : Int32} (hV : VI n a v) (hl : l < n) (hc : v.1 o 4 = Int32.ofNat c) (h8 : c ≤ 8) (hs : v.1 o 5 = Int32.ofNat st) (e : vE 92 0 [.ref o, .ref 19, .int 8, .int (Int32.ofNat l), .int B] [] v x) : ∃ v1 : vm_V, x = vd v1 := by
  obtain ⟨T1, T2⟩ := nt_8 hV hl hc h8 hs e
  by_cases t : unS v l
  · rcases T1 t with ⟨_, g⟩ | ⟨_, g⟩
    · exact ⟨v, g⟩
    · exact ⟨_, g⟩
  · exact ⟨v, T2 t⟩
/-- the class: behind noteEffect, where it is no CONSTANT -/
theorem cA {o p b i : Nat} {K A B : Int32} {L4 l7 l10 : Value} (hK : ¬ K = 0) (e : vB 90 102 [.ref o, .ref 19, .ref p, .int (Int32.ofNat b), L4, .int (Int32.ofNat i), .int K, l7, .int A, .int B, l10] [] (vd v) x) : ∃ y : vm_Y, vE 103 0 [.ref o, .ref 19, .int K, .int A, .int B, .retAddr 0] [] v y ∧ ∀ (s : Nat) (v' : vm_V), y = vr (Int32.ofNat s) v' → vE 90 130 [.ref o, .ref 19, .ref p, .int (Int32.ofNat b), L4, .int (Int32.ofNat i), .int K, l7, .int A, .int B, l10] [.int (Int32.ofNat s)] v' x := by
  simp only [vB_d, Nat.reduceAdd, q90_105, q90_107] at e
  rw [if_neg hK] at e
  simp only [q90_119, q90_120, q90_121, q90_123, q90_125, q90_127] at e
  obtain ⟨y, e1, e2⟩ := e
  refine ⟨y, e1, fun s v' hy => ?_⟩
  subst hy
  simpa only [vB_r, Nat.reduceAdd] using e2
/-- the class: behind noteEffect, a CONSTANT -/
theorem cZ {o p b i : Nat} {Y : Int32} {L4 l8 l9 l10 : Value} (e : vB 90 102 [.ref o, .ref 19, .ref p, .int (Int32.ofNat b), L4, .int (Int32.ofNat i), .int (Int32.ofNat 0), .int Y, l8, l9, l10] [] (vd v) x) : ∃ y : vm_Y, vE 100 0 [.ref 19, .int Y] [] v y ∧ ∀ (s : Nat) (v' : vm_V), y = vr (Int32.ofNat s) v' → vE 90 130 [.ref o, .ref 19, .ref p, .int (Int32.ofNat b), L4, .int (Int32.ofNat i), .int (Int32.ofNat 0), .int Y, l8, l9, l10] [.int (Int32.ofNat s)] v' x := by
  simp only [vB_d, Nat.reduceAdd, q90_105, q90_107] at e
  rw [if_pos (show Int32.ofNat 0 = 0 from rfl)] at e
  simp only [q90_110, q90_111, q90_113] at e
  obtain ⟨y, e1, e2⟩ := e
  refine ⟨y, e1, fun s v' hy => ?_⟩
  subst hy
  simpa only [vB_r, Nat.reduceAdd, q90_116] using e2
theorem rB0 {L : List Value} {w1 : vm_V} (e : vE 181 181 L [] w1 x) : ∀ w' : vm_V, vd w1 = vd w' → vE 181 181 L [] w' x := fun w' h => by
  have := vd_inj h
  subst this
  exact e
theorem rB7 {l0 l1 l2 l3 l4 l5 l6 : Value} {y : vm_Y} (e : vB 181 150 [l0, l1, l2, l3, l4, l5, l6] [] y x) : ∀ w' : vm_V, y = vd w' → vE 181 181 [l0, l1, l2, l3, l4, l5, l6] [] w' x := fun w' h => by
  subst h
  simpa only [vB_d, Nat.reduceAdd, q181_153] using e
theorem rB8 {l0 l1 l2 l3 l4 l5 l6 : Value} {y : vm_Y} (e : vB 181 166 [l0, l1, l2, l3, l4, l5, l6] [] y x) : ∀ w' : vm_V, y = vd w' → vE 181 181 [l0, l1, l2, l3, l4, l5, l6] [] w' x := fun w' h => by
  subst h
  simpa only [vB_d, Nat.reduceAdd, q181_169] using e
theorem rBc {l0 l1 l2 l3 l4 l5 l6 : Value} {y : vm_Y} (e : vB 181 178 [l0, l1, l2, l3, l4, l5, l6] [] y x) : ∀ w' : vm_V, y = vd w' → vE 181 181 [l0, l1, l2, l3, l4, l5, l6] [] w' x := fun w' h => by
  subst h
  simpa only [vB_d, Nat.reduceAdd] using e
theorem nat10 {k m : Nat} (hk : k < 10) (hm : m < 10) (h : k ≠ m) : ¬ Int32.ofNat k = Int32.ofNat m := fun z => h (on_inj (by omega) (by omega) z)
theorem rB_n {k : Nat} (hk : k < 10) : (k = 0 ∨ k = 1 ∨ k = 8) ∧ r_readsB w (Int32.ofNat k) = 0 ∨ ¬ (k = 0 ∨ k = 1 ∨ k = 8) ∧ ¬ r_readsB w (Int32.ofNat k) = 0 := by
  have : k = 0 ∨ k = 1 ∨ k = 2 ∨ k = 3 ∨ k = 4 ∨ k = 5 ∨ k = 6 ∨ k = 7 ∨ k = 8 ∨ k = 9 := by omega
  unfold r_readsB
  rcases this with rfl | rfl | rfl | rfl | rfl | rfl | rfl | rfl | rfl | rfl <;> decide
theorem sp_x {n a o S c st p P cc b i : Nat} {L4 l6 l7 l8 l9 l10 : Value} (h : ST n a v w o S c st) (ho : 48 < o ∧ o + 4 < 64) (hS : S < 2) (hn : n < 22) (h8 : c < 8) (hP : P < 2) (hp : p + 3 < 19) (hD : prD p P cc v0) (hv : ∀ q j : Nat, q < 19 → v.1 q j = v0.1 q j) (hw : ∀ j : Nat, j < 384 → w.1 67 j = v0.1 67 j) (hb : b < cc) (hi : i < 8) (e1 : vE 90 52 [.ref o, .ref 19, .ref p, .int (Int32.ofNat b), L4, .int (Int32.ofNat i), l6, l7, l8, l9, l10] [] v x1) (e2 : vE 181 0 [.ref 64, .int (Int32.ofNat S), .int (Int32.ofNat (192 * P + 4 * (8 * b + i))), .retAddr 0, .retAddr 0, .retAddr 0, .retAddr 0] [] w x2) : NX n a v w o S c p b i L4 x1 x2 := by
  obtain ⟨d1, d2, d3, d4, d5, d6, d7, d8⟩ := hD
  obtain ⟨hV, hA, hO, hL, h5, h78⟩ := h
  have h : ST n a v w o S c st := ⟨hV, hA, hO, hL, h5, h78⟩
  have n22 := hV.2.2.2.1
  obtain ⟨K, d, aa, o1, o2, o3, o4, o5, o6, o7⟩ := d7 (8 * b + i) (by omega)
  have hq : 192 * P + 4 * (8 * b + i) + 3 < 1000 := by omega
  have w0 := (hw (192 * P + 4 * (8 * b + i)) (by omega)).trans o4
  have w1 := (hw (192 * P + 4 * (8 * b + i) + 1) (by omega)).trans o5
  have w2 := (hw (192 * P + 4 * (8 * b + i) + 2) (by omega)).trans o6
  have w3 := hw (192 * P + 4 * (8 * b + i) + 3) (by omega)
  have cf : ∀ u : vm_V, (∀ q j : Nat, q < 19 → u.1 q j = v0.1 q j) → ∀ f : Nat, f < 4 → c_codeAt u p (Int32.ofNat b) (Int32.ofNat i) (Int32.ofNat f) = v0.1 67 (192 * P + 4 * (8 * b + i) + f) := fun u hu f hf => by
    rw [pu_code ((hu p 3 (by omega)).trans d2) d1 hb hi hf, hu _ _ (by omega), d5 _ (by omega), show 192 * P + (32 * b + 4 * i + f) = 192 * P + 4 * (8 * b + i) + f by omega]
  have c0 : c_codeAt v p (Int32.ofNat b) (Int32.ofNat i) 0 = Int32.ofNat K := (cf v hv 0 (by omega)).trans o4
  have c2 : c_codeAt v p (Int32.ofNat b) (Int32.ofNat i) 2 = Int32.ofNat aa := (cf v hv 2 (by omega)).trans o6
  have c3 : c_codeAt v p (Int32.ofNat b) (Int32.ofNat i) 3 = v0.1 67 (192 * P + 4 * (8 * b + i) + 3) := cf v hv 3 (by omega)
  obtain ⟨l, hl, l2, l3⟩ := hO.1 aa o3
  have va : c_ovin v o (Int32.ofNat aa) = Int32.ofNat l := (ovin_n o3).trans l2
  simp only [q90_52, q90_53, q90_54, q90_56, q90_57, ct47, exists_eq_left, vB_r, Nat.reduceAdd, q90_60, q90_62, q90_63, q90_64, q90_66, q90_67, q90_70, q90_72, q90_73, q90_74, q90_75, q90_77, q90_78, q90_81, ct91, q90_84, q90_86, q90_87, q90_89, q90_92, q90_94, q90_95, q90_96, q90_98, q90_100, q90_102, c0, c2, c3, va] at e1
  obtain ⟨y0, a1, b1⟩ := e1
  have wt : ∀ v' w' : vm_V, ¬ K = 9 → GF o S n v w v' w' → c_writtenAt v' p (Int32.ofNat b) (Int32.ofNat i) = Int32.ofNat d ∧ w'.1 67 (192 * P + 4 * (8 * b + i) + 1) = Int32.ofNat d := fun v' w' h9 hG => by
    have hv' : ∀ q j : Nat, q < 19 → v'.1 q j = v0.1 q j := fun q j hq => (hG.2.1 q j (Or.inl hq) (by omega)).trans (hv q j hq)
    refine ⟨?_, (hG.2.2.2.1 67 _ (by omega)).trans w1⟩
    unfold c_writtenAt c_writes
    have e0 : c_codeAt v' p (Int32.ofNat b) (Int32.ofNat i) 0 = Int32.ofNat K := (cf v' hv' 0 (by omega)).trans o4
    have e1 : c_codeAt v' p (Int32.ofNat b) (Int32.ofNat i) 1 = Int32.ofNat d := (cf v' hv' 1 (by omega)).trans o5
    rw [e0, e1, if_neg (show ¬ Int32.ofNat K = 9 from nat10 (m := 9) o1 (by omega) h9), if_neg i10]
  by_cases k0 : K = 0
  · subst k0
    rw [pf_0 (jj := 0) hS hq o3 (by omega) w0 w2 (if_pos (by unfold r_readsB; decide))] at e2
    have y0e := (nt_o (show ¬ Int32.ofNat 0 = 9 from by decide) (by decide) (by decide)).mp a1
    subst y0e
    obtain ⟨y1, a2, b2⟩ := cZ b1
    simp only [q181_57, q181_58, q181_60] at e2
    rw [if_neg (show ¬ Int32.ofNat 0 = 9 from by decide)] at e2
    simp only [q181_93, q181_94] at e2
    rw [if_pos (show Int32.ofNat 0 = 0 from rfl)] at e2
    have n3 : (Int32.ofNat (192 * P + 4 * (8 * b + i)) + 3).toNatClampNeg = 192 * P + 4 * (8 * b + i) + 3 := by rw [show (3 : Int32) = Int32.ofNat 3 from rfl, nn_add, nn_nat (by omega)]
    simp only [q181_97, q181_98, q181_101, q181_102, q181_103, q181_106, q181_107, q181_108, q181_109, q181_110, Nat.reduceAdd, n3, w3, s0e, exists_eq_left, vB_d, q181_113] at e2
    have J : JR n a v w y1 (vd (v_up 77 0 24 (fun k => if k = 0 then v0.1 67 (192 * P + 4 * (8 * b + i) + 3) else 0) w)) := jk hA (mk_num hV hn a2) rfl (fun k _ => rfl) rfl
    exact nx_i (c1 := c) ho hS o2 hq (Nat.le_succ c) (ir_j h ho J) (fun v' w' hG => wt v' w' (by omega) hG) b2 (rB0 e2)
  · obtain ⟨yy, y1, y2⟩ := o7 k0
    obtain ⟨r, hr, r2, r3⟩ := hO.1 yy y1
    have vy : c_ovin v o (v0.1 67 (192 * P + 4 * (8 * b + i) + 3)) = Int32.ofNat r := by
      rw [y2, ovin_n y1]
      exact r2
    rw [vy] at a1 b1
    have kk : ¬ Int32.ofNat K = 0 := nat10 (m := 0) o1 (by omega) k0
    have jx : ∃ jj : Nat, jj < 6 ∧ (if r_readsB w (Int32.ofNat K) = 0 then 0 else w.1 67 (192 * P + 4 * (8 * b + i) + 3)) = Int32.ofNat jj ∧ (¬ (K = 0 ∨ K = 1 ∨ K = 8) → jj = yy) := by
      rcases rB_n (w := w) o1 with ⟨z1, z2⟩ | ⟨z1, z2⟩
      · exact ⟨0, by omega, by rw [if_pos z2]; rfl, fun z => absurd z1 z⟩
      · exact ⟨yy, y1, by rw [if_neg z2, w3, y2], fun _ => rfl⟩
    obtain ⟨jj, j1, j2, j3⟩ := jx
    rw [pf_0 hS hq o3 j1 w0 w2 j2] at e2
    simp only [q181_57, q181_58, q181_60] at e2
    by_cases k9 : K = 9
    · subst k9
      rw [if_pos (show Int32.ofNat 9 = 9 from rfl)] at e2
      obtain rfl : jj = yy := j3 (by omega)
      have y0e := (nt_9 hO.2.1.1 h8 h5).mp (show vE 92 0 [.ref o, .ref 19, .int 9, .int (Int32.ofNat l), .int (Int32.ofNat r)] [] v y0 from a1)
      subst y0e
      obtain ⟨g1, g2⟩ := ji_9 (S := S) (i := 144 * S + 24 * aa) (j := 144 * S + 24 * jj) h ho h8 hl hr l3 r3
      obtain ⟨yc, a2, b2⟩ := cA kk b1
      have yce := cm_x (Or.inr rfl) g1.1 hn hl hr (show vE 103 0 [.ref o, .ref 19, .int 9, .int (Int32.ofNat l), .int (Int32.ofNat r), .retAddr 0] [] _ yc from a2)
      have fin := ct_t (b2 l _ yce)
      have hv' : ∀ q j : Nat, q < 19 → (vm_si (v_ae o 9 (Int32.ofNat l) (Int32.ofNat r) c v) o 5 (Int32.ofNat (st + 1))).1 q j = v0.1 q j := fun q j hq => (g2.2.1 q j (Or.inl hq) (by omega)).trans (hv q j hq)
      have wn : c_writtenAt (vm_si (v_ae o 9 (Int32.ofNat l) (Int32.ofNat r) c v) o 5 (Int32.ofNat (st + 1))) p (Int32.ofNat b) (Int32.ofNat i) = -1 := by
        unfold c_writtenAt c_writes
        have e0 : c_codeAt (vm_si (v_ae o 9 (Int32.ofNat l) (Int32.ofNat r) c v) o 5 (Int32.ofNat (st + 1))) p (Int32.ofNat b) (Int32.ofNat i) 0 = Int32.ofNat 9 := (cf _ hv' 0 (by omega)).trans o4
        rw [e0, if_pos (show Int32.ofNat 9 = 9 from rfl), if_pos rfl]
      have wn2 : c_owr (vm_si (v_ae o 9 (Int32.ofNat l) (Int32.ofNat r) c v) o 5 (Int32.ofNat (st + 1))) o (-1) (Int32.ofNat l) = vm_si (v_ae o 9 (Int32.ofNat l) (Int32.ofNat r) c v) o 5 (Int32.ofNat (st + 1)) := by
        unfold c_owr
        rw [if_pos (show c_isReg _ (-1) = 0 from by unfold c_isReg; decide)]
      rw [wn, wn2] at fin
      have c8 : ∀ y : vm_Y, vE 182 0 [.ref 64, .int (Int32.ofNat S), .int 9, .ref 72, .int (Int32.ofNat (144 * S + 24 * aa)), .ref 72, .int (Int32.ofNat (144 * S + 24 * jj)), .retAddr 0] [] w y ↔ y = vd (w_ef S 9 72 (144 * S + 24 * aa) 72 (144 * S + 24 * jj) c w) := fun y => ct182 hO.2.1.2.1 hS h8 (by omega) (by omega) (by omega) (by omega)
      have z78 : (w_ef S 9 72 (144 * S + 24 * aa) 72 (144 * S + 24 * jj) c w).1 78 0 = Int32.ofNat st := by
        rw [w_efo (by omega) (by omega) (by omega) (by omega)]
        have := h78 0 (by omega)
        rw [if_pos rfl] at this
        exact this
      simp only [q181_63, q181_64, q181_65, q181_67, q181_68, q181_71, q181_73, q181_74, q181_77, q181_79, Nat.reduceAdd, c8, exists_eq_left, vB_d, q181_82, q181_83, q181_86, q181_87, q181_88, q181_89, q181_90, q181_91, q181_92, show (0 : Int32).toNatClampNeg = 0 from rfl, z78, nn_s] at e2
      exact ⟨n, a, c + 1, st + 1, _, _, _, _, _, _, _, fin, e2, g1, Nat.le_refl n, Nat.le_succ n, Nat.le_refl _, g2⟩
    · rw [if_neg (show ¬ Int32.ofNat K = 9 from nat10 (m := 9) o1 (by omega) k9)] at e2
      simp only [q181_93, q181_94] at e2
      rw [if_neg kk] at e2
      simp only [q181_116, q181_117, q181_118] at e2
      by_cases k1 : K = 1
      · subst k1
        rw [if_pos (show Int32.ofNat 1 = 1 from rfl)] at e2
        have y0e := (nt_o (show ¬ Int32.ofNat 1 = 9 from by decide) (by decide) (by decide)).mp a1
        subst y0e
        obtain ⟨yc, a2, b2⟩ := cA kk b1
        have yce := cm_x (Or.inl rfl) hV hn hl hr (show vE 103 0 [.ref o, .ref 19, .int 1, .int (Int32.ofNat l), .int (Int32.ofNat r), .retAddr 0] [] _ yc from a2)
        simp only [q181_121, q181_122, q181_125, q181_127, q181_128, q181_131, q181_132, Nat.reduceAdd, m0e (show 144 * S + 24 * aa < 1000 by omega), exists_eq_left, vB_d, q181_135] at e2
        have J : JR n a v w yc (vd (v_up 77 0 24 (fun k => w.1 72 (144 * S + 24 * aa + k)) w)) := jm hV hA hl yce rfl (fun k hk => l3 k hk)
        exact nx_i (c1 := c) ho hS o2 hq (Nat.le_succ c) (ir_j h ho J) (fun v' w' hG => wt v' w' (by omega) hG) b2 (rB0 e2)
      · rw [if_neg (show ¬ Int32.ofNat K = 1 from nat10 (m := 1) o1 (by omega) k1)] at e2
        simp only [q181_138, q181_139, q181_141] at e2
        by_cases k7 : K = 7
        · subst k7
          rw [if_pos (show Int32.ofNat 7 = 7 from rfl)] at e2
          obtain rfl : jj = yy := j3 (by omega)
          simp only [q181_144, q181_145, q181_146, q181_148, q181_150] at e2
          obtain ⟨yr, a3, b3⟩ := e2
          have a1 := (show vE 92 0 [.ref o, .ref 19, .int 7, .int (Int32.ofNat l), .int (Int32.ofNat r)] [] v y0 from a1)
          obtain ⟨v1, y0e⟩ := nt_v7 hV hr hO.2.1.1 (by omega) a1
          subst y0e
          obtain ⟨yc, a2, b2⟩ := cA kk b1
          obtain ⟨c', c1, c2, I⟩ := ji_7 (x1 := yc) (x2 := yr) h ho hS hn h8 hl hr (show 144 * S + 24 * aa < 1000 by omega) (show 144 * S + 24 * jj < 1000 by omega) l3 r3 a1 (fun v2 hv2 => by
            have := vd_inj hv2
            subst this
            exact a2) a3
          exact nx_i (c1 := c') ho hS o2 hq c2 I (fun v' w' hG => wt v' w' (by omega) hG) b2 (rB7 b3)
        · rw [if_neg (show ¬ Int32.ofNat K = 7 from nat10 (m := 7) o1 (by omega) k7)] at e2
          simp only [q181_156, q181_157, q181_159] at e2
          by_cases k8 : K = 8
          · subst k8
            rw [if_pos (show Int32.ofNat 8 = 8 from rfl)] at e2
            simp only [q181_162, q181_163, q181_164, q181_166] at e2
            obtain ⟨yr, a3, b3⟩ := e2
            have a1 := (show vE 92 0 [.ref o, .ref 19, .int 8, .int (Int32.ofNat l), .int (Int32.ofNat r)] [] v y0 from a1)
            obtain ⟨v1, y0e⟩ := nt_v8 hV hl hO.2.1.1 (by omega) h5 a1
            subst y0e
            obtain ⟨yc, a2, b2⟩ := cA kk b1
            obtain ⟨c', c1, c2, I⟩ := ji_8 (x1 := yc) (x2 := yr) h ho hS hn h8 hl hr (show 144 * S + 24 * aa < 1000 by omega) l3 a1 (fun v2 hv2 => by
              have := vd_inj hv2
              subst this
              exact a2) a3
            exact nx_i (c1 := c') ho hS o2 hq c2 I (fun v' w' hG => wt v' w' (by omega) hG) b2 (rB8 b3)
          · rw [if_neg (show ¬ Int32.ofNat K = 8 from nat10 (m := 8) o1 (by omega) k8)] at e2
            obtain rfl : jj = yy := j3 (by omega)
            simp only [q181_172, q181_173, q181_174, q181_176, q181_178] at e2
            obtain ⟨yr, a3, b3⟩ := e2
            have y0e := (nt_o (show ¬ Int32.ofNat K = 9 from nat10 (m := 9) o1 (by omega) k9) (show ¬ Int32.ofNat K = 7 from nat10 (m := 7) o1 (by omega) k7) (show ¬ Int32.ofNat K = 8 from nat10 (m := 8) o1 (by omega) k8)).mp a1
            subst y0e
            obtain ⟨yc, a2, b2⟩ := cA kk b1
            have J : JR n a v w yc yr := by
              have : K = 2 ∨ K = 3 ∨ K = 4 ∨ K = 5 ∨ K = 6 := by omega
              rcases this with rfl | rfl | rfl | rfl | rfl
              · exact jc_2 hV hn hA hl hr (show 144 * S + 24 * aa < 1000 by omega) (show 144 * S + 24 * jj < 1000 by omega) l3 r3 a2 a3
              · exact jc_3 hV hn hA hl hr (show 144 * S + 24 * aa < 1000 by omega) (show 144 * S + 24 * jj < 1000 by omega) l3 r3 a2 a3
              · exact jc_4 hV hn hA hl hr (show 144 * S + 24 * aa < 1000 by omega) (show 144 * S + 24 * jj < 1000 by omega) l3 r3 a2 a3
              · exact jc_5 hV hn hA hl hr (show 144 * S + 24 * aa < 1000 by omega) (show 144 * S + 24 * jj < 1000 by omega) l3 r3 a2 a3
              · exact jc_6 hV hn hA hl hr (show 144 * S + 24 * aa < 1000 by omega) (show 144 * S + 24 * jj < 1000 by omega) l3 r3 a2 a3
            exact nx_i (c1 := c) ho hS o2 hq (Nat.le_succ c) (ir_j h ho J) (fun v' w' hG => wt v' w' k9 hG) b2 (rBc b3)
end EN
