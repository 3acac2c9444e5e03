/-! both sides' values and atoms -/
section ED
variable {v w v' w' : vm_V} {x x1 x2 : vm_Y}
def rx (v : vm_V) (t k : Nat) : Int32 := if k < 23 then v.1 (21 + t) k else 0
/-- the reference's vector at (p, i) is the class's value t -/
def sv (v w : vm_V) (t p i : Nat) : Prop := ∀ k : Nat, k < 24 → w.1 p (i + k) = rx v t k
/-- it is the number z -/
def nv (w : vm_V) (z : Int32) (p i : Nat) : Prop := ∀ k : Nat, k < 24 → w.1 p (i + k) = if k = 0 then z else 0
def sm (w : vm_V) (p i q j : Nat) : Prop := ∀ k : Nat, k < 24 → w.1 p (i + k) = w.1 q (j + k)
theorem sv_eq {n a s t p i q j : Nat} (hV : VI n a v) (hs : s < n) (ht : t < n) (h1 : sv v w s p i) (h2 : sv v w t q j) : sm w p i q j ↔ s = t := by
  constructor
  · intro h
    refine hV.2.2.2.2.2.2.1 s t hs ht (fun k hk => ?_)
    have e1 := h1 k (by omega)
    have e2 := h2 k (by omega)
    have e3 := h k (by omega)
    unfold rx at e1 e2
    rw [if_pos hk] at e1 e2
    rw [← e1, ← e2]
    exact e3
  · intro h
    subst h
    exact fun k hk => (h1 k hk).trans (h2 k hk).symm
theorem num_eq {t p i : Nat} (h : sv v w t p i) : (∀ k : Nat, k < 24 → 1 ≤ k → w.1 p (i + k) = 0) ↔ ∀ k : Nat, k < 23 → 1 ≤ k → v.1 (21 + t) k = 0 := by
  constructor
  · intro q k hk h1
    have e := h k (by omega)
    unfold rx at e
    rw [if_pos hk] at e
    rw [← e]
    exact q k (by omega) h1
  · intro q k hk h1
    rw [h k hk]
    unfold rx
    by_cases e : k < 23
    · rw [if_pos e]
      exact q k e h1
    · rw [if_neg e]
theorem sv_0 {t p i : Nat} (h : sv v w t p i) : w.1 p i = v.1 (21 + t) 0 := by
  have e := h 0 (by omega)
  unfold rx at e
  rw [if_pos (by omega)] at e
  exact e
theorem bI_n {c : Prop} [Decidable c] : (if bI c = 0 then 0 else 1 : Int32) = bI c := by
  unfold bI
  by_cases h : c
  · rw [if_pos h, if_neg i10]
  · rw [if_neg h, if_pos rfl]
theorem vnum_n {n a t : Nat} (hV : VI n a v) (ht : t < n) : c_vnum v (Int32.ofNat t) = bI (∀ k : Nat, k < 23 → 1 ≤ k → v.1 (21 + t) k = 0) := by
  have h22 := hV.2.2.2.1
  unfold c_vnum
  rw [if_neg (nn_n0 (by omega)), if_neg (show ¬ (22 : Int32) ≤ Int32.ofNat t from nl (k := 22) (by omega) (by omega) (by omega)), nn_nat (by omega), hV.2.2.2.2.2.1 t ht]
  exact bI_n
theorem rx_x {n a n' a' t k : Nat} (h : VX n a v n' a' v') (ht : t < n) : rx v' t k = rx v t k := by
  unfold rx
  by_cases e : k < 23
  · rw [if_pos e, if_pos e]
    exact h.2.2.2.2.1 t k ht e
  · rw [if_neg e, if_neg e]
theorem sv_x {n a n' a' t p i : Nat} (h : VX n a v n' a' v') (ht : t < n) (hw : ∀ k : Nat, k < 24 → w'.1 p (i + k) = w.1 p (i + k)) (hs : sv v w t p i) : sv v' w' t p i := fun k hk => by
  rw [hw k hk, rx_x h ht]
  exact hs k hk
theorem nv_x {p i : Nat} {z : Int32} (hw : ∀ k : Nat, k < 24 → w'.1 p (i + k) = w.1 p (i + k)) (hs : nv w z p i) : nv w' z p i := fun k hk => (hw k hk).trans (hs k hk)
/-! atom, the reference's -/
def rM (w : vm_V) (K : Int32) (p i q j s : Nat) : Prop := w.1 69 s = K ∧ ((sm w 70 (24 * s) p i ∧ sm w 71 (24 * s) q j) ∨ ((K = 4 ∨ K = 5) ∧ sm w 70 (24 * s) q j ∧ sm w 71 (24 * s) p i))
theorem c24 (s : Nat) : (24 : Int32) * Int32.ofNat s = Int32.ofNat (24 * s) := nn_mul 24 s
theorem ra_l {a p i q j : Nat} {K tn : Int32} (ha : w.1 64 5 = Int32.ofNat a) (ha2 : a ≤ 22) (hi : i < 1000) (hj : j < 1000) (htn : tn = 0 ↔ ¬ (K = 4 ∨ K = 5)) : ∀ (m s : Nat), s + m = a → (∀ y : Nat, y < s → ¬ rM w K p i q j y) → vE 188 20 [.ref 64, .int K, .ref p, .int (Int32.ofNat i), .ref q, .int (Int32.ofNat j), .int tn, .int (Int32.ofNat s)] [] w x → (∃ s : Nat, s < a ∧ rM w K p i q j s ∧ (∀ y : Nat, y < s → ¬ rM w K p i q j y) ∧ x = vr (Int32.ofNat s) w) ∨ ((∀ s : Nat, s < a → ¬ rM w K p i q j s) ∧ vE 188 132 [.ref 64, .int K, .ref p, .int (Int32.ofNat i), .ref q, .int (Int32.ofNat j), .int tn, .int (Int32.ofNat a)] [] w x)
  | 0, s, h, hp, e => by
    rw [q188_20] at e
    simp only [q188_22, q188_23, q188_26, ha] at e
    rw [if_pos (by rw [show s = a by omega]; exact Int32.le_refl _), show s = a by omega] at e
    exact Or.inr ⟨fun y hy => hp y (by omega), e⟩
  | m + 1, s, h, hp, e => by
    have nx : ¬ rM w K p i q j s → vE 188 126 [.ref 64, .int K, .ref p, .int (Int32.ofNat i), .ref q, .int (Int32.ofNat j), .int tn, .int (Int32.ofNat s)] [] w x → (∃ s : Nat, s < a ∧ rM w K p i q j s ∧ (∀ y : Nat, y < s → ¬ rM w K p i q j y) ∧ x = vr (Int32.ofNat s) w) ∨ ((∀ s : Nat, s < a → ¬ rM w K p i q j s) ∧ vE 188 132 [.ref 64, .int K, .ref p, .int (Int32.ofNat i), .ref q, .int (Int32.ofNat j), .int tn, .int (Int32.ofNat a)] [] w x) := fun hno e => by
      simp only [q188_126, q188_129, nn_s] at e
      refine ra_l ha ha2 hi hj htn m (s + 1) (by omega) (fun y hy => ?_) e
      by_cases z : y = s
      · rw [z]
        exact hno
      · exact hp y (by omega)
    have s24 : 24 * s < 1000 := by omega
    rw [q188_20] at e
    simp only [q188_22, q188_23, q188_26, ha] at e
    rw [if_neg (nl (by omega) (by omega) (by omega))] at e
    simp only [q188_29, q188_30, q188_33, q188_35, q188_36, q188_37, Nat.reduceAdd, nn_nat (show s < 2147483648 by omega)] at e
    by_cases c1 : w.1 69 s = K
    · rw [if_pos c1] at e
      have go : ¬ (sm w 70 (24 * s) p i ∧ sm w 71 (24 * s) q j) → vE 188 82 [.ref 64, .int K, .ref p, .int (Int32.ofNat i), .ref q, .int (Int32.ofNat j), .int tn, .int (Int32.ofNat s)] [] w x → (∃ s : Nat, s < a ∧ rM w K p i q j s ∧ (∀ y : Nat, y < s → ¬ rM w K p i q j y) ∧ x = vr (Int32.ofNat s) w) ∨ ((∀ s : Nat, s < a → ¬ rM w K p i q j s) ∧ vE 188 132 [.ref 64, .int K, .ref p, .int (Int32.ofNat i), .ref q, .int (Int32.ofNat j), .int tn, .int (Int32.ofNat a)] [] w x) := fun hno e => by
        simp only [q188_82, q188_84] at e
        by_cases t0 : tn = 0
        · rw [if_pos t0] at e
          refine nx (fun z => ?_) e
          rcases z.2 with z | z
          · exact hno z
          · exact htn.mp t0 z.1
        · rw [if_neg t0] at e
          have hK : K = 4 ∨ K = 5 := Classical.not_not.mp (fun z => t0 (htn.mpr z))
          simp only [q188_87, q188_88, q188_91, q188_93, q188_95, q188_96, q188_98, q188_100, Nat.reduceAdd, c24, ct187 s24 hj, exists_eq_left, vB_r, q188_103] at e
          by_cases d2 : ∀ k : Nat, k < 24 → w.1 70 (24 * s + k) = w.1 q (j + k)
          · rw [if_neg (fun z => bI_z.mp z d2)] at e
            simp only [q188_106, q188_107, q188_110, q188_112, q188_114, q188_115, q188_116, q188_117, Nat.reduceAdd, c24, ct187 s24 hi, exists_eq_left, vB_r, q188_120] at e
            by_cases d3 : ∀ k : Nat, k < 24 → w.1 71 (24 * s + k) = w.1 p (i + k)
            · rw [if_neg (fun z => bI_z.mp z d3)] at e
              simp only [q188_123, q188_125] at e
              exact Or.inl ⟨s, by omega, ⟨c1, Or.inr ⟨hK, d2, d3⟩⟩, hp, e⟩
            · rw [if_pos (bI_z.mpr d3)] at e
              refine nx (fun z => ?_) e
              rcases z.2 with z | z
              · exact hno z
              · exact d3 z.2.2
          · rw [if_pos (bI_z.mpr d2)] at e
            refine nx (fun z => ?_) e
            rcases z.2 with z | z
            · exact hno z
            · exact d2 z.2.1
      simp only [q188_43, q188_44, q188_47, q188_49, q188_51, q188_52, q188_53, q188_54, Nat.reduceAdd, c24, ct187 s24 hi, exists_eq_left, vB_r, q188_57] at e
      by_cases c2 : ∀ k : Nat, k < 24 → w.1 70 (24 * s + k) = w.1 p (i + k)
      · rw [if_neg (fun z => bI_z.mp z c2)] at e
        simp only [q188_60, q188_61, q188_64, q188_66, q188_68, q188_69, q188_71, q188_73, Nat.reduceAdd, c24, ct187 s24 hj, exists_eq_left, vB_r, q188_76] at e
        by_cases c3 : ∀ k : Nat, k < 24 → w.1 71 (24 * s + k) = w.1 q (j + k)
        · rw [if_neg (fun z => bI_z.mp z c3)] at e
          simp only [q188_79, q188_81] at e
          exact Or.inl ⟨s, by omega, ⟨c1, Or.inl ⟨c2, c3⟩⟩, hp, e⟩
        · rw [if_pos (bI_z.mpr c3)] at e
          exact go (fun z => c3 z.2) e
      · rw [if_pos (bI_z.mpr c2)] at e
        exact go (fun z => c2 z.1) e
    · rw [if_neg c1] at e
      simp only [q188_40] at e
      exact nx (fun z => c1 z.1) e
def w_at (K : Int32) (p i q j a : Nat) (w : vm_V) : vm_V := vm_si (v_up 71 (24 * a) 24 (fun k => w.1 q (j + k)) (v_up 70 (24 * a) 24 (fun k => w.1 p (i + k)) (vm_si w 69 a K))) 64 5 (Int32.ofNat (a + 1))
theorem ra_new {a p i q j : Nat} {K : Int32} {l6 l7 : Value} (ha : w.1 64 5 = Int32.ofNat a) (ha2 : a < 22) (hp : 71 < p) (hq : 71 < q) (hi : i < 1000) (hj : j < 1000) (e : vE 188 132 [.ref 64, .int K, .ref p, .int (Int32.ofNat i), .ref q, .int (Int32.ofNat j), l6, l7] [] w x) : x = vr (Int32.ofNat a) (w_at K p i q j a w) := by
  have h1 : (vm_si w 69 a K).1 64 5 = Int32.ofNat a := by
    rw [vm_si1b, if_neg (by omega)]
    exact ha
  have s24 : 24 * a < 1000 := by omega
  simp only [q188_132, q188_133, q188_136, q188_137, q188_140, q188_141, ha, Nat.reduceAdd, nn_nat (show a < 2147483648 by omega), q188_142, q188_143, q188_144, q188_145, q188_148, q188_150, q188_151, h1, q188_154, c24, q188_155, ct183 (show p ≠ 70 by omega) hi s24, exists_eq_left, vB_d] at e
  have g1 : v_up 70 (24 * a) 24 (fun k => (vm_si w 69 a K).1 p (i + k)) (vm_si w 69 a K) = v_up 70 (24 * a) 24 (fun k => w.1 p (i + k)) (vm_si w 69 a K) := v_upc (fun k _ => by rw [vm_si1b, if_neg (by omega)])
  rw [g1] at e
  have h2 : (v_up 70 (24 * a) 24 (fun k => w.1 p (i + k)) (vm_si w 69 a K)).1 64 5 = Int32.ofNat a := by
    rw [v_upo (by omega)]
    exact h1
  simp only [q188_158, q188_160, q188_162, q188_163, q188_166, q188_168, q188_169, h2, q188_172, c24, q188_173, Nat.reduceAdd, ct183 (show q ≠ 71 by omega) hj s24, exists_eq_left, vB_d] at e
  have g2 : v_up 71 (24 * a) 24 (fun k => (v_up 70 (24 * a) 24 (fun k => w.1 p (i + k)) (vm_si w 69 a K)).1 q (j + k)) (v_up 70 (24 * a) 24 (fun k => w.1 p (i + k)) (vm_si w 69 a K)) = v_up 71 (24 * a) 24 (fun k => w.1 q (j + k)) (v_up 70 (24 * a) 24 (fun k => w.1 p (i + k)) (vm_si w 69 a K)) := v_upc (fun k _ => by rw [v_upo (by omega), vm_si1b, if_neg (by omega)])
  rw [g2] at e
  have h3 : (v_up 71 (24 * a) 24 (fun k => w.1 q (j + k)) (v_up 70 (24 * a) 24 (fun k => w.1 p (i + k)) (vm_si w 69 a K))).1 64 5 = Int32.ofNat a := by
    rw [v_upo (by omega)]
    exact h2
  simp only [q188_176, q188_177, q188_178, h3, q188_181, q188_182, q188_183, q188_186, q188_187, q188_190, q188_191, q188_192, nn_s] at e
  rw [show (vm_si (v_up 71 (24 * a) 24 (fun k => w.1 q (j + k)) (v_up 70 (24 * a) 24 (fun k => w.1 p (i + k)) (vm_si w 69 a K))) 64 5 (Int32.ofNat (a + 1))).1 64 5 = Int32.ofNat (a + 1) from by rw [vm_si1b, if_pos ⟨rfl, rfl⟩], show Int32.ofNat (a + 1) - 1 = Int32.ofNat a from by rw [← nn_s, Int32.add_sub_cancel]] at e
  exact e
theorem ra_x {a p i q j : Nat} {K : Int32} (ha : w.1 64 5 = Int32.ofNat a) (ha2 : a < 22) (hp : 71 < p) (hq : 71 < q) (hi : i < 1000) (hj : j < 1000) (e : vE 188 0 [.ref 64, .int K, .ref p, .int (Int32.ofNat i), .ref q, .int (Int32.ofNat j), .retAddr 0, .retAddr 0] [] w x) : (∃ s : Nat, s < a ∧ rM w K p i q j s ∧ (∀ y : Nat, y < s → ¬ rM w K p i q j y) ∧ x = vr (Int32.ofNat s) w) ∨ ((∀ s : Nat, s < a → ¬ rM w K p i q j s) ∧ x = vr (Int32.ofNat a) (w_at K p i q j a w)) := by
  have st : ∃ tn : Int32, (tn = 0 ↔ ¬ (K = 4 ∨ K = 5)) ∧ vE 188 20 [.ref 64, .int K, .ref p, .int (Int32.ofNat i), .ref q, .int (Int32.ofNat j), .int tn, .int (Int32.ofNat 0)] [] w x := by
    simp only [q188_0, q188_1, q188_2] at e
    by_cases k4 : K = 4
    · rw [if_pos k4] at e
      simp only [q188_10, q188_11, q188_15, q188_17, q188_18] at e
      exact ⟨1, ⟨fun z => absurd z i10, fun z => absurd (Or.inl k4) z⟩, e⟩
    · rw [if_neg k4] at e
      simp only [q188_5, q188_6, q188_7] at e
      by_cases k5 : K = 5
      · rw [if_pos k5] at e
        simp only [q188_10, q188_11, q188_15, q188_17, q188_18] at e
        exact ⟨1, ⟨fun z => absurd z i10, fun z => absurd (Or.inr k5) z⟩, e⟩
      · rw [if_neg k5] at e
        simp only [q188_14, q188_15, q188_17, q188_18] at e
        exact ⟨0, ⟨fun _ z => by rcases z with z | z; exact k4 z; exact k5 z, fun _ => rfl⟩, e⟩
  obtain ⟨tn, t1, e⟩ := st
  rcases ra_l ha (by omega) hi hj t1 a 0 (Nat.zero_add a) (fun y hy => absurd hy (Nat.not_lt_zero y)) e with h | ⟨h, e⟩
  · exact Or.inl h
  · exact Or.inr ⟨h, ra_new ha ha2 hp hq hi hj e⟩
/-- be -/
theorem ct189 {a : Nat} (ha : a < 22) : vE 189 0 [.ref 64, .int (Int32.ofNat a)] [] w x ↔ x = vd (v_up 77 0 24 (fun k => if k = 1 + a then 1 else 0) w) := by
  have e0 : vE 179 0 [.ref 77, .int 0, .int 0, .retAddr 0] [] w = vE 179 0 [.ref 77, .int (Int32.ofNat 0), .int 0, .retAddr 0] [] w := rfl
  simp only [q189_0, q189_1, q189_4, q189_5, q189_6, Nat.reduceAdd, e0, ct179 (show 0 < 1000 by omega), exists_eq_left, vB_d, q189_9, q189_10, q189_13, q189_14, q189_15, q189_16, q189_17, q189_18]
  rw [show (1 : Int32) + Int32.ofNat a = Int32.ofNat (1 + a) from nn_add 1 a, nn_nat (by omega)]
  rw [show vm_si (v_up 77 0 24 (fun k => if k = 0 then 0 else 0) w) 77 (1 + a) 1 = v_up 77 0 24 (fun k => if k = 1 + a then 1 else 0) w from by
    refine Prod.ext ?_ rfl
    funext P k
    rw [vm_si1b, v_up1, v_up1]
    by_cases h : P = 77 ∧ k = 1 + a
    · rw [if_pos h, if_pos (by omega), if_pos (by omega)]
    · rw [if_neg h]
      by_cases h2 : P = 77 ∧ 0 ≤ k ∧ k < 0 + 24
      · rw [if_pos h2, if_pos h2, ite_self, if_neg (by omega)]
      · rw [if_neg h2, if_neg h2]]
/-! atoms: both sides -/
def AE (n : Nat) (v w : vm_V) (i : Nat) : Prop := w.1 69 i = v.1 44 i ∧ (v.1 44 i = -1 ∨ ∃ l : Nat, l < n ∧ v.1 45 i = Int32.ofNat l ∧ ((v.1 44 i = 8 ∧ sv v w l 70 (24 * i) ∧ nv w (v.1 46 i) 71 (24 * i)) ∨ (¬ v.1 44 i = 8 ∧ ∃ r : Nat, r < n ∧ v.1 46 i = Int32.ofNat r ∧ ((sv v w l 70 (24 * i) ∧ sv v w r 71 (24 * i)) ∨ ((v.1 44 i = 4 ∨ v.1 44 i = 5) ∧ sv v w r 70 (24 * i) ∧ sv v w l 71 (24 * i))) ∧ ((v.1 44 i = 4 ∨ v.1 44 i = 5) → l ≤ r))))
def AR (n a : Nat) (v w : vm_V) : Prop := w.1 64 5 = Int32.ofNat a ∧ (∀ i : Nat, i < a → AE n v w i) ∧ ∀ i j : Nat, i < a → j < a → aM v (v.1 44 i) (v.1 45 i) (v.1 46 i) j → i = j
/-- what is asked for -/
def NE (n : Nat) (v w : vm_V) (K L R : Int32) (p i q j : Nat) : Prop := ¬ K = -1 ∧ ∃ l : Nat, l < n ∧ L = Int32.ofNat l ∧ ((K = 8 ∧ sv v w l p i ∧ nv w R q j) ∨ (¬ K = 8 ∧ ∃ r : Nat, r < n ∧ R = Int32.ofNat r ∧ ((sv v w l p i ∧ sv v w r q j) ∨ ((K = 4 ∨ K = 5) ∧ sv v w r p i ∧ sv v w l q j)) ∧ ((K = 4 ∨ K = 5) → l ≤ r)))
theorem AE_x {n a n' a' i : Nat} (h : VX n a v n' a' v') (hi : i < a) (h9 : w'.1 69 i = w.1 69 i) (h0 : ∀ k : Nat, k < 24 → w'.1 70 (24 * i + k) = w.1 70 (24 * i + k)) (h1 : ∀ k : Nat, k < 24 → w'.1 71 (24 * i + k) = w.1 71 (24 * i + k)) (hE : AE n v w i) : AE n' v' w' i := by
  obtain ⟨b1, b2, b3, b4, b5, b6, b7, b8⟩ := h
  have h : VX n a v n' a' v' := ⟨b1, b2, b3, b4, b5, b6, b7, b8⟩
  obtain ⟨c1, c2, c3, c4⟩ := b6 i hi
  unfold AE at hE ⊢
  rw [c1, c2, c3, h9]
  obtain ⟨e1, e2⟩ := hE
  refine ⟨e1, ?_⟩
  rcases e2 with e2 | ⟨l, l1, l2, e2⟩
  · exact Or.inl e2
  · refine Or.inr ⟨l, by omega, l2, ?_⟩
    rcases e2 with ⟨m1, m2, m3⟩ | ⟨m1, r, r1, r2, m2, m3⟩
    · exact Or.inl ⟨m1, sv_x h l1 h0 m2, nv_x h1 m3⟩
    · refine Or.inr ⟨m1, r, by omega, r2, ?_, m3⟩
      rcases m2 with ⟨m4, m5⟩ | ⟨m4, m5, m6⟩
      · exact Or.inl ⟨sv_x h l1 h0 m4, sv_x h r1 h1 m5⟩
      · exact Or.inr ⟨m4, sv_x h r1 h0 m5, sv_x h l1 h1 m6⟩
theorem on_inj {l m : Nat} (hl : l < 100) (hm : m < 100) (h : Int32.ofNat l = Int32.ofNat m) : l = m := (nn_eq (by omega) (by omega)).mp h
theorem am_rm {n a s p i q j : Nat} {K L R : Int32} (hV : VI n a v) (hE : AE n v w s) (hN : NE n v w K L R p i q j) : aM v K L R s ↔ rM w K p i q j s := by
  have n22 := hV.2.2.2.1
  obtain ⟨k1, l, l1, l2, hN⟩ := hN
  obtain ⟨e1, hE⟩ := hE
  constructor
  · rintro ⟨m1, m2, m3⟩
    refine ⟨e1.trans m1, ?_⟩
    rcases hE with hE | ⟨l0, g1, g2, hE⟩
    · exact absurd (m1.symm.trans hE) k1
    · obtain rfl : l0 = l := on_inj (by omega) (by omega) (g2.symm.trans (m2.trans l2))
      rcases hN with ⟨n1, n2, n3⟩ | ⟨n1, r, r1, r2, n2, n3⟩
      · rcases hE with ⟨h1, h2, h3⟩ | ⟨h1, _⟩
        · refine Or.inl ⟨(sv_eq hV l1 l1 h2 n2).mpr rfl, fun k hk => ?_⟩
          rw [h3 k hk, n3 k hk, m3]
        · exact absurd (m1.trans n1) h1
      · rcases hE with ⟨h1, _⟩ | ⟨h1, r0, r3, r4, h2, h3⟩
        · exact absurd (m1.symm.trans h1) n1
        · obtain rfl : r0 = r := on_inj (by omega) (by omega) (r4.symm.trans (m3.trans r2))
          rw [m1] at h2
          rcases h2 with ⟨h4, h5⟩ | ⟨h4, h5, h6⟩
          · rcases n2 with ⟨n4, n5⟩ | ⟨n4, n5, n6⟩
            · exact Or.inl ⟨(sv_eq hV l1 l1 h4 n4).mpr rfl, (sv_eq hV r1 r1 h5 n5).mpr rfl⟩
            · exact Or.inr ⟨n4, (sv_eq hV l1 l1 h4 n6).mpr rfl, (sv_eq hV r1 r1 h5 n5).mpr rfl⟩
          · rcases n2 with ⟨n4, n5⟩ | ⟨n4, n5, n6⟩
            · exact Or.inr ⟨h4, (sv_eq hV r1 r1 h5 n5).mpr rfl, (sv_eq hV l1 l1 h6 n4).mpr rfl⟩
            · exact Or.inl ⟨(sv_eq hV r1 r1 h5 n5).mpr rfl, (sv_eq hV l1 l1 h6 n6).mpr rfl⟩
  · rintro ⟨m1, m2⟩
    have m1 : v.1 44 s = K := e1.symm.trans m1
    refine ⟨m1, ?_⟩
    rcases hE with hE | ⟨l0, g1, g2, hE⟩
    · exact absurd (m1.symm.trans hE) k1
    · rw [m1] at hE
      rcases hN with ⟨n1, n2, n3⟩ | ⟨n1, r, r1, r2, n2, n3⟩
      · rcases hE with ⟨h1, h2, h3⟩ | ⟨h1, _⟩
        · rcases m2 with ⟨m3, m4⟩ | ⟨m3, _⟩
          · have := (sv_eq hV g1 l1 h2 n2).mp m3
            refine ⟨by rw [g2, this, l2], ?_⟩
            have z1 := h3 0 (by omega)
            have z2 := n3 0 (by omega)
            have z3 := m4 0 (by omega)
            rw [if_pos rfl] at z1 z2
            exact z1.symm.trans (z3.trans z2)
          · rw [n1] at m3
            exact absurd m3 (by decide)
        · exact absurd n1 h1
      · rcases hE with ⟨h1, _⟩ | ⟨h1, r0, r3, r4, h2, h3⟩
        · exact absurd h1 n1
        · have fin : l0 = l ∧ r0 = r := by
            rcases h2 with ⟨h4, h5⟩ | ⟨h4, h5, h6⟩
            · rcases n2 with ⟨n4, n5⟩ | ⟨n4, n5, n6⟩
              · rcases m2 with ⟨m3, m4⟩ | ⟨mk, m3, m4⟩
                · exact ⟨(sv_eq hV g1 l1 h4 n4).mp m3, (sv_eq hV r3 r1 h5 n5).mp m4⟩
                · have z1 := (sv_eq hV g1 r1 h4 n5).mp m3
                  have z2 := (sv_eq hV r3 l1 h5 n4).mp m4
                  have z3 := h3 mk
                  have z4 := n3 mk
                  omega
              · have z3 := h3 n4
                have z4 := n3 n4
                rcases m2 with ⟨m3, m4⟩ | ⟨mk, m3, m4⟩
                · have z1 := (sv_eq hV g1 r1 h4 n5).mp m3
                  have z2 := (sv_eq hV r3 l1 h5 n6).mp m4
                  omega
                · exact ⟨(sv_eq hV g1 l1 h4 n6).mp m3, (sv_eq hV r3 r1 h5 n5).mp m4⟩
            · have z3 := h3 h4
              have z4 := n3 h4
              rcases n2 with ⟨n4, n5⟩ | ⟨n4, n5, n6⟩
              · rcases m2 with ⟨m3, m4⟩ | ⟨mk, m3, m4⟩
                · have z1 := (sv_eq hV r3 l1 h5 n4).mp m3
                  have z2 := (sv_eq hV g1 r1 h6 n5).mp m4
                  omega
                · exact ⟨(sv_eq hV g1 l1 h6 n4).mp m4, (sv_eq hV r3 r1 h5 n5).mp m3⟩
              · rcases m2 with ⟨m3, m4⟩ | ⟨mk, m3, m4⟩
                · exact ⟨(sv_eq hV g1 l1 h6 n6).mp m4, (sv_eq hV r3 r1 h5 n5).mp m3⟩
                · have z1 := (sv_eq hV r3 l1 h5 n6).mp m3
                  have z2 := (sv_eq hV g1 r1 h6 n5).mp m4
                  omega
          exact ⟨by rw [g2, fin.1, l2], by rw [r4, fin.2, r2]⟩
/-- what the reference's values leave -/
def wF (w w' : vm_V) : Prop := (∀ P j : Nat, P ≠ 69 → P ≠ 70 → P ≠ 71 → P ≠ 77 → ¬ (P = 64 ∧ j = 5) → w'.1 P j = w.1 P j) ∧ w'.2 = w.2
theorem wF_rf : wF w w := ⟨fun _ _ _ _ _ _ _ => rfl, rfl⟩
theorem wF_tr {u : vm_V} (h1 : wF w w') (h2 : wF w' u) : wF w u := ⟨fun P j a b c d e => (h2.1 P j a b c d e).trans (h1.1 P j a b c d e), h2.2.trans h1.2⟩
/-- one atom, on both sides -/
theorem ja {n a p i q j : Nat} {K L R : Int32} (hV : VI n a v) (hn : n < 22) (hA : AR n a v w) (hp : 71 < p) (hq : 71 < q) (hi : i < 1000) (hj : j < 1000) (hN : NE n v w K L R p i q j) (e1 : vE 88 0 [.ref 19, .int K, .int L, .int R, .retAddr 0, .retAddr 0] [] v x1) (e2 : vE 188 0 [.ref 64, .int K, .ref p, .int (Int32.ofNat i), .ref q, .int (Int32.ofNat j), .retAddr 0, .retAddr 0] [] w x2) : ∃ (s c n' a' : Nat) (v' w' : vm_V), x1 = vr (Int32.ofNat s) v' ∧ x2 = vr (Int32.ofNat c) w' ∧ VI n' a' v' ∧ VX n a v n' a' v' ∧ AR n' a' v' w' ∧ s < n' ∧ c < a' ∧ (∀ k : Nat, k < 23 → v'.1 (21 + s) k = if k = 1 + c then 1 else 0) ∧ wF w w' ∧ (∀ P : Nat, P = 77 → ∀ k : Nat, w'.1 P k = w.1 P k) ∧ aM v' K L R c ∧ (∀ y : Nat, y < c → y < a → ¬ aM v K L R y) ∧ (a ≤ c → ∀ y : Nat, y < a → ¬ aM v K L R y) ∧ (∀ y : Nat, a ≤ y → y < a' → v'.1 44 y = K) ∧ (a' = a ∨ c = a) := by
  have a3 := hV.2.2.1
  obtain ⟨A1, A2, A3⟩ := hA
  have hm : ∀ s : Nat, s < a → (aM v K L R s ↔ rM w K p i q j s) := fun s hs => am_rm hV (A2 s hs) hN
  rcases mk_at hV hn e1 with ⟨c, s, c1, c2, c3, c4, c5, c6⟩ | ⟨c1, v', c2, c3, c4, c5, c6, c7, c8⟩
  · rcases ra_x A1 (by omega) hp hq hi hj e2 with ⟨d, d1, d2, d3, d4⟩ | ⟨d1, _⟩
    · have : d = c := by
        rcases Nat.lt_trichotomy d c with z | z | z
        · exact absurd ((hm d d1).mpr d2) (c3 d z)
        · exact z
        · exact absurd ((hm c c1).mp c2) (d3 c z)
      subst this
      exact ⟨s, d, n, a, v, w, c5, d4, hV, VX_rf, ⟨A1, A2, A3⟩, c4, c1, c6, wF_rf, fun _ _ _ => rfl, c2, fun y hy _ => c3 y hy, fun z => by omega, fun y h1 h2 => by omega, Or.inl rfl⟩
    · exact absurd ((hm c c1).mp c2) (d1 c c1)
  · rcases ra_x A1 (by omega) hp hq hi hj e2 with ⟨d, d1, d2, d3, d4⟩ | ⟨d1, d2⟩
    · exact absurd ((hm d d1).mpr d2) (c1 d d1)
    · have wO : ∀ P k : Nat, P ≠ 69 → P ≠ 70 → P ≠ 71 → ¬ (P = 64 ∧ k = 5) → (w_at K p i q j a w).1 P k = w.1 P k := fun P k h1 h2 h3 h4 => by
        unfold w_at
        rw [vm_si1b, if_neg h4, v_upo h3, v_upo h2, vm_si1b, if_neg (fun z => h1 z.1)]
      have w69 : ∀ k : Nat, (w_at K p i q j a w).1 69 k = if k = a then K else w.1 69 k := fun k => by
        unfold w_at
        rw [vm_si1b, if_neg (by omega), v_upo (by omega), v_upo (by omega), vm_si1b]
        by_cases z : k = a
        · rw [if_pos ⟨rfl, z⟩, if_pos z]
        · rw [if_neg (fun y => z y.2), if_neg z]
      have w70 : ∀ k : Nat, (w_at K p i q j a w).1 70 k = if 24 * a ≤ k ∧ k < 24 * a + 24 then w.1 p (i + (k - 24 * a)) else w.1 70 k := fun k => by
        unfold w_at
        rw [vm_si1b, if_neg (by omega), v_upo (by omega), v_up1]
        by_cases z : 24 * a ≤ k ∧ k < 24 * a + 24
        · rw [if_pos ⟨rfl, z⟩, if_pos z]
        · rw [if_neg (fun y => z y.2), if_neg z, vm_si1b, if_neg (by omega)]
      have w71 : ∀ k : Nat, (w_at K p i q j a w).1 71 k = if 24 * a ≤ k ∧ k < 24 * a + 24 then w.1 q (j + (k - 24 * a)) else w.1 71 k := fun k => by
        unfold w_at
        rw [vm_si1b, if_neg (by omega), v_up1]
        by_cases z : 24 * a ≤ k ∧ k < 24 * a + 24
        · rw [if_pos ⟨rfl, z⟩, if_pos z]
        · rw [if_neg (fun y => z y.2), if_neg z, v_upo (by omega), vm_si1b, if_neg (by omega)]
      have n70 : ∀ t : Nat, t < n → sv v w t p i → sv v' (w_at K p i q j a w) t 70 (24 * a) := fun t ht h k hk => by
        rw [w70, if_pos (by omega), show 24 * a + k - 24 * a = k by omega, rx_x c4 ht]
        exact h k hk
      have n71 : ∀ t : Nat, t < n → sv v w t q j → sv v' (w_at K p i q j a w) t 71 (24 * a) := fun t ht h k hk => by
        rw [w71, if_pos (by omega), show 24 * a + k - 24 * a = k by omega, rx_x c4 ht]
        exact h k hk
      refine ⟨n, a, n + 1, a + 1, v', w_at K p i q j a w, c2, d2, c3, c4, ⟨?_, fun y hy => ?_, fun y z hy hz hyz => ?_⟩, by omega, by omega, c5, ⟨fun P k h1 h2 h3 _ h5 => wO P k h1 h2 h3 h5, rfl⟩, fun P hP k => wO P k (by omega) (by omega) (by omega) (by omega), ⟨c6, c7, c8⟩, fun y hy hy2 => c1 y hy2, fun _ => c1, fun y h1 h2 => by rw [show y = a by omega]; exact c6, Or.inr rfl⟩
      · unfold w_at
        rw [vm_si1b, if_pos ⟨rfl, rfl⟩]
      · by_cases z : y = a
        · subst z
          obtain ⟨k1, l, l1, l2, hN⟩ := hN
          unfold AE
          rw [c6, c7, c8, w69, if_pos rfl]
          refine ⟨rfl, Or.inr ⟨l, by omega, l2, ?_⟩⟩
          rcases hN with ⟨n1, n2, n3⟩ | ⟨n1, r, r1, r2, n2, n3⟩
          · refine Or.inl ⟨n1, n70 l l1 n2, fun k hk => ?_⟩
            rw [w71, if_pos (by omega), show 24 * y + k - 24 * y = k by omega]
            exact n3 k hk
          · refine Or.inr ⟨n1, r, by omega, r2, ?_, n3⟩
            rcases n2 with ⟨n4, n5⟩ | ⟨n4, n5, n6⟩
            · exact Or.inl ⟨n70 l l1 n4, n71 r r1 n5⟩
            · exact Or.inr ⟨n4, n70 r r1 n5, n71 l l1 n6⟩
        · refine AE_x c4 (show y < a by omega) ?_ (fun k hk => ?_) (fun k hk => ?_) (A2 y (by omega))
          · rw [w69, if_neg z]
          · rw [w70, if_neg (by omega)]
          · rw [w71, if_neg (by omega)]
      · have b6 := c4.2.2.2.2.2.1
        obtain ⟨y1, y2, y3⟩ := hyz
        by_cases e1 : y = a
        · by_cases e2 : z = a
          · omega
          · exfalso
            obtain ⟨b1, b2, b3, _⟩ := b6 z (by omega)
            rw [e1, c6, b1] at y1
            rw [e1, c7, b2] at y2
            rw [e1, c8, b3] at y3
            exact c1 z (by omega) ⟨y1, y2, y3⟩
        · obtain ⟨d1, d2, d3, _⟩ := b6 y (by omega)
          by_cases e2 : z = a
          · exfalso
            rw [e2, c6, d1] at y1
            rw [e2, c7, d2] at y2
            rw [e2, c8, d3] at y3
            exact c1 y (by omega) ⟨y1.symm, y2.symm, y3.symm⟩
          · obtain ⟨b1, b2, b3, _⟩ := b6 z (by omega)
            rw [b1, d1] at y1
            rw [b2, d2] at y2
            rw [b3, d3] at y3
            exact A3 y z (by omega) (by omega) ⟨y1, y2, y3⟩
end ED
