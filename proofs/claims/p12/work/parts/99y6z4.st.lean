/-! LOAD, STORE: both sides -/
section EL
variable {v w v' w' v1 w1 : vm_V} {x x1 x2 : vm_Y}
/-- the class's LOAD -/
theorem cl_x {n a l r o st : Nat} (hV : VI n a v) (hn : n < 22) (hl : l < n) (hr : r < n) (h5 : v.1 o 5 = Int32.ofNat st) (e : vE 103 0 [.ref o, .ref 19, .int 8, .int (Int32.ofNat l), .int (Int32.ofNat r), .retAddr 0] [] v x) : vE 88 0 [.ref 19, .int 8, .int (Int32.ofNat l), .int (Int32.ofNat st), .retAddr 0, .retAddr 0] [] v x := by
  rcases cc_x hV hn hl hr e with ⟨c1, _⟩ | ⟨_, z, e1⟩
  · exact absurd (show c_isCalc v 8 = 0 from by unfold c_isCalc; decide) c1
  · simp only [q103_69, q103_70] at e1
    rw [if_neg (show ¬ (8 : Int32) = 2 from by decide), if_neg (show ¬ (8 : Int32) = 3 from by decide), if_neg (show ¬ (8 : Int32) = 4 from by decide), if_neg (show ¬ (8 : Int32) = 5 from by decide), if_neg (show ¬ (8 : Int32) = 6 from by decide), if_neg (show ¬ (8 : Int32) = 7 from by decide), if_pos trivial] at e1
    simp only [q103_178, q103_179, q103_181, q103_182, q103_183, q103_186, h5] at e1
    obtain ⟨y, e3, e4⟩ := e1
    obtain ⟨s', v', rfl⟩ := at_v (mk_at hV hn e3)
    simp only [vB_r, Nat.reduceAdd, q103_189] at e4
    rw [e4]
    exact e3
/-- MOVE and STORE give the first value -/
theorem cm_x {n a l r o : Nat} {K : Int32} (hK : K = 1 ∨ K = 9) (hV : VI n a v) (hn : n < 22) (hl : l < n) (hr : r < n) (e : vE 103 0 [.ref o, .ref 19, .int K, .int (Int32.ofNat l), .int (Int32.ofNat r), .retAddr 0] [] v x) : x = vr (Int32.ofNat l) v := by
  rcases cc_x hV hn hl hr e with ⟨c1, _⟩ | ⟨_, z, e1⟩
  · refine absurd (show c_isCalc v K = 0 from ?_) c1
    rcases hK with rfl | rfl <;> (unfold c_isCalc; decide)
  · simp only [q103_69, q103_70] at e1
    have k : ¬ K = 2 ∧ ¬ K = 3 ∧ ¬ K = 4 ∧ ¬ K = 5 ∧ ¬ K = 6 ∧ ¬ K = 7 ∧ ¬ K = 8 := by
      rcases hK with rfl | rfl <;> decide
    rw [if_neg k.1, if_neg k.2.1, if_neg k.2.2.1, if_neg k.2.2.2.1, if_neg k.2.2.2.2.1, if_neg k.2.2.2.2.2.1, if_neg k.2.2.2.2.2.2] at e1
    simpa only [q103_190, q103_191] using e1
/-- LOAD: what is known of the loads behind it -/
theorem LD_8 {n n' a a' o c c' l st m : Nat} (n22 : n ≤ 22) (hl : l < n) (hA : ∀ i : Nat, i < a → v.1 44 i = 8 → ∃ l : Nat, l < n ∧ v.1 45 i = Int32.ofNat l) (hA' : AR n' a' v' w') (hr : ∀ t k : Nat, t < n → k < 23 → v'.1 (21 + t) k = v.1 (21 + t) k) (n22' : n' ≤ 22) (ha : a ≤ a') (ha1 : a' ≤ a + 1) (ha2 : ∀ i : Nat, i < a → v'.1 44 i = v.1 44 i ∧ v'.1 45 i = v.1 45 i ∧ v'.1 46 i = v.1 46 i) (hm : m < a') (hmM : aM v' 8 (Int32.ofNat l) (Int32.ofNat st) m) (hma : a ≤ m ∨ a' = a) (hc : c ≤ c') (hc2 : ∀ P e : Nat, o + 2 ≤ P → P ≤ o + 4 → e < c → v'.1 P e = v.1 P e) (hc3 : ∀ e : Nat, c ≤ e → e < c' → eM v' o 8 (Int32.ofNat l) (Int32.ofNat st) e) (hu : unS v l → ∃ e : Nat, e < c' ∧ eM v' o 8 (Int32.ofNat l) (Int32.ofNat st) e) (hw : ∀ i : Nat, i ≠ m → w'.1 92 i = w.1 92 i) (hwm : ¬ w'.1 92 m = 0) (h : LD n a v w o c) : LD n' a' v' w' o c' := by
  obtain ⟨h1, h2, h3⟩ := h
  have em : ∀ (e : Nat) (K A B : Int32), e < c → (eM v' o K A B e ↔ eM v o K A B e) := fun e K A B he => by
    unfold eM
    rw [hc2 _ _ (by omega) (by omega) he, hc2 _ _ (by omega) (by omega) he, hc2 _ _ (by omega) (by omega) he]
  refine ⟨fun e he h8 => ?_, fun i hi h8 => ?_, fun i hi hi2 => (hw i (by omega)).trans (h3 i (by omega) hi2)⟩
  · by_cases z : e < c
    · rw [hc2 _ _ (by omega) (by omega) z] at h8
      obtain ⟨i, i1, i2⟩ := h1 e z h8
      obtain ⟨b1, b2, b3⟩ := ha2 i i1
      refine ⟨i, by omega, ?_⟩
      unfold aM at i2 ⊢
      rw [b1, b2, b3, hc2 _ _ (by omega) (by omega) z, hc2 _ _ (by omega) (by omega) z]
      exact i2
    · obtain ⟨k1, k2, k3⟩ := hc3 e (by omega) he
      rw [k2, k3]
      exact ⟨m, hm, hmM⟩
  · by_cases im : i = m
    · subst im
      refine ⟨fun q => absurd q hwm, fun _ t ht ht2 hun => ?_⟩
      obtain ⟨m1, m2, m3⟩ := hmM
      obtain rfl : l = t := on_inj (by omega) (by omega) (m2.symm.trans ht2)
      rw [m2, m3]
      exact hu (fun y => hun ⟨fun k hk hk1 => (hr l k hl hk).trans (y.1 k hk hk1), by rw [hr l 0 hl (by omega)]; exact y.2⟩)
    · have z : i < a := by omega
      obtain ⟨b1, b2, b3⟩ := ha2 i z
      have h8' := h8
      rw [b1] at h8
      obtain ⟨m1, m2⟩ := h2 i z h8
      have ne : ¬ (v.1 45 i = Int32.ofNat l ∧ v.1 46 i = Int32.ofNat st) := fun q => by
        refine im (hA'.2.2 i m hi hm ?_)
        unfold aM at hmM ⊢
        rw [h8', b2, b3, q.1, q.2]
        exact hmM
      rw [hw i im, b2, b3]
      refine ⟨fun q e he => ?_, fun q t ht ht2 hun => ?_⟩
      · by_cases y : e < c
        · rw [em _ _ _ _ y]
          exact m1 q e y
        · intro y2
          obtain ⟨k1, k2, k3⟩ := hc3 e (by omega) he
          exact ne ⟨y2.2.1.symm.trans k2, y2.2.2.symm.trans k3⟩
      · obtain ⟨l0, l1, l2⟩ := hA i z h8
        obtain rfl : l0 = t := on_inj (by omega) (by omega) (l2.symm.trans ht2)
        obtain ⟨e, e1, e2⟩ := m2 q l0 l1 l2 (fun y => hun ⟨fun k hk hk1 => (hr l0 k l1 hk).trans (y.1 k hk hk1), by rw [hr l0 0 l1 (by omega)]; exact y.2⟩)
        exact ⟨e, by omega, (em _ _ _ _ e1).mpr e2⟩
/-- LOAD: both sides -/
theorem ji_8 {n a o S c st l r i : Nat} (h : ST n a v w o S c st) (ho : 48 < o ∧ o + 4 < 64) (hS : S < 2) (hn : n < 22) (h8 : c < 8) (hl : l < n) (hr : r < n) (hi : i < 1000) (h1 : sv v w l 72 i) {y : vm_Y} (e0 : vE 92 0 [.ref o, .ref 19, .int 8, .int (Int32.ofNat l), .int (Int32.ofNat r)] [] v y) (e1 : ∀ v1 : vm_V, y = vd v1 → vE 103 0 [.ref o, .ref 19, .int 8, .int (Int32.ofNat l), .int (Int32.ofNat r), .retAddr 0] [] v1 x1) (e2 : vE 190 0 [.ref 64, .int (Int32.ofNat S), .int (Int32.ofNat i), .retAddr 0, .retAddr 0] [] w x2) : ∃ c' : Nat, c ≤ c' ∧ c' ≤ c + 1 ∧ IR n a v w o S c' st x1 x2 := by
  obtain ⟨hV, hA, hO, hL, h5, h78⟩ := h
  have n22 := hV.2.2.2.1
  have a3 := hV.2.2.1
  obtain ⟨T1, T2⟩ := nt_8 hV hl hO.2.1.1 (by omega) h5 e0
  -- the class's view behind noteEffect
  have cls : ∃ (v1 : vm_V) (c1 : Nat), y = vd v1 ∧ c ≤ c1 ∧ c1 ≤ c + 1 ∧ (∀ P j : Nat, 19 ≤ P → P ≤ 48 → v1.1 P j = v.1 P j) ∧ v1.2 = v.2 ∧ (∀ P j : Nat, ¬ (o ≤ P ∧ P ≤ o + 4) → v1.1 P j = v.1 P j) ∧ v1.1 o 5 = v.1 o 5 ∧ v1.1 o 4 = Int32.ofNat c1 ∧ (∀ k : Nat, v1.1 (o + 1) k = v.1 (o + 1) k) ∧ (∀ P e : Nat, o + 2 ≤ P → P ≤ o + 4 → e < c → v1.1 P e = v.1 P e) ∧ ((c1 = c ∧ (unS v l → ∃ e : Nat, e < c ∧ eM v o 8 (Int32.ofNat l) (Int32.ofNat st) e)) ∨ (c1 = c + 1 ∧ unS v l ∧ (∀ e : Nat, e < c → ¬ eM v o 8 (Int32.ofNat l) (Int32.ofNat st) e) ∧ eM v1 o 8 (Int32.ofNat l) (Int32.ofNat st) c)) := by
    by_cases u : unS v l
    · rcases T1 u with ⟨g1, g2⟩ | ⟨g1, g2⟩
      · exact ⟨v, c, g2, Nat.le_refl c, Nat.le_succ c, fun _ _ _ _ => rfl, rfl, fun _ _ _ => rfl, rfl, hO.2.1.1, fun _ => rfl, fun _ _ _ _ _ => rfl, Or.inl ⟨rfl, fun _ => g1⟩⟩
      · rw [addE_n hO.2.1.1 h8] at g2
        exact ⟨_, c + 1, g2, Nat.le_succ c, Nat.le_refl _, fun P j _ _ => v_aeo (by omega) (by omega), rfl, fun P j hP => v_aeo (by omega) (by omega), v_aeo (by omega) (by omega), v_ae4, fun k => v_aeo (by omega) (by omega), fun P e p1 p2 he => v_aeo (by omega) (by omega), Or.inr ⟨rfl, u, g1, v_aec⟩⟩
    · exact ⟨v, c, T2 u, Nat.le_refl c, Nat.le_succ c, fun _ _ _ _ => rfl, rfl, fun _ _ _ => rfl, rfl, hO.2.1.1, fun _ => rfl, fun _ _ _ _ _ => rfl, Or.inl ⟨rfl, fun z => absurd z u⟩⟩
  obtain ⟨v1, c1, y1, k1, k2, vl, v2', vo, v5, v4, vr1, ve, alt⟩ := cls
  have V1 : VI n a v1 := VI_f hV vl v2'
  have A1 : AR n a v1 w := AR_f n22 hA vl rfl (fun _ _ _ _ => rfl)
  have E1 := cl_x V1 hn hl hr (v5.trans h5) (e1 v1 y1)
  have s1 : sv v1 w l 72 i := sv_r (n := n) (fun t k _ _ => vl _ _ (by omega) (by omega)) hl (fun _ _ => rfl) h1
  have N1 : NE n v1 w 8 (Int32.ofNat l) (Int32.ofNat st) 72 i 78 0 := ⟨by decide, l, hl, rfl, Or.inl ⟨rfl, s1, h78⟩⟩
  have e2 := (show ∃ y : vm_Y, vE 188 0 [.ref 64, .int 8, .ref 72, .int (Int32.ofNat i), .ref 78, .int (Int32.ofNat 0), .retAddr 0, .retAddr 0] [] w y ∧ vB 190 13 [.ref 64, .int (Int32.ofNat S), .int (Int32.ofNat i), .retAddr 0, .retAddr 0] [] y x2 from by
    simp only [q190_0, q190_1, q190_3, q190_4, q190_7, q190_8, q190_9, q190_12, q190_13, Nat.reduceAdd] at e2
    exact e2)
  obtain ⟨z, e3, e4⟩ := e2
  obtain ⟨s, m, n', a', v', wa, f1, f2, f3, f4, f5, f6, f7, f8, f9, f10, f11, f12, f13, f14, f15⟩ := ja V1 hn A1 (by omega) (by omega) hi (by omega) N1 E1 e3
  subst f2
  have n22' := f3.2.2.2.1
  have a3' := f3.2.2.1
  obtain ⟨b1, b2, b3, b4, b5, b6, b7, b8⟩ := f4
  have wo : ∀ P j : Nat, P ≠ 69 → P ≠ 70 → P ≠ 71 → P ≠ 77 → P ≠ 64 → wa.1 P j = w.1 P j := fun P j p1 p2 p3 p4 p5 => f9.1 P j p1 p2 p3 p4 (fun z => p5 z.1)
  have rows : ∀ t k : Nat, t < n → k < 23 → v'.1 (21 + t) k = v.1 (21 + t) k := fun t k ht hk => (b5 t k ht hk).trans (vl _ _ (by omega) (by omega))
  have ent : ∀ q : Nat, q < a → v'.1 44 q = v.1 44 q ∧ v'.1 45 q = v.1 45 q ∧ v'.1 46 q = v.1 46 q := fun q hq => by
    obtain ⟨d1, d2, d3, _⟩ := b6 q hq
    exact ⟨d1.trans (vl _ _ (by omega) (by omega)), d2.trans (vl _ _ (by omega) (by omega)), d3.trans (vl _ _ (by omega) (by omega))⟩
  have aMv : ∀ q : Nat, (aM v1 8 (Int32.ofNat l) (Int32.ofNat st) q ↔ aM v 8 (Int32.ofNat l) (Int32.ofNat st) q) := fun q => by
    unfold aM
    rw [vl 44 q (by omega) (by omega), vl 45 q (by omega) (by omega), vl 46 q (by omega) (by omega)]
  have vq : ∀ P j : Nat, 48 < P → v'.1 P j = v1.1 P j := fun P j hP => b7 P j (Or.inr hP)
  simp only [vB_r, Nat.reduceAdd] at e4
  obtain ⟨w1, W, X⟩ := ld_x (v := v) (l := l) (c := c) (S := S) (show m < 22 by omega) hi (sv_r (n := n) (fun _ _ _ _ => rfl) hl (fun k _ => wo 72 _ (by omega) (by omega) (by omega) (by omega) (by omega)) h1) hS ((wo 73 S (by omega) (by omega) (by omega) (by omega) (by omega)).trans hO.2.1.2.1) h8 e4
  have w92 : wa.1 92 m = w.1 92 m := wo 92 m (by omega) (by omega) (by omega) (by omega) (by omega)
  -- loaded just if it is among the effects
  have key : unS v l → (w.1 92 m = 0 ↔ ∀ e : Nat, e < c → ¬ eM v o 8 (Int32.ofNat l) (Int32.ofNat st) e) := fun u => by
    by_cases ma : m < a
    · obtain ⟨d1, d2, d3⟩ := ent m ma
      obtain ⟨g1, g2, g3⟩ := f11
      have k44 : v.1 44 m = 8 := d1.symm.trans g1
      have k45 : v.1 45 m = Int32.ofNat l := d2.symm.trans g2
      have k46 : v.1 46 m = Int32.ofNat st := d3.symm.trans g3
      obtain ⟨p1, p2⟩ := hL.2.1 m ma k44
      rw [k45, k46] at p1 p2
      refine ⟨p1, fun q => ?_⟩
      refine Classical.byContradiction (fun z => ?_)
      obtain ⟨e, g4, g5⟩ := p2 z l hl rfl u
      exact q e g4 g5
    · refine ⟨fun _ e he g => ?_, fun _ => hL.2.2 m (by omega) (by omega)⟩
      obtain ⟨q, q1, q2⟩ := hL.1 e he g.1
      rw [g.2.1, g.2.2] at q2
      exact f13 (by omega) q q1 ((aMv q).mpr q2)
  have unit : ∀ k : Nat, k < 24 → (if k = 1 + m then (1 : Int32) else 0) = rx v' s k := fun k hk => by
    unfold rx
    by_cases z : k < 23
    · rw [if_pos z, f8 k z]
    · rw [if_neg z, if_neg (by omega)]
  have hma : a ≤ m ∨ a' = a := by
    rcases f15 with z | z
    · exact Or.inr z
    · exact Or.inl (by omega)
  -- the end: from the view w1 of the reference
  have fin : ∀ (w1 : vm_V), x2 = vd (v_up 77 0 24 (fun k => if k = 1 + m then 1 else 0) (vm_si w1 92 m 1)) → (∀ P j : Nat, P ≠ 73 → P ≠ 74 → P ≠ 75 → P ≠ 76 → w1.1 P j = wa.1 P j) → w1.2 = wa.2 → (∀ j : Nat, j ≠ S → w1.1 73 j = wa.1 73 j) → (∀ j : Nat, ¬ (8 * S ≤ j ∧ j < 8 * S + 8) → w1.1 74 j = wa.1 74 j) → (∀ j : Nat, ¬ (192 * S ≤ j ∧ j < 192 * S + 192) → w1.1 75 j = wa.1 75 j ∧ w1.1 76 j = wa.1 76 j) → OS n' v' (v_up 77 0 24 (fun k => if k = 1 + m then 1 else 0) (vm_si w1 92 m 1)) o S c1 → IR n a v w o S c1 st x1 x2 := fun w1 X p1 p2 p3 p4 p5 hOS => by
    have up : ∀ P j : Nat, P ≠ 77 → P ≠ 92 → (v_up 77 0 24 (fun k => if k = 1 + m then 1 else 0) (vm_si w1 92 m 1)).1 P j = w1.1 P j := fun P j q1 q2 => by
      rw [v_upo q1, vm_si1b, if_neg (fun z => q2 z.1)]
    have A2 : AR n' a' v' (v_up 77 0 24 (fun k => if k = 1 + m then 1 else 0) (vm_si w1 92 m 1)) := AR_x f5 VX_rf ((up 64 5 (by omega) (by omega)).trans (p1 64 5 (by omega) (by omega) (by omega) (by omega))) (fun P k _ _ => (up P k (by omega) (by omega)).trans (p1 P k (by omega) (by omega) (by omega) (by omega)))
    refine ⟨s, n', a', v', _, f1, X, ⟨f3, A2, hOS, ?_, ?_, ?_⟩, f6, fun k hk => ?_, b1, b2, ?_⟩
    · refine LD_8 (v := v) (w := w) (l := l) (st := st) (m := m) (a := a) (c := c) n22 hl (AR_l hA) A2 rows n22' b3 b4 ent f7 f11 hma k1 (fun P e q1 q2 he => (vq P e (by omega)).trans (ve P e q1 q2 he)) (fun e q1 q2 => ?_) (fun u => ?_) (fun q hq => ?_) ?_ hL
      · rcases alt with ⟨al, _⟩ | ⟨al, _, _, al2⟩
        · omega
        · rw [show e = c by omega]
          unfold eM at al2 ⊢
          rw [vq _ _ (by omega), vq _ _ (by omega), vq _ _ (by omega)]
          exact al2
      · rcases alt with ⟨al, al2⟩ | ⟨al, _, _, al2⟩
        · obtain ⟨e, g1, g2⟩ := al2 u
          refine ⟨e, by omega, ?_⟩
          unfold eM at g2 ⊢
          rw [vq _ _ (by omega), vq _ _ (by omega), vq _ _ (by omega), ve _ _ (by omega) (by omega) g1, ve _ _ (by omega) (by omega) g1, ve _ _ (by omega) (by omega) g1]
          exact g2
        · refine ⟨c, by omega, ?_⟩
          unfold eM at al2 ⊢
          rw [vq _ _ (by omega), vq _ _ (by omega), vq _ _ (by omega)]
          exact al2
      · rw [v_upo (by omega), vm_si1b, if_neg (fun z => hq z.2), p1 92 q (by omega) (by omega) (by omega) (by omega)]
        exact wo 92 q (by omega) (by omega) (by omega) (by omega) (by omega)
      · rw [v_upo (by omega), vm_si1b, if_pos ⟨rfl, rfl⟩]
        exact i10
    · exact (vq o 5 (by omega)).trans (v5.trans h5)
    · exact nv_x (fun k _ => (up 78 _ (by omega) (by omega)).trans ((p1 78 _ (by omega) (by omega) (by omega) (by omega)).trans (wo 78 _ (by omega) (by omega) (by omega) (by omega) (by omega)))) h78
    · rw [v_upi hk]
      exact unit k hk
    · refine ⟨rows, fun P j q1 q2 => ?_, b8.trans v2', fun P j q => ?_, fun j q => ?_, fun j _ => ?_, fun j q => ?_, fun j q => ?_, fun j q => ⟨?_, ?_⟩, p2.trans f9.2⟩
      · exact (b7 P j q1).trans (vo P j q2)
      · exact (up P j (by omega) (by omega)).trans ((p1 P j (by omega) (by omega) (by omega) (by omega)).trans (wo P j (by omega) (by omega) (by omega) (by omega) (by omega)))
      · exact (up 64 j (by omega) (by omega)).trans ((p1 64 j (by omega) (by omega) (by omega) (by omega)).trans (f9.1 64 j (by omega) (by omega) (by omega) (by omega) (fun z => q z.2)))
      · exact (up 72 j (by omega) (by omega)).trans ((p1 72 j (by omega) (by omega) (by omega) (by omega)).trans (wo 72 j (by omega) (by omega) (by omega) (by omega) (by omega)))
      · exact (up 73 j (by omega) (by omega)).trans ((p3 j q).trans (wo 73 j (by omega) (by omega) (by omega) (by omega) (by omega)))
      · exact (up 74 j (by omega) (by omega)).trans ((p4 j q).trans (wo 74 j (by omega) (by omega) (by omega) (by omega) (by omega)))
      · exact (up 75 j (by omega) (by omega)).trans ((p5 j q).1.trans (wo 75 j (by omega) (by omega) (by omega) (by omega) (by omega)))
      · exact (up 76 j (by omega) (by omega)).trans ((p5 j q).2.trans (wo 76 j (by omega) (by omega) (by omega) (by omega) (by omega)))
  refine ⟨c1, k1, k2, ?_⟩
  have up : ∀ (w1 : vm_V) (P j : Nat), P ≠ 77 → P ≠ 92 → (v_up 77 0 24 (fun k => if k = 1 + m then 1 else 0) (vm_si w1 92 m 1)).1 P j = w1.1 P j := fun w1 P j q1 q2 => by
    rw [v_upo q1, vm_si1b, if_neg (fun z => q2 z.1)]
  rcases alt with ⟨al, al2⟩ | ⟨al, u, al1, al2⟩
  · subst al
    have hw1 : w1 = wa := by
      rcases W with ⟨u, W1, _⟩ | ⟨_, W1⟩
      · exfalso
        obtain ⟨e, g1, g2⟩ := al2 u
        exact (key u).mp (w92.symm.trans W1) e g1 g2
      · exact W1
    subst hw1
    refine fin w1 X (fun _ _ _ _ _ _ => rfl) rfl (fun _ _ => rfl) (fun _ _ => rfl) (fun _ _ => ⟨rfl, rfl⟩) ?_
    exact OS_same rows b1 (fun k => (vq _ k (by omega)).trans (vr1 k)) ((vq o 4 (by omega)).trans (v4.trans hO.2.1.1.symm)) (fun P e q1 q2 he => (vq P e (by omega)).trans (ve P e q1 q2 he)) (fun k _ _ => (up _ 72 k (by omega) (by omega)).trans (wo 72 k (by omega) (by omega) (by omega) (by omega) (by omega))) ((up _ 73 S (by omega) (by omega)).trans (wo 73 S (by omega) (by omega) (by omega) (by omega) (by omega))) (fun e _ => (up _ 74 _ (by omega) (by omega)).trans (wo 74 _ (by omega) (by omega) (by omega) (by omega) (by omega))) (fun k _ _ => ⟨(up _ 75 _ (by omega) (by omega)).trans (wo 75 _ (by omega) (by omega) (by omega) (by omega) (by omega)), (up _ 76 _ (by omega) (by omega)).trans (wo 76 _ (by omega) (by omega) (by omega) (by omega) (by omega))⟩) hO
  · subst al
    have hw1 : w1 = w_ef S 8 72 i 78 0 c wa := by
      rcases W with ⟨_, _, W1⟩ | ⟨W1, _⟩
      · exact W1
      · exfalso
        rcases W1 with W1 | W1
        · exact W1 u
        · exact W1 (w92.trans ((key u).mpr al1))
    subst hw1
    refine fin _ X (fun P j q1 q2 q3 q4 => w_efo q1 q2 q3 q4) rfl (fun j hj => by rw [w_ef3, if_neg hj]) (fun j hj => by rw [w_ef4, if_neg (by omega)]) (fun j hj => ⟨by rw [w_ef5, if_neg (by omega)], by rw [w_ef6, if_neg (by omega)]⟩) ?_
    refine OS_add (v := v) (w := w) (K := 8) (A := Int32.ofNat l) (B := Int32.ofNat st) (p := 72) (i := i) (q := 78) (j := 0) rows b1 h8 (fun k => (vq _ k (by omega)).trans (vr1 k)) ((vq o 4 (by omega)).trans v4) (fun P e q1 q2 he => (vq P e (by omega)).trans (ve P e q1 q2 he)) ?_ (fun k _ _ => ?_) ?_ (fun e he => ?_) ?_ (fun k q1 q2 => ⟨?_, ?_⟩) (fun k hk => ⟨?_, ?_⟩) ⟨l, hl, rfl, h1, Or.inl ⟨rfl, h78⟩⟩ hO
    · unfold eM at al2 ⊢
      rw [vq _ _ (by omega), vq _ _ (by omega), vq _ _ (by omega)]
      exact al2
    · exact (up _ 72 k (by omega) (by omega)).trans ((w_efo (by omega) (by omega) (by omega) (by omega)).trans (wo 72 k (by omega) (by omega) (by omega) (by omega) (by omega)))
    · rw [up _ 73 S (by omega) (by omega), w_ef3, if_pos rfl]
    · rw [up _ 74 _ (by omega) (by omega), w_ef4, if_neg (by omega)]
      exact wo 74 _ (by omega) (by omega) (by omega) (by omega) (by omega)
    · rw [up _ 74 _ (by omega) (by omega), w_ef4, if_pos rfl]
    · rw [up _ 75 _ (by omega) (by omega), w_ef5, if_neg (by omega)]
      exact wo 75 _ (by omega) (by omega) (by omega) (by omega) (by omega)
    · rw [up _ 76 _ (by omega) (by omega), w_ef6, if_neg (by omega)]
      exact wo 76 _ (by omega) (by omega) (by omega) (by omega) (by omega)
    · rw [up _ 75 _ (by omega) (by omega), w_ef5, if_pos (by omega), show 24 * (8 * S + c) + k - 24 * (8 * S + c) = k by omega]
      exact wo 72 _ (by omega) (by omega) (by omega) (by omega) (by omega)
    · rw [up _ 76 _ (by omega) (by omega), w_ef6, if_pos (by omega), show 24 * (8 * S + c) + k - 24 * (8 * S + c) = k by omega]
      exact wo 78 _ (by omega) (by omega) (by omega) (by omega) (by omega)
/-- STORE: both sides -/
theorem ji_9 {n a o S c st l r i j : Nat} (h : ST n a v w o S c st) (ho : 48 < o ∧ o + 4 < 64) (h8 : c < 8) (hl : l < n) (hr : r < n) (h1 : sv v w l 72 i) (h2 : sv v w r 72 j) : ST n a (vm_si (v_ae o 9 (Int32.ofNat l) (Int32.ofNat r) c v) o 5 (Int32.ofNat (st + 1))) (vm_si (w_ef S 9 72 i 72 j c w) 78 0 (Int32.ofNat (st + 1))) o S (c + 1) (st + 1) ∧ GF o S n v w (vm_si (v_ae o 9 (Int32.ofNat l) (Int32.ofNat r) c v) o 5 (Int32.ofNat (st + 1))) (vm_si (w_ef S 9 72 i 72 j c w) 78 0 (Int32.ofNat (st + 1))) := by
  obtain ⟨s1, s2⟩ := pe_add (K := 9) (A := Int32.ofNat l) (B := Int32.ofNat r) (p := 72) (i := i) (q := 72) (j := j) h ho h8 (by decide) ⟨l, hl, rfl, h1, Or.inr ⟨by decide, r, hr, rfl, h2⟩⟩
  obtain ⟨sV, sA, sO, sL, s5, s78⟩ := s1
  have n22 := sV.2.2.2.1
  generalize v_ae o 9 (Int32.ofNat l) (Int32.ofNat r) c v = u at sV sA sO sL s5 s2
  generalize w_ef S 9 72 i 72 j c w = z at sA sO sL s78 s2
  have uo : ∀ P k : Nat, ¬ (P = o ∧ k = 5) → (vm_si u o 5 (Int32.ofNat (st + 1))).1 P k = u.1 P k := fun P k q => by rw [vm_si1b, if_neg q]
  have zo : ∀ P k : Nat, P ≠ 78 → (vm_si z 78 0 (Int32.ofNat (st + 1))).1 P k = z.1 P k := fun P k q => by rw [vm_si1b, if_neg (fun y => q y.1)]
  have hr' : ∀ t k : Nat, t < n → k < 23 → (vm_si u o 5 (Int32.ofNat (st + 1))).1 (21 + t) k = u.1 (21 + t) k := fun t k _ _ => uo _ _ (by omega)
  refine ⟨⟨VI_f sV (fun P k _ _ => uo _ _ (by omega)) rfl, AR_f n22 sA (fun P k _ _ => uo _ _ (by omega)) (zo _ _ (by omega)) (fun P k _ _ => zo _ _ (by omega)), ?_, ?_, ?_, fun k hk => ?_⟩, GF_tr s2 (n1 := n) ⟨hr', fun P k q1 q2 => uo _ _ (by omega), rfl, fun P k q => zo _ _ (by omega), fun k _ => zo _ _ (by omega), fun k _ => zo _ _ (by omega), fun k _ => zo _ _ (by omega), fun k _ => zo _ _ (by omega), fun k _ => ⟨zo _ _ (by omega), zo _ _ (by omega)⟩, rfl⟩ (Nat.le_refl n)⟩
  · exact OS_same hr' (Nat.le_refl n) (fun k => uo _ _ (by omega)) (uo _ _ (by omega)) (fun P e q1 q2 _ => uo _ _ (by omega)) (fun k _ _ => zo _ _ (by omega)) (zo _ _ (by omega)) (fun e _ => zo _ _ (by omega)) (fun k _ _ => ⟨zo _ _ (by omega), zo _ _ (by omega)⟩) sO
  · exact LD_x n22 n22 (AR_l sA) hr' (Nat.le_refl a) (fun q _ => ⟨uo _ _ (by omega), uo _ _ (by omega), uo _ _ (by omega)⟩) (fun q q1 q2 => by omega) (Nat.le_refl _) (fun P e q1 q2 _ => uo _ _ (by omega)) (fun e q1 q2 => by omega) (fun q => zo _ _ (by omega)) sL
  · rw [vm_si1b, if_pos ⟨rfl, rfl⟩]
  · rw [vm_si1b]
    by_cases k0 : k = 0
    · rw [if_pos ⟨rfl, by omega⟩, if_pos k0]
    · rw [if_neg (by omega), if_neg k0]
      have := s78 k hk
      rw [if_neg k0] at this
      exact this
end EL
