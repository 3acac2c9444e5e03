/-! one instruction: what both make -/
section EK
variable {v w v' w' v1 w1 : vm_V} {x x1 x2 : vm_Y}
def ST (n a : Nat) (v w : vm_V) (o S c st : Nat) : Prop := VI n a v ∧ AR n a v w ∧ OS n v w o S c ∧ LD n a v w o c ∧ v.1 o 5 = Int32.ofNat st ∧ nv w (Int32.ofNat st) 78 0
def IR (n a : Nat) (v w : vm_V) (o S c st : Nat) (x1 x2 : vm_Y) : Prop := ∃ (s n' a' : Nat) (v' w' : vm_V), x1 = vr (Int32.ofNat s) v' ∧ x2 = vd w' ∧ ST n' a' v' w' o S c st ∧ s < n' ∧ sv v' w' s 77 0 ∧ n ≤ n' ∧ n' ≤ n + 1 ∧ GF o S n v w v' w'
theorem IR_tr {n a o S c st : Nat} (hG : GF o S n v w v1 w1) (h : IR n a v1 w1 o S c st x1 x2) : IR n a v w o S c st x1 x2 := by
  obtain ⟨s, n', a', v', w', f1, f2, f3, f4, f5, f6, f7, f8⟩ := h
  exact ⟨s, n', a', v', w', f1, f2, f3, f4, f5, f6, f7, GF_tr hG f8 (Nat.le_refl n)⟩
theorem ir_j {n a o S c st : Nat} (h : ST n a v w o S c st) (ho : 48 < o ∧ o + 4 < 64) (hJ : JR n a v w x1 x2) : IR n a v w o S c st x1 x2 := by
  obtain ⟨hV, hA, hO, hL, h5, h78⟩ := h
  obtain ⟨s, n', a', v', w', f1, f2, f3, f4, f5, f6, f7, f8, f9⟩ := hJ
  have n22 := hV.2.2.2.1
  have n22' := f3.2.2.2.1
  obtain ⟨b1, b2, b3, b4, b5, b6, b7, b8⟩ := f4
  have wo : ∀ P j : Nat, P ≠ 69 → P ≠ 70 → P ≠ 71 → P ≠ 77 → P ≠ 64 → w'.1 P j = w.1 P j := fun P j p1 p2 p3 p4 p5 => f8.1 P j p1 p2 p3 p4 (fun z => p5 z.1)
  refine ⟨s, n', a', v', w', f1, f2, ⟨f3, f5, ?_, ?_, (b7 o 5 (by omega)).trans h5, nv_x (fun k hk => wo 78 _ (by omega) (by omega) (by omega) (by omega) (by omega)) h78⟩, f6, f7, b1, b2, ?_⟩
  · exact OS_same b5 b1 (fun r => b7 _ r (by omega)) (b7 o 4 (by omega)) (fun P e h1 h2 _ => b7 P e (by omega)) (fun k _ _ => wo 72 k (by omega) (by omega) (by omega) (by omega) (by omega)) (wo 73 S (by omega) (by omega) (by omega) (by omega) (by omega)) (fun e _ => wo 74 _ (by omega) (by omega) (by omega) (by omega) (by omega)) (fun k _ _ => ⟨wo 75 _ (by omega) (by omega) (by omega) (by omega) (by omega), wo 76 _ (by omega) (by omega) (by omega) (by omega) (by omega)⟩) hO
  · exact LD_x n22 n22' (AR_l hA) b5 b3 (fun i hi => ⟨(b6 i hi).1, (b6 i hi).2.1, (b6 i hi).2.2.1⟩) f9 (Nat.le_refl c) (fun P e h1 h2 _ => b7 P e (by omega)) (fun e h1 h2 => by omega) (fun i => wo 92 i (by omega) (by omega) (by omega) (by omega) (by omega)) hL
  · exact ⟨b5, fun P j h1 _ => b7 P j h1, b8, fun P j h => wo P j (by omega) (by omega) (by omega) (by omega) (by omega), fun j hj => f8.1 64 j (by omega) (by omega) (by omega) (by omega) (fun z => hj z.2), fun j _ => wo 72 j (by omega) (by omega) (by omega) (by omega) (by omega), fun j _ => wo 73 j (by omega) (by omega) (by omega) (by omega) (by omega), fun j _ => wo 74 j (by omega) (by omega) (by omega) (by omega) (by omega), fun j _ => ⟨wo 75 j (by omega) (by omega) (by omega) (by omega) (by omega), wo 76 j (by omega) (by omega) (by omega) (by omega) (by omega)⟩, f8.2⟩
theorem v_aeo {o c P j : Nat} {K A B : Int32} (h1 : ¬ (P = o ∧ j = 4)) (h2 : ¬ (o + 2 ≤ P ∧ P ≤ o + 4 ∧ j = c)) : (v_ae o K A B c v).1 P j = v.1 P j := by
  unfold v_ae
  rw [vm_si1b, if_neg (by omega), vm_si1b, if_neg (by omega), vm_si1b, if_neg (by omega), vm_si1b, if_neg h1]
theorem v_ae4 {o c : Nat} {K A B : Int32} : (v_ae o K A B c v).1 o 4 = Int32.ofNat (c + 1) := by
  unfold v_ae
  rw [vm_si1b, if_neg (by omega), vm_si1b, if_neg (by omega), vm_si1b, if_neg (by omega), vm_si1b, if_pos ⟨rfl, rfl⟩]
theorem v_aec {o c : Nat} {K A B : Int32} : eM (v_ae o K A B c v) o K A B c := by
  unfold v_ae
  refine ⟨?_, ?_, ?_⟩
  · rw [vm_si1b, if_neg (by omega), vm_si1b, if_neg (by omega), vm_si1b, if_pos ⟨rfl, rfl⟩]
  · rw [vm_si1b, if_neg (by omega), vm_si1b, if_pos ⟨rfl, rfl⟩]
  · rw [vm_si1b, if_pos ⟨rfl, rfl⟩]
theorem w_efo {S c p i q j P k : Nat} {K : Int32} (h3 : P ≠ 73) (h4 : P ≠ 74) (h5 : P ≠ 75) (h6 : P ≠ 76) : (w_ef S K p i q j c w).1 P k = w.1 P k := by
  unfold w_ef
  rw [vm_si1b, if_neg (fun z => h3 z.1), v_upo h6, v_upo h5, vm_si1b, if_neg (fun z => h4 z.1)]
theorem w_ef3 {S c p i q j k : Nat} {K : Int32} : (w_ef S K p i q j c w).1 73 k = if k = S then Int32.ofNat (c + 1) else w.1 73 k := by
  unfold w_ef
  rw [vm_si1b]
  by_cases z : k = S
  · rw [if_pos ⟨rfl, z⟩, if_pos z]
  · rw [if_neg (fun y => z y.2), if_neg z, v_upo (by omega), v_upo (by omega), vm_si1b, if_neg (by omega)]
theorem w_ef4 {S c p i q j k : Nat} {K : Int32} : (w_ef S K p i q j c w).1 74 k = if k = 8 * S + c then K else w.1 74 k := by
  unfold w_ef
  rw [vm_si1b, if_neg (by omega), v_upo (by omega), v_upo (by omega), vm_si1b]
  by_cases z : k = 8 * S + c
  · rw [if_pos ⟨rfl, z⟩, if_pos z]
  · rw [if_neg (fun y => z y.2), if_neg z]
theorem w_ef5 {S c p i q j k : Nat} {K : Int32} : (w_ef S K p i q j c w).1 75 k = if 24 * (8 * S + c) ≤ k ∧ k < 24 * (8 * S + c) + 24 then w.1 p (i + (k - 24 * (8 * S + c))) else w.1 75 k := by
  unfold w_ef
  rw [vm_si1b, if_neg (by omega), v_upo (by omega), v_up1]
  by_cases z : 24 * (8 * S + c) ≤ k ∧ k < 24 * (8 * S + c) + 24
  · rw [if_pos ⟨rfl, z⟩, if_pos z]
  · rw [if_neg (fun y => z y.2), if_neg z, vm_si1b, if_neg (by omega)]
theorem w_ef6 {S c p i q j k : Nat} {K : Int32} : (w_ef S K p i q j c w).1 76 k = if 24 * (8 * S + c) ≤ k ∧ k < 24 * (8 * S + c) + 24 then w.1 q (j + (k - 24 * (8 * S + c))) else w.1 76 k := by
  unfold w_ef
  rw [vm_si1b, if_neg (by omega), v_up1]
  by_cases z : 24 * (8 * S + c) ≤ k ∧ k < 24 * (8 * S + c) + 24
  · rw [if_pos ⟨rfl, z⟩, if_pos z]
  · rw [if_neg (fun y => z y.2), if_neg z, v_upo (by omega), vm_si1b, if_neg (by omega)]
theorem w_efG {o S n c p i q j : Nat} {K : Int32} (h8 : c < 8) (h1 : ∀ t k : Nat, t < n → k < 23 → v'.1 (21 + t) k = v.1 (21 + t) k) (h2 : ∀ P j : Nat, (P < 19 ∨ 48 < P) → ¬ (o ≤ P ∧ P ≤ o + 4) → v'.1 P j = v.1 P j) (h3 : v'.2 = v.2) : GF o S n v w v' (w_ef S K p i q j c w) := by
  refine ⟨h1, h2, h3, fun P k h => w_efo (by omega) (by omega) (by omega) (by omega), fun k _ => w_efo (by omega) (by omega) (by omega) (by omega), fun k _ => w_efo (by omega) (by omega) (by omega) (by omega), fun k hk => by rw [w_ef3, if_neg hk], fun k hk => by rw [w_ef4, if_neg (by omega)], fun k hk => ⟨by rw [w_ef5, if_neg (by omega)], by rw [w_ef6, if_neg (by omega)]⟩, rfl⟩
/-- an effect that is no LOAD -/
theorem pe_add {n a o S c st p i q j : Nat} {K A B : Int32} (h : ST n a v w o S c st) (ho : 48 < o ∧ o + 4 < 64) (h8 : c < 8) (hK : ¬ K = 8) (hQ : QE n v w K A B p i q j) : ST n a (v_ae o K A B c v) (w_ef S K p i q j c w) o S (c + 1) st ∧ GF o S n v w (v_ae o K A B c v) (w_ef S K p i q j c w) := by
  obtain ⟨hV, hA, hO, hL, h5, h78⟩ := h
  have n22 := hV.2.2.2.1
  have vl : ∀ P j : Nat, 19 ≤ P → P ≤ 48 → (v_ae o K A B c v).1 P j = v.1 P j := fun P j _ _ => v_aeo (by omega) (by omega)
  have hr : ∀ t k : Nat, t < n → k < 23 → (v_ae o K A B c v).1 (21 + t) k = v.1 (21 + t) k := fun t k _ _ => vl _ _ (by omega) (by omega)
  refine ⟨⟨VI_f hV vl rfl, AR_f n22 hA vl (w_efo (by omega) (by omega) (by omega) (by omega)) (fun P k _ _ => w_efo (by omega) (by omega) (by omega) (by omega)), ?_, ?_, (v_aeo (by omega) (by omega)).trans h5, nv_x (fun k _ => w_efo (by omega) (by omega) (by omega) (by omega)) h78⟩, w_efG h8 hr (fun P j _ hP => v_aeo (by omega) (by omega)) rfl⟩
  · refine OS_add hr (Nat.le_refl n) h8 (fun r => v_aeo (by omega) (by omega)) v_ae4 (fun P e h1 h2 he => v_aeo (by omega) (by omega)) v_aec (fun k _ _ => w_efo (by omega) (by omega) (by omega) (by omega)) (by rw [w_ef3, if_pos rfl]) (fun e he => by rw [w_ef4, if_neg (by omega)]) (by rw [w_ef4, if_pos rfl]) (fun k h1 h2 => ⟨by rw [w_ef5, if_neg (by omega)], by rw [w_ef6, if_neg (by omega)]⟩) (fun k hk => ⟨by rw [w_ef5, if_pos (by omega), show 24 * (8 * S + c) + k - 24 * (8 * S + c) = k by omega], by rw [w_ef6, if_pos (by omega), show 24 * (8 * S + c) + k - 24 * (8 * S + c) = k by omega]⟩) hQ hO
  · refine LD_x n22 n22 (AR_l hA) hr (Nat.le_refl a) (fun i _ => ⟨vl _ _ (by omega) (by omega), vl _ _ (by omega) (by omega), vl _ _ (by omega) (by omega)⟩) (fun i h1 h2 => by omega) (Nat.le_succ c) (fun P e h1 h2 he => v_aeo (by omega) (by omega)) (fun e h1 h2 => ?_) (fun i => w_efo (by omega) (by omega) (by omega) (by omega)) hL
    rw [show e = c by omega, v_aec.1]
    exact hK
/-- makeQuotient -/
theorem mk_q {n a l r : Nat} (hV : VI n a v) (hn : n < 22) (hr : r < n) (e : vE 108 0 [.ref 19, .int (Int32.ofNat l), .int (Int32.ofNat r)] [] v x) : (tI v r 1 → x = vr (Int32.ofNat l) v) ∧ (¬ tI v r 1 → vE 88 0 [.ref 19, .int 7, .int (Int32.ofNat l), .int (Int32.ofNat r), .retAddr 0, .retAddr 0] [] v x) := by
  simp only [q108_0, q108_1, q108_2, q108_3, ct107, exists_eq_left, vB_r, Nat.reduceAdd, q108_6] at e
  by_cases c1 : tI v r 1
  · rw [if_neg (fun q => (this_n hV hr).mp q c1)] at e
    simp only [q108_9, q108_10, q108_21] at e
    exact ⟨fun _ => e, fun q => absurd c1 q⟩
  · rw [if_pos ((this_n hV hr).mpr c1)] at e
    simp only [q108_13, q108_14, q108_16, q108_17, q108_18] at e
    obtain ⟨y, e1, e2⟩ := e
    obtain ⟨s', v', rfl⟩ := at_v (mk_at hV hn e1)
    simp only [vB_r, Nat.reduceAdd, q108_21] at e2
    rw [e2]
    exact ⟨fun q => absurd q c1, fun _ => e1⟩
/-- the class's quotient, where it is no number -/
theorem cq_x {n a l r o : Nat} (hV : VI n a v) (hn : n < 22) (hl : l < n) (hr : r < n) (e : vE 103 0 [.ref o, .ref 19, .int 7, .int (Int32.ofNat l), .int (Int32.ofNat r), .retAddr 0] [] v x) : (((∀ k : Nat, k < 23 → 1 ≤ k → v.1 (21 + l) k = 0) ∧ (∀ k : Nat, k < 23 → 1 ≤ k → v.1 (21 + r) k = 0) ∧ ¬ v.1 (21 + r) 0 = 0) → MK n a v (fun k => if k = 0 then v.1 (21 + l) 0 / v.1 (21 + r) 0 else 0) x) ∧ (¬ ((∀ k : Nat, k < 23 → 1 ≤ k → v.1 (21 + l) k = 0) ∧ (∀ k : Nat, k < 23 → 1 ≤ k → v.1 (21 + r) k = 0) ∧ ¬ v.1 (21 + r) 0 = 0) → (tI v r 1 → x = vr (Int32.ofNat l) v) ∧ (¬ tI v r 1 → vE 88 0 [.ref 19, .int 7, .int (Int32.ofNat l), .int (Int32.ofNat r), .retAddr 0, .retAddr 0] [] v x)) := by
  have dz : c_divZero v 7 (v.1 (21 + r) 0) = 0 ↔ ¬ v.1 (21 + r) 0 = 0 := by
    unfold c_divZero
    rw [if_pos rfl]
    by_cases z : v.1 (21 + r) 0 = 0
    · rw [if_pos z]
      exact ⟨fun q => absurd q i10, fun q => absurd z q⟩
    · rw [if_neg z]
      exact ⟨fun _ => z, fun _ => rfl⟩
  rcases cc_x hV hn hl hr e with ⟨_, c2, c3, c4, m⟩ | ⟨c1, z, e1⟩
  · refine ⟨fun _ => ?_, fun q => absurd ⟨c2, c3, dz.mp c4⟩ q⟩
    have : (fun k => if k = 0 then xC 7 (v.1 (21 + l) 0) (v.1 (21 + r) 0) else 0) = fun k : Nat => if k = 0 then v.1 (21 + l) 0 / v.1 (21 + r) 0 else 0 := by
      funext k
      by_cases k0 : k = 0
      · rw [if_pos k0, if_pos k0]
        show (if v.1 (21 + r) 0 = 0 then 0 else v.1 (21 + l) 0 / v.1 (21 + r) 0) = _
        rw [if_neg (dz.mp c4)]
      · rw [if_neg k0, if_neg k0]
    rw [← this]
    exact m
  · refine ⟨fun q => ?_, fun _ => ?_⟩
    · exfalso
      rcases c1 with c1 | c1 | c1
      · exact absurd c1 (by unfold c_isCalc; decide)
      · exact c1 ⟨q.1, q.2.1⟩
      · exact c1 (dz.mpr q.2.2)
    · simp only [q103_69, q103_70] at e1
      rw [if_neg (show ¬ (7 : Int32) = 2 from by decide), if_neg (show ¬ (7 : Int32) = 3 from by decide), if_neg (show ¬ (7 : Int32) = 4 from by decide), if_neg (show ¬ (7 : Int32) = 5 from by decide), if_neg (show ¬ (7 : Int32) = 6 from by decide), if_pos trivial] at e1
      simp only [q103_170, q103_171, q103_172, q103_174] at e1
      obtain ⟨y, e3, e4⟩ := e1
      obtain ⟨P1, P2⟩ := mk_q hV hn hr e3
      refine ⟨fun q => ?_, fun q => ?_⟩
      · rw [P1 q] at e4
        simpa only [vB_r, Nat.reduceAdd, q103_177] using e4
      · have e5 := P2 q
        obtain ⟨s', v', rfl⟩ := at_v (mk_at hV hn e5)
        simp only [vB_r, Nat.reduceAdd, q103_177] at e4
        rw [e4]
        exact e5
/-- OVER: both sides -/
theorem ji_7 {n a o S c st l r i j : Nat} (h : ST n a v w o S c st) (ho : 48 < o ∧ o + 4 < 64) (hS : S < 2) (hn : n < 22) (h8 : c < 8) (hl : l < n) (hr : r < n) (hi : i < 1000) (hj : j < 1000) (h1 : sv v w l 72 i) (h2 : sv v w r 72 j) {y : vm_Y} (e0 : vE 92 0 [.ref o, .ref 19, .int 7, .int (Int32.ofNat l), .int (Int32.ofNat r)] [] v y) (e1 : ∀ v1 : vm_V, y = vd v1 → vE 103 0 [.ref o, .ref 19, .int 7, .int (Int32.ofNat l), .int (Int32.ofNat r), .retAddr 0] [] v1 x1) (e2 : vE 184 0 [.ref 64, .int (Int32.ofNat S), .int (Int32.ofNat i), .int (Int32.ofNat j), .retAddr 0] [] w x2) : ∃ c' : Nat, c ≤ c' ∧ c' ≤ c + 1 ∧ IR n a v w o S c' st x1 x2 := by
  obtain ⟨hV, hA, hO, hL, h5, h78⟩ := h
  have h : ST n a v w o S c st := ⟨hV, hA, hO, hL, h5, h78⟩
  obtain ⟨T1, T2⟩ := nt_7 hV hr hO.2.1.1 (by omega) e0
  obtain ⟨D1, D2, D3⟩ := dv_x hV hn hA hi hj h1 h2 hS hO.2.1.2.1 h8 e2
  have wi : w.1 72 i = v.1 (21 + l) 0 := sv_0 h1
  have wj : w.1 72 j = v.1 (21 + r) 0 := sv_0 h2
  by_cases d1 : (∀ k : Nat, k < 23 → 1 ≤ k → v.1 (21 + l) k = 0) ∧ (∀ k : Nat, k < 23 → 1 ≤ k → v.1 (21 + r) k = 0) ∧ ¬ v.1 (21 + r) 0 = 0
  · have m := (cq_x hV hn hl hr (e1 v (T2 d1.2))).1 d1
    refine ⟨c, Nat.le_refl c, Nat.le_succ c, ir_j h ho (jk hA m (D1 d1) (fun k hk => ?_) rfl)⟩
    rw [wi, wj]
  · by_cases d2 : tI v r 1
    · have t : (∀ k : Nat, k < 23 → 1 ≤ k → v.1 (21 + r) k = 0) ∧ ¬ v.1 (21 + r) 0 = 0 := ⟨d2.1, fun z => absurd (d2.2.symm.trans z) (by decide)⟩
      have m := ((cq_x hV hn hl hr (e1 v (T2 t))).2 d1).1 d2
      exact ⟨c, Nat.le_refl c, Nat.le_succ c, ir_j h ho (jm hV hA hl m (D2 (fun z => d1 ⟨z, t⟩) d2) (fun k hk => h1 k hk))⟩
    · obtain ⟨w1, W, at1⟩ := D3 d1 d2
      have hQ : QE n v w 7 (Int32.ofNat l) (Int32.ofNat r) 72 i 72 j := ⟨l, hl, rfl, h1, Or.inr ⟨by decide, r, hr, rfl, h2⟩⟩
      have em : ∀ e : Nat, e < c → (eM v o 7 (Int32.ofNat l) (Int32.ofNat r) e ↔ rE w S 7 72 i 72 j e) := fun e he => em_re hV (hO.2.2 e he) hQ
      have plain : y = vd v → w1 = w → ∃ c' : Nat, c ≤ c' ∧ c' ≤ c + 1 ∧ IR n a v w o S c' st x1 x2 := fun g1 g2 => by
        subst g2
        have m := ((cq_x hV hn hl hr (e1 v g1)).2 d1).2 d2
        exact ⟨c, Nat.le_refl c, Nat.le_succ c, ir_j h ho (jb hV hn hA (by omega) (by omega) hi hj (by decide) (ne_d (Or.inr rfl) hl hr h1 h2) m at1)⟩
      by_cases t : (∀ k : Nat, k < 23 → 1 ≤ k → v.1 (21 + r) k = 0) ∧ ¬ v.1 (21 + r) 0 = 0
      · rcases W with ⟨W1, _⟩ | ⟨_, W2⟩
        · exact absurd t W1
        · exact plain (T2 t) W2
      · rcases T1 t with ⟨⟨e, g1, g2⟩, g3⟩ | ⟨g1, g2⟩
        · rcases W with ⟨_, W1, _⟩ | ⟨_, W2⟩
          · exact absurd ((em e g1).mp g2) (W1 e g1)
          · exact plain g3 W2
        · rcases W with ⟨_, _, W1⟩ | ⟨W1, _⟩
          · rw [addE_n hO.2.1.1 h8] at g2
            obtain ⟨s1, s2⟩ := pe_add h ho h8 (by decide) hQ
            subst W1
            have sV := s1.1
            have sA := s1.2.1
            have n22 := hV.2.2.2.1
            have rl : ∀ k : Nat, (v_ae o 7 (Int32.ofNat l) (Int32.ofNat r) c v).1 (21 + l) k = v.1 (21 + l) k := fun k => v_aeo (by omega) (by omega)
            have rr : ∀ k : Nat, (v_ae o 7 (Int32.ofNat l) (Int32.ofNat r) c v).1 (21 + r) k = v.1 (21 + r) k := fun k => v_aeo (by omega) (by omega)
            have hs1 : sv (v_ae o 7 (Int32.ofNat l) (Int32.ofNat r) c v) (w_ef S 7 72 i 72 j c w) l 72 i := sv_r (n := n) (fun t k _ _ => v_aeo (by omega) (by omega)) hl (fun k _ => w_efo (by omega) (by omega) (by omega) (by omega)) h1
            have hs2 : sv (v_ae o 7 (Int32.ofNat l) (Int32.ofNat r) c v) (w_ef S 7 72 i 72 j c w) r 72 j := sv_r (n := n) (fun t k _ _ => v_aeo (by omega) (by omega)) hr (fun k _ => w_efo (by omega) (by omega) (by omega) (by omega)) h2
            have m := ((cq_x sV hn hl hr (e1 _ g2)).2 (fun z => d1 ⟨fun k hk hk1 => (rl k).symm.trans (z.1 k hk hk1), fun k hk hk1 => (rr k).symm.trans (z.2.1 k hk hk1), fun q => z.2.2 ((rr 0).trans q)⟩)).2 (fun z => d2 ⟨fun k hk hk1 => (rr k).symm.trans (z.1 k hk hk1), (rr 0).symm.trans z.2⟩)
            exact ⟨c + 1, Nat.le_succ c, Nat.le_refl _, IR_tr s2 (ir_j s1 ho (jb sV hn sA (by omega) (by omega) hi hj (by decide) (ne_d (Or.inr rfl) hl hr hs1 hs2) m at1))⟩
          · rcases W1 with W1 | W1
            · exact absurd W1 t
            · exact absurd (fun e he z => g1 e he ((em e he).mpr z)) W1
end EK
