/-! check: both sides -/
section EU
variable {xs : List Int32} {H H1 : am_H} {v w v' w' v0 v1 v2 : vm_V} {x x1 x2 : vm_Y}
/-- the class's workings-out end -/
theorem wk_ex (hI : lw_I xs H) (hw : vw v H) (b b2 : Int32) : ∃ y : vm_Y, vE 86 0 [.ref 18, .ref 3, .int b, .ref 7, .int b2] [] v y := by
  obtain ⟨a1, a2⟩ := gh_ok_a (ss := tc_170.1.2.2.1) (L := [.ref 18, .ref 3, .int b, .ref 7, .int b2]) (And.intro (fun _ => rfl) (And.intro (fun _ => rfl) (And.intro (fun _ => gh_i _) (And.intro (fun _ => rfl) (And.intro (fun _ => gh_i _) trivial)))))
  obtain ⟨⟨o, H1⟩, r1, r2⟩ := tm_ok _ tm_m170 tc_170.1.2.2.2 [.ref 18, .ref 3, .int b, .ref 7, .int b2] H ⟨⟨Nat.le_refl _, Nat.le_refl _⟩, a1, a2, hI.1, fun q hq => absurd hq List.not_mem_nil⟩
  obtain ⟨v', e1, _⟩ := vE_of (v := v) rfl hw r1
  exact ⟨_, e1⟩
def b1_ (z : Int32) : Nat := if z = -1 then 0 else 1
theorem b1_1 {z : Int32} : b1_ z ≤ 1 := by
  unfold b1_
  split <;> omega
def cS (v : vm_V) : Nat := b1_ (v.1 59 0) + b1_ (v.1 59 1) + b1_ (v.1 59 2) + b1_ (v.1 59 3) + b1_ (v.1 59 4) + b1_ (v.1 59 5)
theorem cS_lt {s : Nat} (hs : s < 6) (h : v.1 59 s = -1) : cS v < 6 := by
  have z : b1_ (v.1 59 s) = 0 := if_pos h
  have h0 := b1_1 (z := v.1 59 0)
  have h1 := b1_1 (z := v.1 59 1)
  have h2 := b1_1 (z := v.1 59 2)
  have h3 := b1_1 (z := v.1 59 3)
  have h4 := b1_1 (z := v.1 59 4)
  have h5 := b1_1 (z := v.1 59 5)
  unfold cS
  have : s = 0 ∨ s = 1 ∨ s = 2 ∨ s = 3 ∨ s = 4 ∨ s = 5 := by omega
  rcases this with rfl | rfl | rfl | rfl | rfl | rfl <;> omega
theorem m1t (t : Nat) (h : t < 6) : ¬ Int32.ofNat t = -1 := m1n t (by omega)
theorem cS_up {s t : Nat} (hs : s < 6) (ht : t < 6) (h : v.1 59 s = -1) (hv : ∀ q : Nat, v'.1 59 q = if q = s then Int32.ofNat t else v.1 59 q) : cS v' = cS v + 1 := by
  have z : b1_ (v.1 59 s) = 0 := if_pos h
  have z2 : b1_ (Int32.ofNat t) = 1 := if_neg (m1t t ht)
  unfold cS
  rw [hv 0, hv 1, hv 2, hv 3, hv 4, hv 5]
  have : s = 0 ∨ s = 1 ∨ s = 2 ∨ s = 3 ∨ s = 4 ∨ s = 5 := by omega
  rcases this with rfl | rfl | rfl | rfl | rfl | rfl
  · rw [if_pos rfl, if_neg (by omega), if_neg (by omega), if_neg (by omega), if_neg (by omega), if_neg (by omega)]
    omega
  · rw [if_neg (by omega), if_pos rfl, if_neg (by omega), if_neg (by omega), if_neg (by omega), if_neg (by omega)]
    omega
  · rw [if_neg (by omega), if_neg (by omega), if_pos rfl, if_neg (by omega), if_neg (by omega), if_neg (by omega)]
    omega
  · rw [if_neg (by omega), if_neg (by omega), if_neg (by omega), if_pos rfl, if_neg (by omega), if_neg (by omega)]
    omega
  · rw [if_neg (by omega), if_neg (by omega), if_neg (by omega), if_neg (by omega), if_pos rfl, if_neg (by omega)]
    omega
  · rw [if_neg (by omega), if_neg (by omega), if_neg (by omega), if_neg (by omega), if_neg (by omega), if_pos rfl]
    omega
def CK (np : Nat) (v w : vm_V) : Prop := v.1 18 5 = Int32.ofNat np ∧ v.1 18 6 = 0 ∧ w.1 64 25 = Int32.ofNat np ∧ (∀ j : Nat, j < np → ∃ s t : Nat, s < 6 ∧ t < 6 ∧ v.1 60 j = Int32.ofNat s ∧ w.1 83 j = Int32.ofNat s ∧ w.1 84 j = Int32.ofNat t ∧ v.1 59 s = Int32.ofNat t) ∧ (∀ s : Nat, s < 6 → v.1 59 s = w.1 85 s ∧ (v.1 59 s = -1 ∨ ∃ j : Nat, j < np ∧ v.1 60 j = Int32.ofNat s)) ∧ np = cS v
theorem CK_6 {np : Nat} (h : CK np v w) : np ≤ 6 := by
  have h0 := b1_1 (z := v.1 59 0)
  have h1 := b1_1 (z := v.1 59 1)
  have h2 := b1_1 (z := v.1 59 2)
  have h3 := b1_1 (z := v.1 59 3)
  have h4 := b1_1 (z := v.1 59 4)
  have h5 := b1_1 (z := v.1 59 5)
  have := h.2.2.2.2.2
  unfold cS at this
  omega
/-- nothing of it is written -/
theorem CK_f {np : Nat} (h : CK np v w) (hv : ∀ P j : Nat, P = 18 ∨ P = 59 ∨ P = 60 → v'.1 P j = v.1 P j) (hw : ∀ P j : Nat, (82 < P ∧ P < 86) ∨ (P = 64 ∧ j = 25) → w'.1 P j = w.1 P j) : CK np v' w' := by
  obtain ⟨h1, h2, h3, h4, h5, h6⟩ := h
  refine ⟨(hv _ _ (by omega)).trans h1, (hv _ _ (by omega)).trans h2, (hw _ _ (by omega)).trans h3, fun j hj => ?_, fun s hs => ?_, ?_⟩
  · obtain ⟨s, t, p1, p2, p3, p4, p5, p6⟩ := h4 j hj
    exact ⟨s, t, p1, p2, (hv _ _ (by omega)).trans p3, (hw _ _ (by omega)).trans p4, (hw _ _ (by omega)).trans p5, (hv _ _ (by omega)).trans p6⟩
  · obtain ⟨p1, p2⟩ := h5 s hs
    refine ⟨(hv _ _ (by omega)).trans (p1.trans (hw _ _ (by omega)).symm), ?_⟩
    rcases p2 with p2 | ⟨j, j1, j2⟩
    · exact Or.inl ((hv _ _ (by omega)).trans p2)
    · exact Or.inr ⟨j, j1, (hv _ _ (by omega)).trans j2⟩
  · rw [h6]
    unfold cS
    rw [hv 59 0 (by omega), hv 59 1 (by omega), hv 59 2 (by omega), hv 59 3 (by omega), hv 59 4 (by omega), hv 59 5 (by omega)]
def BS (j np : Nat) (w : vm_V) : Prop := w.1 64 25 = Int32.ofNat np ∧ j < np ∧ (∀ i : Nat, i < np → ∃ s t : Nat, s < 6 ∧ t < 6 ∧ w.1 83 i = Int32.ofNat s ∧ w.1 84 i = Int32.ofNat t) ∧ ∃ s t : Nat, s < 6 ∧ t < 6 ∧ w.1 83 j = Int32.ofNat s ∧ w.1 84 j = Int32.ofNat t ∧ ¬ w.1 85 s = -1 ∧ ¬ w.1 85 s = Int32.ofNat t
theorem BS_f {j np : Nat} (h : BS j np w) (hw : ∀ P k : Nat, (82 < P ∧ P < 86) ∨ (P = 64 ∧ k = 25) → w'.1 P k = w.1 P k) : BS j np w' := by
  obtain ⟨h1, h2, h3, s, t, h4, h5, h6, h7, h8, h9⟩ := h
  refine ⟨(hw _ _ (by omega)).trans h1, h2, fun i hi => ?_, s, t, h4, h5, (hw _ _ (by omega)).trans h6, (hw _ _ (by omega)).trans h7, by rw [hw _ _ (by omega)]; exact h8, by rw [hw _ _ (by omega)]; exact h9⟩
  obtain ⟨s, t, p1, p2, p3, p4⟩ := h3 i hi
  exact ⟨s, t, p1, p2, (hw _ _ (by omega)).trans p3, (hw _ _ (by omega)).trans p4⟩
/-- a meet more -/
theorem BS_mt {j np s t : Nat} (h : BS j np w) (hs : s < 6) (ht : t < 6) (hn : np < 99) (e : vE 176 0 [.ref 64, .int (Int32.ofNat s), .int (Int32.ofNat t), .retAddr 0] [] w x) : ∃ (u : vm_V) (np' : Nat), x = vd u ∧ BS j np' u ∧ np ≤ np' ∧ np' ≤ np + 1 ∧ (∀ P k : Nat, P ≠ 83 → P ≠ 84 → P ≠ 85 → ¬ (P = 64 ∧ k = 25) → u.1 P k = w.1 P k) ∧ u.2 = w.2 := by
  rcases rm_x h.1 (by omega) hs e with ⟨_, g⟩ | ⟨_, g⟩
  · exact ⟨w, np, g, h, Nat.le_refl np, Nat.le_succ np, fun _ _ _ _ _ _ => rfl, rfl⟩
  · obtain ⟨h1, h2, h3, s0, t0, h4, h5, h6, h7, h8, h9⟩ := h
    refine ⟨_, np + 1, g, ⟨w_mtn, by omega, fun i hi => ?_, s0, t0, h4, h5, ?_, ?_, ?_, ?_⟩, Nat.le_succ np, Nat.le_refl _, fun P k q1 q2 q3 q4 => w_mto q1 q2 q3 q4, w_mt2⟩
    · by_cases z : i = np
      · exact ⟨s, t, hs, ht, by rw [w_mt3, if_pos z], by rw [w_mt4, if_pos z]⟩
      · obtain ⟨s, t, p1, p2, p3, p4⟩ := h3 i (by omega)
        exact ⟨s, t, p1, p2, by rw [w_mt3, if_neg z]; exact p3, by rw [w_mt4, if_neg z]; exact p4⟩
    · rw [w_mt3, if_neg (by omega)]
      exact h6
    · rw [w_mt4, if_neg (by omega)]
      exact h7
    · rw [w_mt5, if_neg (fun q => by rw [q.1] at h8; exact h8 q.2)]
      exact h8
    · rw [w_mt5, if_neg (fun q => by rw [q.1] at h8; exact h8 q.2)]
      exact h9
/-- a meet: both sides -/
theorem mt_j {np s t : Nat} (h : CK np v w) (hs : s < 6) (ht : t < 6) (e : vE 176 0 [.ref 64, .int (Int32.ofNat s), .int (Int32.ofNat t), .retAddr 0] [] w x) : ∃ u : vm_V, x = vd u ∧ (∀ P k : Nat, P ≠ 83 → P ≠ 84 → P ≠ 85 → ¬ (P = 64 ∧ k = 25) → u.1 P k = w.1 P k) ∧ u.2 = w.2 ∧ (∀ P k : Nat, P ≠ 18 → P ≠ 59 → P ≠ 60 → (c_meet v (Int32.ofNat s) (Int32.ofNat t)).1 P k = v.1 P k) ∧ (c_meet v (Int32.ofNat s) (Int32.ofNat t)).2 = v.2 ∧ ((∃ np' : Nat, np ≤ np' ∧ CK np' (c_meet v (Int32.ofNat s) (Int32.ofNat t)) u) ∨ ((c_meet v (Int32.ofNat s) (Int32.ofNat t)).1 18 6 = 1 ∧ BS np (np + 1) u)) := by
  have n6 := CK_6 h
  obtain ⟨h1, h2, h3, h4, h5, h6⟩ := h
  have h : CK np v w := ⟨h1, h2, h3, h4, h5, h6⟩
  obtain ⟨p1, p2⟩ := h5 s hs
  have ns := nn_nat (show s < 2147483648 by omega)
  have base : c_meet v (Int32.ofNat s) (Int32.ofNat t) = if v.1 59 s = Int32.ofNat t then v else if v.1 59 s = -1 then if 6 ≤ Int32.ofNat np then v else vm_si (vm_si (vm_si v 59 s (Int32.ofNat t)) 60 np (Int32.ofNat s)) 18 5 (Int32.ofNat (np + 1)) else c_refuse v 1 (Int32.ofNat s) (Int32.ofNat t) := by
    have q1 : (vm_si v 59 s (Int32.ofNat t)).1 18 5 = Int32.ofNat np := by
      rw [si_o (by omega)]
      exact h1
    have q2 : (vm_si (vm_si v 59 s (Int32.ofNat t)) 60 np (Int32.ofNat s)).1 18 5 = Int32.ofNat np := by
      rw [si_o (by omega)]
      exact q1
    unfold c_meet
    rw [if_pos h2, if_neg (nn_n0 (by omega)), if_neg (show ¬ (6 : Int32) ≤ Int32.ofNat s from nl (k := 6) (by omega) (by omega) hs), ns, h1, if_neg (nn_n0 (by omega)), q1, nn_nat (show np < 2147483648 by omega), q2, nn_s]
  have ex : (∃ j : Nat, j < np ∧ pM w s t j) ↔ v.1 59 s = Int32.ofNat t := by
    constructor
    · rintro ⟨j, j1, j2, j3⟩
      obtain ⟨s', t', r1, r2, r3, r4, r5, r6⟩ := h4 j j1
      obtain rfl : s' = s := on_inj (by omega) (by omega) (r4.symm.trans j2)
      obtain rfl : t' = t := on_inj (by omega) (by omega) (r5.symm.trans j3)
      exact r6
    · intro q
      rcases p2 with p2 | ⟨j, j1, j2⟩
      · exact absurd (q.symm.trans p2) (m1t t ht)
      · obtain ⟨s', t', r1, r2, r3, r4, r5, r6⟩ := h4 j j1
        obtain rfl : s' = s := on_inj (by omega) (by omega) (r3.symm.trans j2)
        obtain rfl : t' = t := on_inj (by omega) (by omega) (r6.symm.trans q)
        exact ⟨j, j1, r4, r5⟩
  rw [base]
  rcases rm_x h3 (by omega) hs e with ⟨g1, g2⟩ | ⟨g1, g2⟩
  · have q := ex.mp g1
    rw [if_pos q]
    exact ⟨w, g2, fun _ _ _ _ _ _ => rfl, rfl, fun _ _ _ _ _ => rfl, rfl, Or.inl ⟨np, Nat.le_refl np, h⟩⟩
  · have q : ¬ v.1 59 s = Int32.ofNat t := fun z => by
      obtain ⟨j, j1, j2⟩ := ex.mpr z
      exact g1 j j1 j2
    rw [if_neg q]
    by_cases z : v.1 59 s = -1
    · have lt : np < 6 := by
        rw [h6]
        exact cS_lt hs z
      have z85 : w.1 85 s = -1 := p1.symm.trans z
      rw [if_pos z, if_neg (show ¬ (6 : Int32) ≤ Int32.ofNat np from nl (k := 6) (by omega) (by omega) lt)]
      have v59 : ∀ k : Nat, (vm_si (vm_si (vm_si v 59 s (Int32.ofNat t)) 60 np (Int32.ofNat s)) 18 5 (Int32.ofNat (np + 1))).1 59 k = if k = s then Int32.ofNat t else v.1 59 k := fun k => by
        rw [si_o (by omega), si_o (by omega), vm_si1b]
        by_cases y : k = s
        · rw [if_pos ⟨rfl, y⟩, if_pos y]
        · rw [if_neg (fun q => y q.2), if_neg y]
      have v60 : ∀ k : Nat, (vm_si (vm_si (vm_si v 59 s (Int32.ofNat t)) 60 np (Int32.ofNat s)) 18 5 (Int32.ofNat (np + 1))).1 60 k = if k = np then Int32.ofNat s else v.1 60 k := fun k => by
        rw [si_o (by omega), vm_si1b]
        by_cases y : k = np
        · rw [if_pos ⟨rfl, y⟩, if_pos y]
        · rw [if_neg (fun q => y q.2), if_neg y, si_o (by omega)]
      refine ⟨_, g2, fun P k q1 q2 q3 q4 => w_mto q1 q2 q3 q4, w_mt2, fun P k q1 q2 q3 => by rw [si_o q1, si_o q3, si_o q2], rfl, Or.inl ⟨np + 1, Nat.le_succ np, si_s, ?_, w_mtn, fun j hj => ?_, fun r hr => ?_, ?_⟩⟩
      · rw [si_n (by omega), si_o (by omega), si_o (by omega)]
        exact h2
      · by_cases y : j = np
        · exact ⟨s, t, hs, ht, by rw [v60, if_pos y], by rw [w_mt3, if_pos y], by rw [w_mt4, if_pos y], by rw [v59, if_pos rfl]⟩
        · obtain ⟨s', t', r1, r2, r3, r4, r5, r6⟩ := h4 j (by omega)
          refine ⟨s', t', r1, r2, by rw [v60, if_neg y]; exact r3, by rw [w_mt3, if_neg y]; exact r4, by rw [w_mt4, if_neg y]; exact r5, ?_⟩
          rw [v59, if_neg (fun q => by rw [q] at r6; exact absurd (r6.symm.trans z) (m1t t' r2))]
          exact r6
      · rw [v59, w_mt5]
        by_cases y : r = s
        · rw [if_pos y, if_pos ⟨y, z85⟩]
          exact ⟨rfl, Or.inr ⟨np, by omega, by rw [v60, if_pos rfl, y]⟩⟩
        · rw [if_neg y, if_neg (fun q => y q.1)]
          obtain ⟨r1, r2⟩ := h5 r hr
          refine ⟨r1, ?_⟩
          rcases r2 with r2 | ⟨j, j1, j2⟩
          · exact Or.inl r2
          · exact Or.inr ⟨j, by omega, by rw [v60, if_neg (by omega)]; exact j2⟩
      · rw [cS_up hs ht z v59, h6]
    · rw [if_neg z]
      refine ⟨_, g2, fun P k q1 q2 q3 q4 => w_mto q1 q2 q3 q4, w_mt2, fun P k q1 q2 q3 => by unfold c_refuse; rw [si_o q1, si_o q1, si_o q1], rfl, Or.inr ⟨?_, w_mtn, by omega, fun i hi => ?_, s, t, hs, ht, by rw [w_mt3, if_pos rfl], by rw [w_mt4, if_pos rfl], ?_, ?_⟩⟩
      · unfold c_refuse
        rw [si_n (by omega), si_n (by omega), si_s]
      · by_cases y : i = np
        · exact ⟨s, t, hs, ht, by rw [w_mt3, if_pos y], by rw [w_mt4, if_pos y]⟩
        · obtain ⟨s', t', r1, r2, r3, r4, r5, r6⟩ := h4 i (by omega)
          exact ⟨s', t', r1, r2, by rw [w_mt3, if_neg y]; exact r4, by rw [w_mt4, if_neg y]; exact r5⟩
      · rw [w_mt5, if_neg (fun q => z (p1.trans q.2)), ← p1]
        exact z
      · rw [w_mt5, if_neg (fun q => z (p1.trans q.2)), ← p1]
        exact q
theorem cm_d {a b : Int32} (h : ¬ v.1 18 6 = 0) : c_meet v a b = v := if_neg h
/-- the class has refused -/
theorem cl_end {i : Int32} {l2 l3 : Value} (h : ¬ v.1 18 6 = 0) (e : vE 78 9 [.ref 2, .int i, l2, l3] [] v x) : x = vt 13 (vm_si v 2 7 1) := by
  have hr : (vm_si v 2 7 1).1 18 6 = v.1 18 6 := si_o (by omega)
  have fin : vE 78 76 [.ref 2, .int i, l2, l3] [] v x → x = vt 13 (vm_si v 2 7 1) := fun e => by
    simp only [q78_76, q78_77, q78_78, q78_81, q78_82, q78_85, Nat.reduceAdd, ct119, c_reason, hr, exists_eq_left, vB_r, q78_88] at e
    rw [if_neg h] at e
    simpa only [q78_91] using e
  rw [q78_9] at e
  simp only [q78_10, q78_12] at e
  by_cases z : (6 : Int32) ≤ i
  · rw [if_pos z] at e
    exact fin e
  · rw [if_neg z] at e
    simp only [q78_15, q78_16, q78_19, q78_20, Nat.reduceAdd, ct83, c_isW, if_neg h, exists_eq_left, vB_r, q78_23] at e
    rw [if_pos trivial] at e
    exact fin e
/-- the reference has refused -/
theorem rf_end {k : Int32} (h : ¬ w.1 64 20 ≤ 0) (h0 : ¬ w.1 64 20 = 0) (e : vE 175 48 [.ref 64, .int k] [] w x) : x = vr 0 (vm_si w 64 0 1) := by
  have fin : vE 175 119 [.ref 64, .int k] [] w x → x = vr 0 (vm_si w 64 0 1) := fun e => by
    simp only [q175_119, q175_120, q175_123] at e
    rw [if_neg h] at e
    simpa only [q175_126, q175_127, q175_128, ct153, r_fail, exists_eq_left, vB_r, Nat.reduceAdd, q175_131, q175_138] using e
  rw [q175_48] at e
  simp only [q175_49, q175_50, q175_53] at e
  by_cases z : w.1 64 25 ≤ k
  · rw [if_pos z] at e
    exact fin e
  · rw [if_neg z] at e
    simp only [q175_56, q175_57, q175_60] at e
    rw [if_neg h0] at e
    exact fin e
/-- the reference's loop: one look -/
theorem rl_x {k s t : Nat} {y : vm_Y} (hk : k < 1000) (hs : w.1 83 k = Int32.ofNat s) (ht : w.1 84 k = Int32.ofNat t) (e : vB 175 77 [.ref 64, .int (Int32.ofNat k)] [.ref 64] y x) : (∀ (r : Int32) (u : vm_V), y = vr r u → ¬ r = 0 → ¬ r ≤ 0 → ∃ u' : vm_V, x = vr 0 u' ∧ u'.1 64 0 = 1) ∧ (∀ u : vm_V, y = vr 0 u → vE 175 48 [.ref 64, .int (Int32.ofNat (k + 1))] [] (vm_si u 64 20 0) x) := by
  refine ⟨fun r u hy h0 h1 => ?_, fun u hy => ?_⟩
  · subst hy
    simp only [vB_r, Nat.reduceAdd, q175_80, q175_83, q175_84, si_s, q175_87] at e
    rw [if_neg h0] at e
    simp only [q175_93, q175_94, q175_95, q175_98, q175_99, q175_100, q175_103, q175_104, q175_105, q175_108, q175_109, q175_110, q175_113, q175_116, Nat.reduceAdd, nn_s] at e
    have a20 : ∀ (g : vm_V) (z1 z2 : Int32), (vm_si (vm_si (vm_si g 64 20 r) 64 21 z1) 64 22 z2).1 64 20 = r := fun g z1 z2 => by
      rw [si_n (by omega), si_n (by omega), si_s]
    refine ⟨_, rf_end ?_ ?_ e, si_s⟩
    · rw [a20]
      exact h1
    · rw [a20]
      exact h0
  · subst hy
    simp only [vB_r, Nat.reduceAdd, q175_80, q175_83, q175_84, si_s, q175_87] at e
    rw [if_pos trivial] at e
    simpa only [q175_90, q175_113, q175_116, nn_s] using e
theorem prD_f {p P c : Nat} (hp : P = 0 ∧ p = 3 ∨ P = 1 ∧ p = 7) (hv : ∀ q j : Nat, 3 ≤ q → q ≤ 10 → v.1 q j = v0.1 q j) (hw : ∀ q j : Nat, rng q j → v.1 q j = v0.1 q j) (h : prD p P c v0) : prD p P c v := by
  obtain ⟨d1, d2, d3, d4, d5, d6, d7, d8⟩ := h
  refine ⟨d1, (hv _ _ (by omega) (by omega)).trans d2, (hw _ _ (by unfold rng; omega)).trans d3, fun b hb => ?_, fun k hk => ?_, fun k hk => ?_, fun k hk => ?_, fun b hb => ?_⟩
  · obtain ⟨n, n1, n2, n3⟩ := d4 b hb
    exact ⟨n, n1, (hv _ _ (by omega) (by omega)).trans n2, (hw _ _ (by unfold rng; omega)).trans n3⟩
  · rw [hv _ _ (by omega) (by omega), hw _ _ (by unfold rng; omega)]
    exact d5 k hk
  · rw [hv _ _ (by omega) (by omega), hw _ _ (by unfold rng; omega)]
    exact d6 k hk
  · rw [hw _ _ (by unfold rng; omega), hw _ _ (by unfold rng; omega), hw _ _ (by unfold rng; omega), hw _ _ (by unfold rng; omega)]
    exact d7 k hk
  · rw [hw _ _ (by unfold rng; omega), hw _ _ (by unfold rng; omega), hw _ _ (by unfold rng; omega), hw _ _ (by unfold rng; omega)]
    exact d8 b hb
/-- look, where the partner is the one: both worked out -/
theorem lk_2 {cc dd s t : Nat} (hD : prD 3 0 cc v) (hD2 : prD 7 1 dd v) (hs : s < 6) (ht : t < 6) (hl : (∀ t : Nat, t < 22 → v.2.2.2 (21 + t) = 23) ∧ v.2.2.2 48 = 23) (hw : ∀ q j : Nat, rng q j → w.1 q j = v.1 q j) (hp : w.1 85 s = Int32.ofNat t) (e1 : vE 86 0 [.ref 18, .ref 3, .int (Int32.ofNat s), .ref 7, .int (Int32.ofNat t)] [] v x1) (e2 : vE 177 0 [.ref 64, .int (Int32.ofNat s), .int (Int32.ofNat t)] [] w x2) : ∃ (n a c d : Nat) (v' w' : vm_V), x1 = vd v' ∧ vE 177 30 [.ref 64, .int (Int32.ofNat s), .int (Int32.ofNat t)] [] w' x2 ∧ PR n a c d v' w' ∧ (∀ P j : Nat, (P < 19 ∨ 58 < P) → v'.1 P j = v.1 P j) ∧ v'.2 = v.2 ∧ (∀ P j : Nat, (P < 64 ∨ (64 < P ∧ P < 69) ∨ (82 < P ∧ P ≠ 92)) → w'.1 P j = w.1 P j) ∧ (∀ j : Nat, j ≠ 5 → w'.1 64 j = w.1 64 j) ∧ w'.2 = w.2 := by
  simp only [q177_0, q177_1, q177_4, q177_5, q177_6, q177_7, Nat.reduceAdd, nn_nat (show s < 2147483648 by omega), hp] at e2
  rw [if_pos trivial] at e2
  simp only [q177_12, q177_13] at e2
  obtain ⟨y2, s3, s4⟩ := e2
  refine two (Q := fun u => vE 177 30 [.ref 64, .int (Int32.ofNat s), .int (Int32.ofNat t)] [] u x2) hD hD2 hs ht hl (fun _ _ _ => rfl) hw e1 ⟨y2, s3, fun u hu => ?_⟩
  subst hu
  simp only [vB_d, Nat.reduceAdd, q177_16, q177_17, q177_18, q177_19, q177_20] at s4
  obtain ⟨y3, s5, s6⟩ := s4
  refine ⟨y3, s5, fun u hu => ?_⟩
  subst hu
  simp only [vB_d, Nat.reduceAdd, q177_23, q177_24, q177_25, q177_26, q177_27] at s6
  obtain ⟨y4, s7, s8⟩ := s6
  refine ⟨y4, s7, fun u hu => ?_⟩
  subst hu
  simpa only [vB_d, Nat.reduceAdd] using s8
theorem lk_1 {s t : Nat} (hs : s < 6) (hp : ¬ w.1 85 s = Int32.ofNat t) (e2 : vE 177 0 [.ref 64, .int (Int32.ofNat s), .int (Int32.ofNat t)] [] w x2) : x2 = vr 1 w := by
  simp only [q177_0, q177_1, q177_4, q177_5, q177_6, q177_7, Nat.reduceAdd, nn_nat (show s < 2147483648 by omega)] at e2
  rw [if_neg hp] at e2
  simpa only [q177_10, q177_11] using e2
/-- a pair that cannot correspond waits: the reference refuses in the end -/
theorem bs_l {j cc dd : Nat} (hI : lw_I xs H) (hw0 : vw v H) (hl : (∀ t : Nat, t < 22 → v.2.2.2 (21 + t) = 23) ∧ v.2.2.2 48 = 23) (hD : prD 3 0 cc v) (hD2 : prD 7 1 dd v) : ∀ (m k np : Nat) (w : vm_V), k + m = j → BS j np w → np + 2 * m < 90 → w.1 64 20 = 0 → (∀ q j : Nat, rng q j → w.1 q j = v.1 q j) → vE 175 48 [.ref 64, .int (Int32.ofNat k)] [] w x → ∃ u : vm_V, x = vr 0 u ∧ u.1 64 0 = 1 := by
  intro m
  induction m with
  | zero =>
    intro k np w h hB hn h20 hr e
    obtain rfl : k = j := by omega
    obtain ⟨b1, b2, b3, s, t, b4, b5, b6, b7, b8, b9⟩ := hB
    rw [q175_48] at e
    simp only [q175_49, q175_50, q175_53, b1] at e
    rw [if_neg (nl (by omega) (by omega) (by omega))] at e
    simp only [q175_56, q175_57, q175_60, h20] at e
    rw [if_pos trivial] at e
    simp only [q175_63, q175_64, q175_65, q175_66, q175_69, q175_70, q175_71, q175_72, q175_75, q175_76, q175_77, Nat.reduceAdd, nn_nat (show k < 2147483648 by omega), b6, b7] at e
    obtain ⟨y, e1, e2⟩ := e
    have y1 := lk_1 b4 b9 e1
    exact (rl_x (by omega) b6 b7 e2).1 1 w y1 i10 (by decide)
  | succ m ih =>
    intro k np w h hB hn h20 hr e
    obtain ⟨b1, b2, b3, b4⟩ := hB
    have hB : BS j np w := ⟨b1, b2, b3, b4⟩
    obtain ⟨s, t, c1, c2, c3, c4⟩ := b3 k (by omega)
    rw [q175_48] at e
    simp only [q175_49, q175_50, q175_53, b1] at e
    rw [if_neg (nl (by omega) (by omega) (by omega))] at e
    simp only [q175_56, q175_57, q175_60, h20] at e
    rw [if_pos trivial] at e
    simp only [q175_63, q175_64, q175_65, q175_66, q175_69, q175_70, q175_71, q175_72, q175_75, q175_76, q175_77, Nat.reduceAdd, nn_nat (show k < 2147483648 by omega), c3, c4] at e
    obtain ⟨y, e1, e2⟩ := e
    obtain ⟨R1, R2⟩ := rl_x (by omega) c3 c4 e2
    by_cases z : w.1 85 s = Int32.ofNat t
    · obtain ⟨y1, E1⟩ := wk_ex hI hw0 (Int32.ofNat s) (Int32.ofNat t)
      obtain ⟨n, a, c, d, v', w', g1, g2, g3, g4, g5, g6, g7, g8⟩ := lk_2 hD hD2 c1 c2 hl hr z E1 e1
      obtain ⟨kk, x0, x3, k1, k2, k3, k4, k5, k6, L1, L2, L3, L4, L5, L6⟩ := lt_x g3 g2
      have BS' : BS j np w' := BS_f hB (fun P q h => by
        rcases h with h | ⟨rfl, rfl⟩
        · exact g6 P q (by omega)
        · exact g7 25 (by omega))
      have nx : ∀ (u : vm_V) (np' : Nat), y = vr 0 u → BS j np' u → np ≤ np' → np' ≤ np + 2 → (∀ P q : Nat, P ≠ 83 → P ≠ 84 → P ≠ 85 → ¬ (P = 64 ∧ q = 25) → u.1 P q = w'.1 P q) → ∃ u : vm_V, x = vr 0 u ∧ u.1 64 0 = 1 := fun u np' hy hB' q1 q2 hq => by
        refine ih (k + 1) np' (vm_si u 64 20 0) (by omega) (BS_f hB' (fun P q h => by rw [vm_si1b, if_neg (by omega)])) (by omega) si_s (fun q i h => ?_) (R2 u hy)
        have q2 : 65 ≤ q ∧ q ≤ 68 := by
          unfold rng at h
          omega
        rw [vm_si1b, if_neg (by omega), hq q i (by omega) (by omega) (by omega) (by omega), g6 q i (by omega)]
        exact hr q i h
      by_cases p1 : pA1 c d v'
      · by_cases p2 : pA2 v'
        · by_cases q2 : kk = 2
          · exact nx w' np (L4 p1 p2 q2) BS' (by omega) (by omega) (fun _ _ _ _ _ _ => rfl)
          · by_cases p3 : pA3 v'
            · by_cases q0 : kk = 0
              · obtain ⟨y2, M1, M2⟩ := L5 p1 p2 q0 p3
                obtain ⟨u, np', u1, u2, u3, u4, u5, u6⟩ := BS_mt BS' k2 k3 (by omega) M1
                exact nx u np' (M2 u u1 (u5 79 0 (by omega) (by omega) (by omega) (by omega))) u2 (by omega) (by omega) u5
              · obtain ⟨y0, y3, r1, r2, _, _, y2, M1, M2⟩ := L6 p1 p2 (by omega) p3
                obtain ⟨u, np', u1, u2, u3, u4, u5, u6⟩ := BS_mt BS' k2 k3 (by omega) M1
                obtain ⟨y4, M3, M4⟩ := M2 u u1 (fun P q _ _ => u5 P q (by omega) (by omega) (by omega) (by omega))
                obtain ⟨u', np2, v1, v2, v3, v4, v5, v6⟩ := BS_mt u2 r1 r2 (by omega) M3
                exact nx u' np2 (M4 u' v1) v2 (by omega) (by omega) (fun P q a1 a2 a3 a4 => (v5 P q a1 a2 a3 a4).trans (u5 P q a1 a2 a3 a4))
            · exact R1 4 w' (L3 p1 p2 q2 p3) (by decide) (by decide)
        · exact R1 3 w' (L2 p1 p2) (by decide) (by decide)
      · exact R1 2 w' (L1 p1) (by decide) (by decide)
    · exact R1 1 w (lk_1 c1 z e1) i10 (by decide)
end EU
