/-! a block: how it starts, its instructions -/
section EO
variable {v w v' w' v0 : vm_V} {x x1 x2 : vm_Y}
def uR (v : vm_V) (r : Nat) : Prop := ∀ i : Nat, i < r → v.1 44 i = -1 ∧ v.1 45 i = Int32.ofNat i ∧ v.1 46 i = 0 ∧ ∀ k : Nat, k < 23 → v.1 (21 + i) k = if k = 1 + i then 1 else 0
theorem cb_l : ∀ (m r : Nat) (v : vm_V), r + m = 6 → VI r r v → uR v r → vE 87 12 [.ref 19, .int (Int32.ofNat r)] [] v x → ∃ v' : vm_V, x = vd v' ∧ VI 6 6 v' ∧ uR v' 6 ∧ (∀ P j : Nat, P < 19 ∨ 48 < P → v'.1 P j = v.1 P j) ∧ v'.2 = v.2
  | 0, r, v, h, hV, hU, e => by
    obtain rfl : r = 6 := by omega
    rw [q87_12] at e
    simp only [q87_13, q87_15] at e
    rw [if_pos (show (6 : Int32) ≤ Int32.ofNat 6 from by decide)] at e
    simp only [q87_32] at e
    exact ⟨v, e, hV, hU, fun _ _ _ => rfl, rfl⟩
  | m + 1, r, v, h, hV, hU, e => by
    rw [q87_12] at e
    simp only [q87_13, q87_15] at e
    rw [if_neg (show ¬ (6 : Int32) ≤ Int32.ofNat r from nl (k := 6) (by omega) (by omega) (by omega))] at e
    simp only [q87_18, q87_19, q87_20, q87_21, q87_22] at e
    obtain ⟨y, e1, e2⟩ := e
    rcases mk_at hV (by omega) e1 with ⟨i, s, i1, i2, _⟩ | ⟨_, v', c2, c3, c4, c5, c6, c7, c8⟩
    · exfalso
      have := on_inj (by omega) (by omega) ((hU i i1).2.1.symm.trans i2.2.1)
      omega
    · subst c2
      simp only [vB_r, Nat.reduceAdd, q87_25, q87_26, q87_29, nn_s] at e2
      obtain ⟨b1, b2, b3, b4, b5, b6, b7, b8⟩ := c4
      obtain ⟨u, f1, f2, f3, f4, f5⟩ := cb_l m (r + 1) v' (by omega) c3 (fun i hi => by
        by_cases z : i = r
        · subst z
          exact ⟨c6, c7, c8, c5⟩
        · obtain ⟨d1, d2, d3, d4⟩ := hU i (by omega)
          obtain ⟨g1, g2, g3, _⟩ := b6 i (by omega)
          exact ⟨g1.trans d1, g2.trans d2, g3.trans d3, fun k hk => (b5 i k (by omega) hk).trans (d4 k hk)⟩) e2
      exact ⟨u, f1, f2, f3, fun P j hP => (f4 P j hP).trans (b7 P j hP), f5.trans b8⟩
/-- Values.begin -/
theorem cb_x (hl : ∀ t : Nat, t < 22 → v.2.2.2 (21 + t) = 23) (hl2 : v.2.2.2 48 = 23) (e : vE 87 0 [.ref 19, .retAddr 0] [] v x) : ∃ v' : vm_V, x = vd v' ∧ VI 6 6 v' ∧ uR v' 6 ∧ (∀ P j : Nat, P < 19 ∨ 48 < P → v'.1 P j = v.1 P j) ∧ v'.2 = v.2 := by
  simp only [q87_0, q87_1, q87_2, q87_5, q87_6, q87_7, q87_10, q87_11] at e
  have hV : VI 0 0 (vm_si (vm_si v 19 7 0) 19 8 0) := by
    refine ⟨?_, ?_, by omega, by omega, ⟨hl, hl2⟩, fun t ht => by omega, fun s t hs _ _ => by omega, fun t k ht _ _ => by omega, fun i hi => by omega⟩
    · rw [vm_si1b, if_neg (by omega), vm_si1b, if_pos ⟨rfl, rfl⟩]
      rfl
    · rw [vm_si1b, if_pos ⟨rfl, rfl⟩]
      rfl
  obtain ⟨v', f1, f2, f3, f4, f5⟩ := cb_l 6 0 _ rfl hV (fun i hi => by omega) e
  refine ⟨v', f1, f2, f3, fun P j hP => ?_, f5⟩
  rw [f4 P j hP, vm_si1b, if_neg (by omega), vm_si1b, if_neg (by omega)]
/-! the reference's begin -/
theorem ru_e {r s : Nat} (hr : r < 6) : vm_si (v_up 72 (144 * s + 24 * r) 24 (fun k => if k = 0 then 0 else 0) w) 72 (144 * s + 24 * r + 1 + r) 1 = v_up 72 (144 * s + 24 * r) 24 (fun k => if k = 1 + r then 1 else 0) w := by
  refine Prod.ext ?_ rfl
  funext P k
  rw [vm_si1b, v_up1, v_up1]
  by_cases h : P = 72 ∧ k = 144 * s + 24 * r + 1 + r
  · rw [if_pos h, if_pos (by omega), if_pos (by omega)]
  · rw [if_neg h]
    by_cases h2 : P = 72 ∧ 144 * s + 24 * r ≤ k ∧ k < 144 * s + 24 * r + 24
    · rw [if_pos h2, if_pos h2, ite_self, if_neg (by omega)]
    · rw [if_neg h2, if_neg h2]
theorem rb_i {r s : Nat} {l3 : Value} (hr : r < 6) (hs : s < 2) (e : vE 178 23 [.ref 64, .int (Int32.ofNat r), .int (Int32.ofNat s), l3] [] w x) : vE 178 23 [.ref 64, .int (Int32.ofNat r), .int (Int32.ofNat (s + 1)), .int (Int32.ofNat (144 * s + 24 * r))] [] (v_up 72 (144 * s + 24 * r) 24 (fun k => if k = 1 + r then 1 else 0) w) x := by
  have b1 : (144 : Int32) * Int32.ofNat s = Int32.ofNat (144 * s) := nn_mul 144 s
  rw [q178_23] at e
  simp only [q178_24, q178_25] at e
  rw [if_neg (show ¬ (2 : Int32) ≤ Int32.ofNat s from nl (k := 2) (by omega) (by omega) hs)] at e
  simp only [q178_28, q178_31, q178_32, q178_33, q178_35, q178_36, q178_37, q178_38, q178_39, q178_40, q178_43, q178_44, q178_45, b1, c24, nn_add, Nat.reduceAdd, ct179 (show 144 * s + 24 * r < 1000 by omega), exists_eq_left, vB_d, q178_48, q178_49, q178_52, q178_53, q178_54, q178_55, q178_56, q178_57, q178_58, q178_59, q178_62, nn_s] at e
  rw [nn_nat (show 144 * s + 24 * r + 1 + r < 2147483648 by omega), ru_e hr] at e
  exact e
def uW (w : vm_V) (r : Nat) : Prop := ∀ i : Nat, i < r → w.1 69 i = -1 ∧ ∀ s k : Nat, s < 2 → k < 24 → w.1 72 (144 * s + 24 * i + k) = if k = 1 + i then 1 else 0
theorem rb_l : ∀ (m r : Nat) (w : vm_V) (l2 l3 : Value), r + m = 6 → uW w r → vE 178 8 [.ref 64, .int (Int32.ofNat r), l2, l3] [] w x → ∃ w' : vm_V, x = vd w' ∧ uW w' 6 ∧ (∀ P j : Nat, P ≠ 69 → P ≠ 72 → w'.1 P j = w.1 P j) ∧ w'.2 = w.2
  | 0, r, w, l2, l3, h, hU, e => by
    obtain rfl : r = 6 := by omega
    rw [q178_8] at e
    simp only [q178_9, q178_11] at e
    rw [if_pos (show (6 : Int32) ≤ Int32.ofNat 6 from by decide)] at e
    simp only [q178_71] at e
    exact ⟨w, e, hU, fun _ _ _ _ => rfl, rfl⟩
  | m + 1, r, w, l2, l3, h, hU, e => by
    rw [q178_8] at e
    simp only [q178_9, q178_11] at e
    rw [if_neg (show ¬ (6 : Int32) ≤ Int32.ofNat r from nl (k := 6) (by omega) (by omega) (by omega))] at e
    simp only [q178_14, q178_15, q178_18, q178_19, q178_20, q178_21, q178_22, Nat.reduceAdd, nn_nat (show r < 2147483648 by omega)] at e
    have e := rb_i (s := 1) (by omega) (by omega) (rb_i (s := 0) (by omega) (by omega) e)
    rw [q178_23] at e
    simp only [q178_24, q178_25] at e
    rw [if_pos (show (2 : Int32) ≤ Int32.ofNat (1 + 1) from by decide)] at e
    simp only [q178_65, q178_68, nn_s] at e
    have wo : ∀ P j : Nat, P ≠ 69 → P ≠ 72 → (v_up 72 (144 * 1 + 24 * r) 24 (fun k => if k = 1 + r then 1 else 0) (v_up 72 (144 * 0 + 24 * r) 24 (fun k => if k = 1 + r then 1 else 0) (vm_si w 69 r (-1)))).1 P j = w.1 P j := fun P j h1 h2 => by
      rw [v_upo h2, v_upo h2, vm_si1b, if_neg (fun z => h1 z.1)]
    obtain ⟨w', f1, f2, f3, f4⟩ := rb_l m (r + 1) _ _ _ (by omega) (fun i hi => by
      refine ⟨?_, fun s k hs hk => ?_⟩
      · rw [v_upo (by omega), v_upo (by omega), vm_si1b]
        by_cases z : i = r
        · rw [if_pos ⟨rfl, z⟩]
        · rw [if_neg (fun y => z y.2)]
          exact (hU i (by omega)).1
      · by_cases z : i = r
        · subst z
          by_cases s1 : s = 1
          · subst s1
            rw [v_upi hk]
          · obtain rfl : s = 0 := by omega
            rw [v_up1, if_neg (by omega), v_upi hk]
        · rw [v_up1, if_neg (by omega), v_up1, if_neg (by omega), vm_si1b, if_neg (by omega)]
          exact (hU i (by omega)).2 s k hs hk) e
    exact ⟨w', f1, f2, fun P j h1 h2 => (f3 P j h1 h2).trans (wo P j h1 h2), f4⟩
theorem rb_x (e : vE 178 0 [.ref 64, .retAddr 0, .retAddr 0, .retAddr 0] [] w x) : ∃ w' : vm_V, x = vd w' ∧ uW w' 6 ∧ w'.1 64 5 = Int32.ofNat 6 ∧ (∀ P j : Nat, P ≠ 69 → P ≠ 72 → ¬ (P = 64 ∧ j = 5) → w'.1 P j = w.1 P j) ∧ w'.2 = w.2 := by
  simp only [q178_0, q178_1, q178_3, q178_6, q178_7] at e
  obtain ⟨w', f1, f2, f3, f4⟩ := rb_l 6 0 _ _ _ rfl (fun i hi => by omega) e
  refine ⟨w', f1, f2, ?_, fun P j h1 h2 h3 => ?_, f4⟩
  · rw [f3 64 5 (by omega) (by omega), vm_si1b, if_pos ⟨rfl, rfl⟩]
    rfl
  · rw [f3 P j h1 h2, vm_si1b, if_neg h3]
/-- both have begun -/
def BG (n : Nat) (v w : vm_V) (S : Nat) : Prop := 6 ≤ n ∧ ∀ r : Nat, r < 6 → sv v w r 72 (144 * S + 24 * r)
theorem bg_x (hV : VI 6 6 v) (hU : uR v 6) (hW : uW w 6) (h5 : w.1 64 5 = Int32.ofNat 6) : AR 6 6 v w ∧ ∀ S : Nat, S < 2 → BG 6 v w S := by
  refine ⟨⟨h5, fun i hi => ⟨(hW i hi).1.trans (hU i hi).1.symm, Or.inl (hU i hi).1⟩, fun i j hi hj q => ?_⟩, fun S hS => ⟨Nat.le_refl 6, fun r hr k hk => ?_⟩⟩
  · have := q.2.1
    rw [(hU j hj).2.1, (hU i hi).2.1] at this
    exact (on_inj (by omega) (by omega) this).symm
  · rw [(hW r hr).2 S k hS hk]
    unfold rx
    by_cases z : k < 23
    · rw [if_pos z, (hU r hr).2.2.2 k z]
    · rw [if_neg z, if_neg (by omega)]
/-- the class: registers are themselves -/
theorem lp90 {o p b : Nat} {l5 l6 l7 l8 l9 l10 : Value} : ∀ (m r : Nat), r + m = 6 → (vE 90 13 [.ref o, .ref 19, .ref p, .int (Int32.ofNat b), .int (Int32.ofNat r), l5, l6, l7, l8, l9, l10] [] (v_up (o + 1) 0 r (fun k => Int32.ofNat k) v) x ↔ vE 90 35 [.ref o, .ref 19, .ref p, .int (Int32.ofNat b), .int (Int32.ofNat 6), l5, l6, l7, l8, l9, l10] [] (v_up (o + 1) 0 6 (fun k => Int32.ofNat k) v) x)
  | 0, r, h => by
    obtain rfl : r = 6 := by omega
    rw [q90_13]
    simp only [q90_15, q90_17]
    rw [if_pos (show (6 : Int32) ≤ Int32.ofNat 6 from by decide)]
  | m + 1, r, h => by
    rw [q90_13]
    simp only [q90_15, q90_17]
    rw [if_neg (show ¬ (6 : Int32) ≤ Int32.ofNat r from nl (k := 6) (by omega) (by omega) (by omega))]
    simp only [q90_20, q90_21, q90_24, q90_26, q90_28, q90_29, q90_32, nn_s, nn_nat (show r < 2147483648 by omega)]
    have e := v_upS (v := v) (q := o + 1) (j := 0) (n := r) (g := fun k => Int32.ofNat k)
    rw [Nat.zero_add] at e
    rw [e]
    exact lp90 m (r + 1) (by omega)
def c_f0 (o : Nat) (v : vm_V) : vm_V := v_up (o + 1) 0 6 (fun k => Int32.ofNat k) (vm_si (vm_si v o 4 0) o 5 0)
theorem c_f0o {o P j : Nat} (h1 : ¬ (P = o ∧ (j = 4 ∨ j = 5))) (h2 : P ≠ o + 1) : (c_f0 o v).1 P j = v.1 P j := by
  unfold c_f0
  rw [v_upo h2, vm_si1b, if_neg (by omega), vm_si1b, if_neg (by omega)]
theorem ff_0 {o p b : Nat} {l4 l5 l6 l7 l8 l9 l10 : Value} (e : vE 90 0 [.ref o, .ref 19, .ref p, .int (Int32.ofNat b), l4, l5, l6, l7, l8, l9, l10] [] v x) : vE 90 45 [.ref o, .ref 19, .ref p, .int (Int32.ofNat b), .int (c_lengthOf (c_f0 o v) p (Int32.ofNat b)), .int 0, l6, l7, l8, l9, l10] [] (c_f0 o v) x := by
  simp only [q90_0, q90_1, q90_2, q90_5, q90_6, q90_7, q90_10, q90_11] at e
  have L := lp90 (v := vm_si (vm_si v o 4 0) o 5 0) (x := x) (o := o) (p := p) (b := b) (l5 := l5) (l6 := l6) (l7 := l7) (l8 := l8) (l9 := l9) (l10 := l10) 6 0 rfl
  rw [v_up0] at L
  have e := L.mp e
  simp only [q90_35, q90_36, q90_37, ct31, exists_eq_left, vB_r, Nat.reduceAdd, q90_40, q90_42, q90_43] at e
  exact e
/-- the reference: nothing is loaded -/
theorem lp180 {S P b l : Nat} {L4 L5 : Value} : ∀ (m r : Nat), r + m = 22 → (vE 180 50 [.ref 64, .int (Int32.ofNat S), .int (Int32.ofNat P), .int (Int32.ofNat b), L4, L5, .int (Int32.ofNat r)] [] (v_up 92 0 r (fun _ => 0) w) x ↔ vE 180 71 [.ref 64, .int (Int32.ofNat S), .int (Int32.ofNat P), .int (Int32.ofNat b), L4, L5, .int (Int32.ofNat 22)] [] (v_up 92 0 22 (fun _ => 0) w) x)
  | 0, r, h => by
    obtain rfl : r = 22 := by omega
    rw [q180_50]
    simp only [q180_52, q180_54]
    rw [if_pos (show (22 : Int32) ≤ Int32.ofNat 22 from by decide)]
  | m + 1, r, h => by
    rw [q180_50]
    simp only [q180_52, q180_54]
    rw [if_neg (show ¬ (22 : Int32) ≤ Int32.ofNat r from nl (k := 22) (by omega) (by omega) (by omega))]
    simp only [q180_57, q180_58, q180_61, q180_63, q180_64, q180_65, q180_68, nn_s, Nat.reduceAdd, nn_nat (show r < 2147483648 by omega), z01]
    have e := v_upS (v := w) (q := 92) (j := 0) (n := r) (g := fun _ => 0)
    rw [Nat.zero_add] at e
    rw [e]
    exact lp180 (l := l) m (r + 1) (by omega)
def r_f0 (S : Nat) (w : vm_V) : vm_V := v_up 92 0 22 (fun _ => 0) (v_up 78 0 24 (fun k => if k = 0 then 0 else 0) (vm_si w 73 S 0))
theorem r_f0o {S P j : Nat} (h1 : ¬ (P = 73 ∧ j = S)) (h2 : P ≠ 78) (h3 : P ≠ 92) : (r_f0 S w).1 P j = w.1 P j := by
  unfold r_f0
  rw [v_upo h3, v_upo h2, vm_si1b, if_neg h1]
theorem wo_0 {S P b : Nat} (hS : S < 2) (hP : P < 2) (hb : b < 6) (e : vE 180 0 [.ref 64, .int (Int32.ofNat S), .int (Int32.ofNat P), .int (Int32.ofNat b), .retAddr 0, .retAddr 0, .retAddr 0] [] w x) : vE 180 74 [.ref 64, .int (Int32.ofNat S), .int (Int32.ofNat P), .int (Int32.ofNat b), .int (Int32.ofNat (6 * P + b)), .int (if w.1 65 P ≤ Int32.ofNat b then 0 else w.1 66 (6 * P + b)), .int 0] [] (r_f0 S w) x := by
  have i6 : (6 : Int32) * Int32.ofNat P + Int32.ofNat b = Int32.ofNat (6 * P + b) := by
    rw [show (6 : Int32) = Int32.ofNat 6 from rfl, nn_mul, nn_add]
  have s0 : ∀ (u : vm_V) (y : vm_Y), vE 179 0 [.ref 78, .int 0, .int 0, .retAddr 0] [] u y ↔ y = vd (v_up 78 0 24 (fun k => if k = 0 then 0 else 0) u) := fun u y => ct179 (p := 78) (i := 0) (z := 0) (by omega)
  simp only [q180_0, q180_2, q180_3, q180_4, q180_5, q180_6, q180_8, q180_9, q180_10, q180_13, q180_14, q180_15, Nat.reduceAdd, i6, nn_nat (show P < 2147483648 by omega)] at e
  have go : ∀ z : Int32, vE 180 29 [.ref 64, .int (Int32.ofNat S), .int (Int32.ofNat P), .int (Int32.ofNat b), .int (Int32.ofNat (6 * P + b)), .retAddr 0, .retAddr 0] [.int z] w x → vE 180 74 [.ref 64, .int (Int32.ofNat S), .int (Int32.ofNat P), .int (Int32.ofNat b), .int (Int32.ofNat (6 * P + b)), .int z, .int 0] [] (r_f0 S w) x := fun z e => by
    simp only [q180_29, q180_31, q180_32, q180_35, q180_36, q180_37, q180_38, q180_39, q180_42, q180_43, q180_44, Nat.reduceAdd, nn_nat (show S < 2147483648 by omega), s0, exists_eq_left, vB_d, q180_47, q180_48] at e
    have L := lp180 (w := v_up 78 0 24 (fun k => if k = 0 then 0 else 0) (vm_si w 73 S 0)) (x := x) (S := S) (P := P) (b := b) (l := 0) (L4 := .int (Int32.ofNat (6 * P + b))) (L5 := .int z) 22 0 rfl
    rw [v_up0] at L
    have e := L.mp e
    simp only [q180_71, q180_72] at e
    exact e
  by_cases c : w.1 65 P ≤ Int32.ofNat b
  · rw [if_pos c] at e ⊢
    simp only [q180_28] at e
    exact go 0 e
  · rw [if_neg c] at e ⊢
    simp only [q180_18, q180_19, q180_22, q180_24, q180_25, Nat.reduceAdd, nn_nat (show 6 * P + b < 2147483648 by omega)] at e
    exact go _ e
/-- the start of a side -/
theorem st_0 {n a o S : Nat} (ho : 48 < o ∧ o + 4 < 64) (hV : VI n a v) (hA : AR n a v w) (hB : BG n v w S) : ST n a (c_f0 o v) (r_f0 S w) o S 0 0 ∧ GF o S n v w (c_f0 o v) (r_f0 S w) := by
  have n22 := hV.2.2.2.1
  have vl : ∀ P j : Nat, 19 ≤ P → P ≤ 48 → (c_f0 o v).1 P j = v.1 P j := fun P j _ _ => c_f0o (by omega) (by omega)
  have hr : ∀ t k : Nat, t < n → k < 23 → (c_f0 o v).1 (21 + t) k = v.1 (21 + t) k := fun t k _ _ => vl _ _ (by omega) (by omega)
  refine ⟨⟨VI_f hV vl rfl, AR_f n22 hA vl (r_f0o (by omega) (by omega) (by omega)) (fun P k _ _ => r_f0o (by omega) (by omega) (by omega)), ⟨fun r hr6 => ⟨r, by have := hB.1; omega, ?_, sv_r hr (by have := hB.1; omega) (fun k _ => r_f0o (by omega) (by omega) (by omega)) (hB.2 r hr6)⟩, ⟨?_, ?_, by omega⟩, fun e he => by omega⟩, ⟨fun e he => by omega, fun i _ _ => ⟨fun _ e he => by omega, fun q => ?_⟩, fun i _ hi => ?_⟩, ?_, fun k hk => ?_⟩, hr, fun P j h1 h2 => c_f0o (by omega) (by omega), rfl, fun P j h => r_f0o (by omega) (by omega) (by omega), fun j _ => r_f0o (by omega) (by omega) (by omega), fun j _ => r_f0o (by omega) (by omega) (by omega), fun j h => r_f0o (by omega) (by omega) (by omega), fun j _ => r_f0o (by omega) (by omega) (by omega), fun j _ => ⟨r_f0o (by omega) (by omega) (by omega), r_f0o (by omega) (by omega) (by omega)⟩, rfl⟩
  · unfold c_f0
    rw [v_up1, if_pos (by omega)]
    rfl
  · unfold c_f0
    rw [v_upo (by omega), vm_si1b, if_neg (by omega), vm_si1b, if_pos ⟨rfl, rfl⟩]
    rfl
  · unfold r_f0
    rw [v_upo (by omega), v_upo (by omega), vm_si1b, if_pos ⟨rfl, rfl⟩]
    rfl
  · exfalso
    refine q ?_
    unfold r_f0
    rename_i hi _
    have := hV.2.2.1
    rw [v_up1, if_pos (by omega)]
  · unfold r_f0
    rw [v_up1, if_pos (by omega)]
  · unfold c_f0
    rw [v_upo (by omega), vm_si1b, if_pos ⟨rfl, rfl⟩]
    rfl
  · unfold r_f0
    rw [v_upo (by omega), v_upi hk]
    rfl
/-- the instructions of a block -/
theorem bl_x {o S p P cc b len : Nat} (ho : 48 < o ∧ o + 4 < 64) (hS : S < 2) (hP : P < 2) (hp : p + 3 < 19) (hD : prD p P cc v0) (hb : 0 < len → b < cc) (hb6 : b < 6) (hl : len ≤ 8) : ∀ (m i n a c st : Nat) (v w : vm_V) (l6 l7 l8 l9 l10 : Value), i + m = len → ST n a v w o S c st → n + m ≤ 22 → c ≤ i → (∀ q j : Nat, q < 19 → v.1 q j = v0.1 q j) → (∀ j : Nat, j < 384 → w.1 67 j = v0.1 67 j) → vE 90 45 [.ref o, .ref 19, .ref p, .int (Int32.ofNat b), .int (Int32.ofNat len), .int (Int32.ofNat i), l6, l7, l8, l9, l10] [] v x1 → vE 180 74 [.ref 64, .int (Int32.ofNat S), .int (Int32.ofNat P), .int (Int32.ofNat b), .int (Int32.ofNat (6 * P + b)), .int (Int32.ofNat len), .int (Int32.ofNat i)] [] w x2 → ∃ (n' a' c' st' : Nat) (v' w' : vm_V) (m6 m7 m8 m9 m10 : Value), ST n' a' v' w' o S c' st' ∧ n ≤ n' ∧ n' ≤ n + m ∧ GF o S n v w v' w' ∧ vE 90 151 [.ref o, .ref 19, .ref p, .int (Int32.ofNat b), .int (Int32.ofNat len), .int (Int32.ofNat len), m6, m7, m8, m9, m10] [] v' x1 ∧ vE 180 102 [.ref 64, .int (Int32.ofNat S), .int (Int32.ofNat P), .int (Int32.ofNat b), .int (Int32.ofNat (6 * P + b)), .int (Int32.ofNat len), .int (Int32.ofNat len)] [] w' x2
  | 0, i, n, a, c, st, v, w, l6, l7, l8, l9, l10, h, hT, _, _, _, _, e1, e2 => by
    obtain rfl : i = len := by omega
    rw [q90_45] at e1
    simp only [q90_47, q90_49] at e1
    rw [if_pos (Int32.le_refl _)] at e1
    rw [q180_74] at e2
    simp only [q180_76, q180_78] at e2
    rw [if_pos (Int32.le_refl _)] at e2
    exact ⟨n, a, c, st, v, w, _, _, _, _, _, hT, Nat.le_refl n, Nat.le_refl n, GF_rf, e1, e2⟩
  | m + 1, i, n, a, c, st, v, w, l6, l7, l8, l9, l10, h, hT, hn, hc, hv, hw, e1, e2 => by
    rw [q90_45] at e1
    simp only [q90_47, q90_49] at e1
    rw [if_neg (nl (by omega) (by omega) (by omega))] at e1
    rw [q180_74] at e2
    simp only [q180_76, q180_78] at e2
    rw [if_neg (nl (by omega) (by omega) (by omega))] at e2
    have iq : (32 : Int32) * Int32.ofNat (6 * P + b) + 4 * Int32.ofNat i = Int32.ofNat (192 * P + 4 * (8 * b + i)) := by
      rw [show (32 : Int32) = Int32.ofNat 32 from rfl, show (4 : Int32) = Int32.ofNat 4 from rfl, nn_mul, nn_mul, nn_add, show 32 * (6 * P + b) + 4 * i = 192 * P + 4 * (8 * b + i) by omega]
    simp only [q180_81, q180_82, q180_83, q180_85, q180_87, q180_88, q180_89, q180_91, q180_92, q180_93, iq] at e2
    obtain ⟨y, e3, e4⟩ := e2
    obtain ⟨n', a', c', st', v', w', m6, m7, m8, m9, m10, f1, f2, f3, f4, f5, f6, f7⟩ := sp_x (x2 := y) hT ho hS (by omega) (by omega) hP hp hD hv hw (hb (by omega)) (by omega) e1 e3
    subst f2
    simp only [vB_d, Nat.reduceAdd, q180_96, q180_99, nn_s] at e4
    obtain ⟨n2, a2, c2, st2, v2, w2, k6, k7, k8, k9, k10, g1, g2, g3, g4, g5, g6⟩ := bl_x ho hS hP hp hD hb hb6 hl m (i + 1) n' a' c' st' v' w' m6 m7 m8 m9 m10 (by omega) f3 (by omega) (by omega) (fun q j hq => (f7.2.1 q j (Or.inl hq) (by omega)).trans (hv q j hq)) (fun j hj => (f7.2.2.2.1 67 j (by omega)).trans (hw j hj)) f1 e4
    exact ⟨n2, a2, c2, st2, v2, w2, k6, k7, k8, k9, k10, g1, by omega, by omega, GF_tr f7 g4 f4, g5, g6⟩
end EO
