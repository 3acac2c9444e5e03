/-! order: the next one is the same, and there is one -/
section ORB
variable {v w v0 w0 : vm_V} {c b n : Nat}
theorem fn_ls (hB : pB0 c v0 w0) (h : lS v0 w0 v w) (hb : b < c) (hn : n ≤ 8) (hp : ∀ q : Nat, q < n → v.1 17 q = w.1 89 q) (hh : ∀ q : Nat, q < n → v.1 16 q = w.1 88 q ∧ 1 ≤ (w.1 88 q).toInt) {nn : Int32} : ∀ (k i : Nat) (bs bh : Int32), i + k = n → ((bs = -1 ∧ bh = 0) ∨ ∃ q : Nat, q < i ∧ bs = Int32.ofNat q ∧ bh = v.1 16 q) → c_fnl v (Int32.ofNat b) (Int32.ofNat n) k (Int32.ofNat i) bs bh = r_fnl w (Int32.ofNat b) nn k (Int32.ofNat i) bs ∧ ((r_fnl w (Int32.ofNat b) nn k (Int32.ofNat i) bs = -1 ∧ bs = -1 ∧ ∀ q : Nat, i ≤ q → q < n → ¬ rdy (sF w 67 b) (fun p => w.1 89 p) q) ∨ ∃ t : Nat, t < n ∧ r_fnl w (Int32.ofNat b) nn k (Int32.ofNat i) bs = Int32.ofNat t ∧ (bs = Int32.ofNat t ∨ rdy (sF w 67 b) (fun p => w.1 89 p) t))
  | 0, i, bs, bh, hi, hs => by
    unfold c_fnl r_fnl
    refine ⟨rfl, ?_⟩
    rcases hs with ⟨rfl, rfl⟩ | ⟨q, q1, rfl, rfl⟩
    · exact Or.inl ⟨rfl, rfl, fun q q1 q2 => by omega⟩
    · exact Or.inr ⟨q, by omega, rfl, Or.inl rfl⟩
  | k + 1, i, bs, bh, hi, hs => by
    obtain ⟨n', f1, f2, f3, f4, f5, f6, f7, f8⟩ := lS_f hB h hb
    have hc := hB.1
    have hf := if_ls (b := b) (i := i) f2 hc hb (by omega) i 0 (by omega)
    have h01 : (if w.1 89 i = 0 then (1 : Int32) else 0) = 0 ∨ (if w.1 89 i = 0 then (1 : Int32) else 0) = 1 := by
      by_cases q : w.1 89 i = 0
      · rw [if_pos q]; exact Or.inr rfl
      · rw [if_neg q]; exact Or.inl rfl
    have hr := rd_ls (w := w) (b := b) (i := i) (nn := nn) (bs := bs) (by omega) (by omega) f8 i 0 (if w.1 89 i = 0 then 1 else 0) (by omega) h01
    have hi0 : ((Int32.ofNat i).toInt - (0 : Int32).toInt).toNat = i := by
      rw [Int32.toInt_ofNat_of_lt (by omega), show (0 : Int32).toInt = 0 from rfl]
      omega
    -- the class's
    have cR : (v.1 17 i = 0 ∧ ¬ c_isFree v (Int32.ofNat b) (Int32.ofNat i) = 0) ↔ rdy (sF w 67 b) (fun p => w.1 89 p) i := by
      unfold c_isFree rdy
      have hf' : _ ↔ ¬ c_ifl v (Int32.ofNat b) (Int32.ofNat i) i 0 = 0 := pp hf
      rw [hi0, ← hf', hp i (by omega)]
      constructor
      · rintro ⟨a1, a2⟩
        refine ⟨a1, fun q q1 q2 q3 => a2 q (by omega) q1 ((hp q (by omega)).trans q2) ((cg_sDep f7 (by omega) (by omega)).mpr q3)⟩
      · rintro ⟨a1, a2⟩
        refine ⟨a1, fun q _ q1 q2 q3 => a2 q q1 ((hp q (by omega)).symm.trans q2) ((cg_sDep f7 (by omega) (by omega)).mp q3)⟩
    have rR : (¬ r_rdl w (Int32.ofNat b) nn bs (Int32.ofNat i) ((Int32.ofNat i).toInt - (0 : Int32).toInt).toNat 0 (if w.1 89 i = 0 then 1 else 0) = 0) ↔ rdy (sF w 67 b) (fun p => w.1 89 p) i := by
      rw [hi0]
      refine (not_congr hr).trans ?_
      unfold rdy
      rw [Classical.not_not]
      constructor
      · rintro ⟨a1, a2⟩
        by_cases q : w.1 89 i = 0
        · exact ⟨q, fun p p1 p2 => a2 p (by omega) p1 p2⟩
        · rw [if_neg q] at a1
          exact absurd a1.symm i10'
      · rintro ⟨a1, a2⟩
        rw [if_pos a1]
        exact ⟨rfl, fun q _ q1 q2 => a2 q q1 q2⟩
    have hhi := hh i (by omega)
    unfold c_fnl r_fnl
    rw [if_neg (show ¬ (8 : Int32) ≤ Int32.ofNat i from nl (k := 8) (by omega) (by omega) (by omega)), nn_s, nn_nat (by omega)]
    by_cases R : rdy (sF w 67 b) (fun p => w.1 89 p) i
    · obtain ⟨c1, c2⟩ := cR.mpr R
      have r1 := rR.mpr R
      rw [if_pos c1, if_pos c1, if_neg r1]
      rcases hs with ⟨rfl, rfl⟩ | ⟨q, q1, rfl, rfl⟩
      · have h0 : ¬ v.1 16 i ≤ 0 := fun q => by
          have := Int32.le_iff_toInt_le.mp q
          rw [hhi.1] at this
          have t0 : (0 : Int32).toInt = 0 := rfl
          omega
        rw [if_neg h0, if_neg h0, if_neg c2, if_neg c2, if_pos rfl]
        obtain ⟨g1, g2⟩ := fn_ls hB h hb hn hp hh k (i + 1) (Int32.ofNat i) (v.1 16 i) (by omega) (Or.inr ⟨i, by omega, rfl, rfl⟩)
        refine ⟨g1, ?_⟩
        rcases g2 with ⟨_, y2, _⟩ | ⟨t, t1, t2, t3⟩
        · exact absurd y2 (m1n i (by omega))
        · refine Or.inr ⟨t, t1, t2, Or.inr ?_⟩
          rcases t3 with t3 | t3
          · have := (nn_eq (by omega) (by omega)).mp t3
            rw [← this]
            exact R
          · exact t3
      · rw [if_neg (m1n q (by omega)), nn_nat (a := q) (by omega)]
        have e1 := hhi.1
        have e2 := (hh q (by omega)).1
        by_cases l : v.1 16 i ≤ v.1 16 q
        · rw [if_pos l, if_pos l, if_pos (by rw [← e1, ← e2]; exact l)]
          obtain ⟨g1, g2⟩ := fn_ls hB h hb hn hp hh k (i + 1) (Int32.ofNat q) (v.1 16 q) (by omega) (Or.inr ⟨q, by omega, rfl, rfl⟩)
          refine ⟨g1, ?_⟩
          rcases g2 with ⟨_, y2, _⟩ | g2
          · exact absurd y2 (m1n q (by omega))
          · exact Or.inr g2
        · rw [if_neg l, if_neg l, if_neg c2, if_neg c2, if_neg (by rw [← e1, ← e2]; exact l)]
          obtain ⟨g1, g2⟩ := fn_ls hB h hb hn hp hh k (i + 1) (Int32.ofNat i) (v.1 16 i) (by omega) (Or.inr ⟨i, by omega, rfl, rfl⟩)
          refine ⟨g1, ?_⟩
          rcases g2 with ⟨_, y2, _⟩ | ⟨t, t1, t2, t3⟩
          · exact absurd y2 (m1n i (by omega))
          · refine Or.inr ⟨t, t1, t2, Or.inr ?_⟩
            rcases t3 with t3 | t3
            · have := (nn_eq (by omega) (by omega)).mp t3
              rw [← this]
              exact R
            · exact t3
    · have r1 : r_rdl w (Int32.ofNat b) nn bs (Int32.ofNat i) ((Int32.ofNat i).toInt - (0 : Int32).toInt).toNat 0 (if w.1 89 i = 0 then 1 else 0) = 0 := Classical.byContradiction (fun q => R (rR.mp q))
      rw [if_pos r1]
      have hb1 : (if v.1 17 i = 0 then if v.1 16 i ≤ bh then bs else if c_isFree v (Int32.ofNat b) (Int32.ofNat i) = 0 then bs else Int32.ofNat i else bs) = bs := by
        by_cases a1 : v.1 17 i = 0
        · rw [if_pos a1]
          by_cases a2 : c_isFree v (Int32.ofNat b) (Int32.ofNat i) = 0
          · rw [if_pos a2]
            split <;> rfl
          · exact absurd (cR.mp ⟨a1, a2⟩) R
        · rw [if_neg a1]
      have hb2 : (if v.1 17 i = 0 then if v.1 16 i ≤ bh then bh else if c_isFree v (Int32.ofNat b) (Int32.ofNat i) = 0 then bh else v.1 16 i else bh) = bh := by
        by_cases a1 : v.1 17 i = 0
        · rw [if_pos a1]
          by_cases a2 : c_isFree v (Int32.ofNat b) (Int32.ofNat i) = 0
          · rw [if_pos a2]
            split <;> rfl
          · exact absurd (cR.mp ⟨a1, a2⟩) R
        · rw [if_neg a1]
      rw [hb1, hb2]
      obtain ⟨g1, g2⟩ := fn_ls hB h hb hn hp hh k (i + 1) bs bh (by omega) (by
        rcases hs with s | ⟨q, q1, q2⟩
        · exact Or.inl s
        · exact Or.inr ⟨q, by omega, q2⟩)
      refine ⟨g1, ?_⟩
      rcases g2 with ⟨y1, y2, y3⟩ | g2
      · refine Or.inl ⟨y1, y2, fun q q1 q2 => ?_⟩
        by_cases e : q = i
        · rw [e]; exact R
        · exact y3 q (by omega) q2
      · exact Or.inr g2
/-- how many are placed -/
def cnp (f : Nat → Int32) : Nat → Nat
  | 0 => 0
  | n + 1 => cnp f n + if f n = 0 then 0 else 1
theorem cnp_ex {f : Nat → Int32} : ∀ {n : Nat}, cnp f n < n → ∃ q : Nat, q < n ∧ f q = 0 ∧ ∀ p : Nat, p < q → ¬ f p = 0
  | 0, h => by omega
  | n + 1, h => by
    by_cases q : cnp f n < n
    · obtain ⟨p, p1, p2⟩ := cnp_ex q
      exact ⟨p, by omega, p2⟩
    · simp only [cnp] at h
      by_cases z : f n = 0
      · have al : ∀ m : Nat, cnp f m ≤ m := by
          intro m
          induction m with
          | zero => exact Nat.le_refl _
          | succ m ih =>
            simp only [cnp]
            split <;> omega
        have no : ∀ m : Nat, cnp f m = m → ∀ p : Nat, p < m → ¬ f p = 0 := by
          intro m
          induction m with
          | zero => intro _ p hp; omega
          | succ m ih =>
            intro e p hp
            simp only [cnp] at e
            have := al m
            by_cases y : f m = 0
            · rw [if_pos y] at e
              omega
            · rw [if_neg y] at e
              by_cases e2 : p = m
              · rw [e2]; exact y
              · exact ih (by omega) p (by omega)
        have := al n
        exact ⟨n, by omega, z, no n (by omega)⟩
      · rw [if_neg z] at h
        omega
theorem cnp_cg {f g : Nat → Int32} : ∀ {n : Nat}, (∀ q : Nat, q < n → f q = g q) → cnp f n = cnp g n
  | 0, _ => rfl
  | n + 1, h => by
    simp only [cnp]
    rw [cnp_cg (n := n) (fun q hq => h q (by omega)), h n (by omega)]
theorem cnp_up {f g : Nat → Int32} {t : Nat} : ∀ {n : Nat}, t < n → f t = 0 → ¬ g t = 0 → (∀ q : Nat, q < n → q ≠ t → f q = g q) → cnp g n = cnp f n + 1
  | 0, h, _, _, _ => by omega
  | n + 1, ht, h1, h2, h3 => by
    simp only [cnp]
    by_cases e : t = n
    · subst e
      rw [if_pos h1, if_neg h2, cnp_cg (f := f) (g := g) (fun q hq => h3 q (by omega) (by omega))]
    · rw [cnp_up (by omega) h1 h2 (fun q hq hq2 => h3 q (by omega) hq2), h3 n (by omega) (by omega)]
      omega
theorem cnp_0 {f : Nat → Int32} : ∀ {n : Nat}, (∀ q : Nat, q < n → f q = 0) → cnp f n = 0
  | 0, _ => rfl
  | n + 1, h => by
    simp only [cnp]
    rw [cnp_0 (n := n) (fun q hq => h q (by omega)), if_pos (h n (by omega))]
/-- four fields are copied -/
theorem cf_ls {i t : Nat} (hb : b < 6) (hi : i < 8) (ht : t < 8) : r_cfl (Int32.ofNat b) (Int32.ofNat i) (Int32.ofNat t) 4 0 w = setc w 67 (192 + (32 * b + 4 * i)) (sF w 67 b (4 * t)) (sF w 67 b (4 * t + 1)) (sF w 67 b (4 * t + 2)) (sF w 67 b (4 * t + 3)) := by
  have ix : ∀ f : Nat, f < 4 → (((192 + (32 * Int32.ofNat b)) + (4 * Int32.ofNat i)) + Int32.ofNat f).toNatClampNeg = 192 + (32 * b + 4 * i) + f := by
    intro f hf
    rw [show (192 : Int32) = Int32.ofNat 192 from rfl, show (32 : Int32) = Int32.ofNat 32 from rfl, show (4 : Int32) = Int32.ofNat 4 from rfl, nn_mul, nn_mul, nn_add, nn_add, nn_add, nn_nat (by omega)]
    omega
  have sx : ∀ f : Nat, f < 4 → (((32 * Int32.ofNat b) + (4 * Int32.ofNat t)) + Int32.ofNat f).toNatClampNeg = 32 * b + (4 * t + f) := by
    intro f hf
    rw [rxf (by omega) ht hf]
    omega
  have st : ∀ (f : Nat) (u : vm_V) (k : Nat), f < 4 → r_cfl (Int32.ofNat b) (Int32.ofNat i) (Int32.ofNat t) (k + 1) (Int32.ofNat f) u = r_cfl (Int32.ofNat b) (Int32.ofNat i) (Int32.ofNat t) k (Int32.ofNat (f + 1)) (vm_si u 67 (192 + (32 * b + 4 * i) + f) (u.1 67 (32 * b + (4 * t + f)))) := by
    intro f u k hf
    conv => lhs; unfold r_cfl
    rw [ix f hf, sx f hf, nn_s]
  rw [show (0 : Int32) = Int32.ofNat 0 from rfl, st 0 _ _ (by omega), st 1 _ _ (by omega), st 2 _ _ (by omega), st 3 _ _ (by omega)]
  unfold r_cfl setc sF
  have ne : ∀ (f g : Nat), g < 4 → ¬ (32 * b + (4 * t + g) = 192 + (32 * b + 4 * i) + f) := fun f g hg q => by omega
  have ne0 : ∀ g : Nat, g < 4 → ¬ (32 * b + (4 * t + g) = 192 + (32 * b + 4 * i)) := fun g hg q => by omega
  simp only [vm_si1b, Nat.add_zero, true_and, ne0 1 (by omega), ne0 2 (by omega), ne0 3 (by omega), ne 1 2 (by omega), ne 1 3 (by omega), ne 2 3 (by omega), if_false]
theorem or_ls (hB : pB0 c v0 w0) (hb : b < c) (hn : n ≤ 8) : ∀ (k i : Nat) (v w : vm_V), i + k = n → v.1 6 b = Int32.ofNat n → lS v0 w0 v w → (∀ q : Nat, q < n → v.1 17 q = w.1 89 q) → (∀ q : Nat, q < n → v.1 16 q = w.1 88 q ∧ 1 ≤ (w.1 88 q).toInt) → cnp (fun q => w.1 89 q) n = i → lS v0 w0 (c_orl (Int32.ofNat b) (Int32.ofNat n) k (Int32.ofNat i) v) (r_orl (Int32.ofNat b) k (Int32.ofNat i) w)
  | 0, i, v, w, _, _, h, _, _, _ => h
  | k + 1, i, v, w, hi, h6, h, hp, hh, hcn => by
    obtain ⟨n', f1, f2, f3, f4, f5, f6, f7, f8⟩ := lS_f hB h hb
    have en : n' = n := by
      rw [f4] at h6
      exact (nn_eq (by omega) (by omega)).mp h6
    subst n'
    have hc := hB.1
    have hn0 : ((Int32.ofNat n).toInt - (0 : Int32).toInt).toNat = n := by
      rw [Int32.toInt_ofNat_of_lt (by omega), show (0 : Int32).toInt = 0 from rfl]
      omega
    obtain ⟨g1, g2⟩ := fn_ls hB h hb f1 hp hh (nn := Int32.ofNat i) n 0 (-1) 0 (by omega) (Or.inl ⟨rfl, rfl⟩)
    obtain ⟨z, z1, z2, z3⟩ := cnp_ex (f := fun q => w.1 89 q) (n := n) (by omega)
    have hz : rdy (sF w 67 b) (fun p => w.1 89 p) z := ⟨z2, fun q q1 q2 => absurd q2 (z3 q q1)⟩
    rcases g2 with ⟨_, _, y3⟩ | ⟨t, t1, t2, t3⟩
    · exact absurd hz (y3 z (by omega) z1)
    · have hrt : rdy (sF w 67 b) (fun p => w.1 89 p) t := by
        rcases t3 with t3 | t3
        · exact absurd t3.symm (m1n t (by omega))
        · exact t3
      have ct : c_findNext v (Int32.ofNat b) (Int32.ofNat n) = Int32.ofNat t := by
        unfold c_findNext
        rw [hn0]
        exact g1.trans t2
      have rt : r_fnl w (Int32.ofNat b) (Int32.ofNat i) ((w.1 66 (Int32.ofNat b).toNatClampNeg).toInt - (0 : Int32).toInt).toNat 0 (-1) = Int32.ofNat t := by
        rw [nn_nat (a := b) (by omega), f6, hn0]
        exact t2
      have lS1 : lS v0 w0 (vm_si v 17 t 1) (vm_si w 89 t 1) := lS_si h (by omega) (by omega)
      obtain ⟨n2, u1, u2, u3, u4, u5, u6, u7, u8⟩ := lS_f hB lS1 hb
      obtain ⟨o0, o1, o2, o3⟩ := sp_code (i := t) u2 hc hb (by omega)
      simp only [Nat.reduceAdd] at o0 o1 o2 o3
      have v6 : (vm_si v 17 t 1).1 10 b = Int32.ofNat n := by
        rw [vm_si1b, if_neg (by omega)]
        exact f5
      unfold c_orl r_orl
      rw [ct, rt, if_neg (nz (by omega)), if_neg (show ¬ (8 : Int32) ≤ Int32.ofNat t from nl (k := 8) (by omega) (by omega) (by omega)), nn_nat (a := t) (by omega), a11, o0, o1, o2, o3, pu_setc (p := 7) u3 hc hb v6 f1 (by omega), nn_s, show ((4 : Int32).toInt - (0 : Int32).toInt).toNat = 4 from rfl, cf_ls (by omega) (by omega) (by omega), u7 _ (by omega), u7 _ (by omega), u7 _ (by omega), u7 _ (by omega)]
      have pl : ∀ q : Nat, (setc (vm_si w 89 t 1) 67 (192 + (32 * b + 4 * i)) (sF (vm_si w 89 t 1) 67 b (4 * t)) (sF (vm_si w 89 t 1) 67 b (4 * t + 1)) (sF (vm_si w 89 t 1) 67 b (4 * t + 2)) (sF (vm_si w 89 t 1) 67 b (4 * t + 3))).1 89 q = if q = t then 1 else w.1 89 q := by
        intro q
        rw [setc_o (fun z => by omega), vm_si1b]
        simp
      refine or_ls hB hb hn k (i + 1) _ _ (by omega) ?_ (lS_setc lS1) (fun q hq => ?_) (fun q hq => ?_) ?_
      · rw [setc_o (fun q => by omega), vm_si1b, if_neg (by omega)]
        exact h6
      · rw [pl q, setc_o (fun q => by omega), vm_si1b]
        have := hp q hq
        by_cases e : q = t <;> simp [e, this]
      · rw [setc_o (fun q => by omega), setc_o (fun q => by omega), vm_si1b, if_neg (by omega), vm_si1b, if_neg (by omega)]
        exact hh q hq
      · rw [cnp_up (f := fun q => w.1 89 q) (t := t) t1 hrt.1 (by rw [pl t, if_pos rfl]; exact i10') (fun q _ hq2 => by rw [pl q, if_neg hq2]), hcn]
theorem order_ls (hB : pB0 c v0 w0) (hb : b < c) (h : lS v0 w0 v w) : lS v0 w0 (c_order v (Int32.ofNat b)) (r_order w (Int32.ofNat b)) := by
  obtain ⟨n, f1, f2, f3, f4, f5, f6, f7, f8⟩ := lS_f hB h hb
  have hc := hB.1
  have hl : c_min v (c_lengthOf v 3 (Int32.ofNat b)) 8 = Int32.ofNat n := by
    rw [pu_len f2 hc hb]
    show c_min v (v.1 6 b) 8 = _
    rw [f4]
    unfold c_min
    by_cases q : (8 : Int32) < Int32.ofNat n
    · exact absurd ((nn_lt (a := 8) (by omega) (by omega)).mp q) (by omega)
    · rw [if_neg q]
  obtain ⟨s1, s2⟩ := nn_sub1 (i := n) (by omega)
  have hn0 : ((Int32.ofNat n).toInt - (0 : Int32).toInt).toNat = n := by
    rw [Int32.toInt_ofNat_of_lt (by omega), show (0 : Int32).toInt = 0 from rfl]
    omega
  obtain ⟨g1, g2⟩ := oh_ls hB hb f1 n (Int32.ofNat n - 1) v w (Nat.le_refl n) s2 f4 h (fun q q1 q2 => by omega)
  unfold c_order r_order
  rw [hl, nn_nat (a := b) (by omega), f6, s1, hn0]
  obtain ⟨m, m1, m2, m3, m4, m5, m6, m7, m8⟩ := lS_f hB g1 hb
  have k6 : (c_ohl (Int32.ofNat b) (Int32.ofNat n) n (Int32.ofNat n - 1) v).1 6 b = Int32.ofNat n := by
    rw [g1.1.1 6 b (by omega) (by omega) (by omega) (by omega) (by omega) (by omega), ← h.1.1 6 b (by omega) (by omega) (by omega) (by omega) (by omega) (by omega)]
    exact f4
  exact or_ls hB hb f1 n 0 _ _ (by omega) k6 g1 (fun q hq => by rw [(g2 q (by omega) hq).2.2.2.1, (g2 q (by omega) hq).2.2.2.2]) (fun q hq => ⟨(g2 q (by omega) hq).1, (g2 q (by omega) hq).2.1⟩) (cnp_0 (fun q hq => (g2 q (by omega) hq).2.2.2.2))
theorem reuse_ls (hB : pB0 c v0 w0) (hb : b < c) (h : lS v0 w0 v w) : lS v0 w0 (c_reuse v (Int32.ofNat b)) (r_reuse w (Int32.ofNat b)) := by
  obtain ⟨n, f1, f2, f3, f4, f5, f6, f7, f8⟩ := lS_f hB h hb
  have hc := hB.1
  have hn0 : ((Int32.ofNat n).toInt - (0 : Int32).toInt).toNat = n := by
    rw [Int32.toInt_ofNat_of_lt (by omega), show (0 : Int32).toInt = 0 from rfl]
    omega
  unfold c_reuse r_reuse
  rw [pu_len f2 hc hb, show v.1 (3 + 3) b = Int32.ofNat n from f4, nn_nat (a := b) (by omega), f6, hn0]
  exact ru_ls hB hb f1 n 0 v w (by omega) f4 h
end ORB
