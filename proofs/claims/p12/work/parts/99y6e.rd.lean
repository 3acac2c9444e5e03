/-! instructions and ends: the same on both sides through every operation -/
section RSE
variable {xs : List Int32} {H H1 : am_H} {v v1 v2 w : vm_V} {x : vm_Y}
def Rd (v : vm_V) : Prop := (∀ k : Nat, k < 192 → v.1 4 k = v.1 67 k) ∧ (∀ k : Nat, k < 192 → v.1 8 k = v.1 67 (192 + k)) ∧ (∀ k : Nat, k < 24 → v.1 5 k = v.1 68 k) ∧ (∀ k : Nat, k < 24 → v.1 9 k = v.1 68 (24 + k)) ∧ (∀ k : Nat, k < 96 → v.1 67 (4 * k) = 0 → v.1 67 (4 * k + 2) = 0) ∧ ∀ k : Nat, k < 10 → v.1 1 k = r_takes v (Int32.ofNat k)
def Rp (v : vm_V) : Prop := Rt v ∧ Rd v
/-- frames -/
def fA (v w : vm_V) : Prop := (∀ k : Nat, k < 192 → w.1 4 k = v.1 4 k) ∧ (∀ k : Nat, k < 192 → w.1 8 k = v.1 8 k) ∧ ∀ k : Nat, k < 384 → w.1 67 k = v.1 67 k
def fE (v w : vm_V) : Prop := (∀ k : Nat, k < 24 → w.1 5 k = v.1 5 k) ∧ (∀ k : Nat, k < 24 → w.1 9 k = v.1 9 k) ∧ ∀ k : Nat, k < 48 → w.1 68 k = v.1 68 k
def fT (v w : vm_V) : Prop := ∀ k : Nat, k < 10 → w.1 1 k = v.1 1 k
def fA_ms (ms : List Nat) : Bool := !(ty_in 4 ms) && (!(ty_in 8 ms) && !(ty_in 67 ms))
def fE_ms (ms : List Nat) : Bool := !(ty_in 5 ms) && (!(ty_in 9 ms) && !(ty_in 68 ms))
def fT_ms (ms : List Nat) : Bool := !(ty_in 1 ms)
theorem gh_fA (hI : lw_I xs H) (hw : vw v H) (hw1 : vw v1 H1) {ms : List Nat} (hu : ty_un ms H H1) (hm : fA_ms ms = true) : fA v v1 := by
  simp only [fA_ms, Bool.and_eq_true, Bool.not_eq_true'] at hm
  obtain ⟨m4, m5, m6⟩ := hm
  exact ⟨fun k hk => gh_fr hI hw hw1 hu m4 (gh_arr (n := 192) rfl hk), fun k hk => gh_fr hI hw hw1 hu m5 (gh_arr (n := 192) rfl hk), fun k hk => gh_fr hI hw hw1 hu m6 (gh_arr (n := 384) rfl hk)⟩
theorem gh_fE (hI : lw_I xs H) (hw : vw v H) (hw1 : vw v1 H1) {ms : List Nat} (hu : ty_un ms H H1) (hm : fE_ms ms = true) : fE v v1 := by
  simp only [fE_ms, Bool.and_eq_true, Bool.not_eq_true'] at hm
  obtain ⟨m4, m5, m6⟩ := hm
  exact ⟨fun k hk => gh_fr hI hw hw1 hu m4 (gh_arr (n := 24) rfl hk), fun k hk => gh_fr hI hw hw1 hu m5 (gh_arr (n := 24) rfl hk), fun k hk => gh_fr hI hw hw1 hu m6 (gh_arr (n := 48) rfl hk)⟩
theorem gh_fT (hI : lw_I xs H) (hw : vw v H) (hw1 : vw v1 H1) {ms : List Nat} (hu : ty_un ms H H1) (hm : fT_ms ms = true) : fT v v1 := by
  simp only [fT_ms, Bool.not_eq_true'] at hm
  exact fun k hk => gh_fr hI hw hw1 hu hm (gh_arr (n := 10) rfl hk)
theorem fA_tr {u : vm_V} (h1 : fA u v) (h2 : fA v w) : fA u w := ⟨fun k hk => (h2.1 k hk).trans (h1.1 k hk), fun k hk => (h2.2.1 k hk).trans (h1.2.1 k hk), fun k hk => (h2.2.2 k hk).trans (h1.2.2 k hk)⟩
theorem fE_tr {u : vm_V} (h1 : fE u v) (h2 : fE v w) : fE u w := ⟨fun k hk => (h2.1 k hk).trans (h1.1 k hk), fun k hk => (h2.2.1 k hk).trans (h1.2.1 k hk), fun k hk => (h2.2.2 k hk).trans (h1.2.2 k hk)⟩
theorem fT_tr {u : vm_V} (h1 : fT u v) (h2 : fT v w) : fT u w := fun k hk => (h2 k hk).trans (h1 k hk)
theorem fA_of (h : v1.1 = v.1) : fA v v1 := ⟨fun k _ => by rw [h], fun k _ => by rw [h], fun k _ => by rw [h]⟩
theorem fE_of (h : v1.1 = v.1) : fE v v1 := ⟨fun k _ => by rw [h], fun k _ => by rw [h], fun k _ => by rw [h]⟩
/-- the instructions' half, the ends' half -/
def RA (v : vm_V) : Prop := (∀ k : Nat, k < 192 → v.1 4 k = v.1 67 k) ∧ (∀ k : Nat, k < 192 → v.1 8 k = v.1 67 (192 + k)) ∧ ∀ k : Nat, k < 96 → v.1 67 (4 * k) = 0 → v.1 67 (4 * k + 2) = 0
def RE (v : vm_V) : Prop := (∀ k : Nat, k < 24 → v.1 5 k = v.1 68 k) ∧ ∀ k : Nat, k < 24 → v.1 9 k = v.1 68 (24 + k)
theorem Rd_A (h : Rd v) : RA v := ⟨h.1, h.2.1, h.2.2.2.2.1⟩
theorem Rd_E (h : Rd v) : RE v := ⟨h.2.2.1, h.2.2.2.1⟩
theorem Rd_T (h : Rd v) (hT : fT v w) : ∀ k : Nat, k < 10 → w.1 1 k = r_takes w (Int32.ofNat k) := fun k hk => (hT k hk).trans (h.2.2.2.2.2 k hk)
theorem Rd_mk (hA : RA v) (hE : RE v) (hT : ∀ k : Nat, k < 10 → v.1 1 k = r_takes v (Int32.ofNat k)) : Rd v := ⟨hA.1, hA.2.1, hE.1, hE.2, hA.2.2, hT⟩
theorem RA_f (h : RA v) (hf : fA v w) : RA w := ⟨fun k hk => by rw [hf.1 k hk, hf.2.2 k (by omega)]; exact h.1 k hk, fun k hk => by rw [hf.2.1 k hk, hf.2.2 _ (by omega)]; exact h.2.1 k hk, fun k hk => by rw [hf.2.2 _ (by omega), hf.2.2 _ (by omega)]; exact h.2.2 k hk⟩
theorem RE_f (h : RE v) (hf : fE v w) : RE w := ⟨fun k hk => by rw [hf.1 k hk, hf.2.2 k (by omega)]; exact h.1 k hk, fun k hk => by rw [hf.2.1 k hk, hf.2.2 _ (by omega)]; exact h.2 k hk⟩
/-- all stays -/
theorem Rd_fr (h : Rd v) (hA : fA v w) (hE : fE v w) (hT : fT v w) : Rd w := Rd_mk (RA_f (Rd_A h) hA) (RE_f (Rd_E h) hE) (Rd_T h hT)
/-- take -/
theorem tk_d (hR : Rd v) (e1 : vE 10 0 [.ref 2] [] v (vd v1)) (e2 : vE 160 0 [.ref 64] [] v1 (vd v2)) : RA v2 ∧ RE v2 := by
  rw [ct10] at e1
  rw [ct160] at e2
  have e1 := vd_inj e1
  have e2 := vd_inj e2
  subst e1 e2
  obtain ⟨h1, h2, h3, h4, h5, _⟩ := hR
  have c4 : ∀ k : Nat, k < 192 → (c_take v).1 4 k = v.1 8 k := fun k hk => by simp [c_take, c_copyFrom, vm_si1, vm_cp1, n192, n24, n6, n0, hk]
  have c8 : ∀ k : Nat, (c_take v).1 8 k = v.1 8 k := fun k => by simp [c_take, c_copyFrom, vm_si1, vm_cp1]
  have c5 : ∀ k : Nat, k < 24 → (c_take v).1 5 k = v.1 9 k := fun k hk => by simp [c_take, c_copyFrom, vm_si1, vm_cp1, n192, n24, n6, n0, hk]
  have c9 : ∀ k : Nat, (c_take v).1 9 k = v.1 9 k := fun k => by simp [c_take, c_copyFrom, vm_si1, vm_cp1]
  have c67 : ∀ k : Nat, (c_take v).1 67 k = v.1 67 k := fun k => by simp [c_take, c_copyFrom, vm_si1, vm_cp1]
  have c68 : ∀ k : Nat, (c_take v).1 68 k = v.1 68 k := fun k => by simp [c_take, c_copyFrom, vm_si1, vm_cp1]
  have ro : ∀ (u : vm_V) (p k : Nat), p ≠ 64 → p ≠ 65 → p ≠ 66 → p ≠ 67 → p ≠ 68 → (r_take u).1 p k = u.1 p k := fun u p k a1 a2 a3 a4 a5 => by simp [r_take, r_changed, r_copy, vm_si1, vm_cp1, a1, a2, a3, a4, a5]
  have ra : ∀ (u : vm_V) (k : Nat), k < 192 → (r_take u).1 67 k = u.1 67 (192 + k) := fun u k hk => by simp [r_take, r_changed, r_copy, vm_si1, vm_cp1, hk]
  have rb : ∀ (u : vm_V) (k : Nat), 192 ≤ k → (r_take u).1 67 k = u.1 67 k := fun u k hk => by
    have h1 : ¬ k < 192 := by omega
    simp [r_take, r_changed, r_copy, vm_si1, vm_cp1, h1]
  have rc : ∀ (u : vm_V) (k : Nat), k < 24 → (r_take u).1 68 k = u.1 68 (24 + k) := fun u k hk => by simp [r_take, r_changed, r_copy, vm_si1, vm_cp1, hk]
  have rd : ∀ (u : vm_V) (k : Nat), 24 ≤ k → (r_take u).1 68 k = u.1 68 k := fun u k hk => by
    have h1 : ¬ k < 24 := by omega
    simp [r_take, r_changed, r_copy, vm_si1, vm_cp1, h1]
  refine ⟨⟨fun k hk => ?_, fun k hk => ?_, fun k hk => ?_⟩, fun k hk => ?_, fun k hk => ?_⟩
  · rw [ro _ 4 k (by omega) (by omega) (by omega) (by omega) (by omega), c4 k hk, ra _ k hk, c67]
    exact h2 k hk
  · rw [ro _ 8 k (by omega) (by omega) (by omega) (by omega) (by omega), c8, rb _ _ (by omega), c67]
    exact h2 k hk
  · by_cases q : k < 48
    · rw [ra _ _ (by omega), ra _ _ (by omega), c67, c67]
      have := h5 (48 + k) (by omega)
      rw [show 4 * (48 + k) = 192 + 4 * k by omega] at this
      exact this
    · rw [rb _ _ (by omega), rb _ _ (by omega), c67, c67]
      exact h5 k hk
  · rw [ro _ 5 k (by omega) (by omega) (by omega) (by omega) (by omega), c5 k hk, rc _ k hk, c68]
    exact h4 k hk
  · rw [ro _ 9 k (by omega) (by omega) (by omega) (by omega) (by omega), c9, rd _ _ (by omega), c68]
    exact h4 k hk
/-- writing four fields on both sides -/
theorem RA_4 {k : Nat} {o d a z : Int32} (h : RA v) (hv : ∀ j : Nat, w.1 4 j = (setc v 4 k o d a z).1 4 j) (hw8 : ∀ j : Nat, w.1 8 j = v.1 8 j) (hr : ∀ j : Nat, w.1 67 j = (setc v 67 k o d a z).1 67 j) (hk : k + 4 ≤ 192) (h4 : k % 4 = 0) (h0 : o = 0 → a = 0) : RA w := by
  refine ⟨fun j hj => ?_, fun j hj => ?_, fun j hj => ?_⟩
  · rw [hv, hr]
    by_cases q : k ≤ j ∧ j < k + 4
    · have : j = k ∨ j = k + 1 ∨ j = k + 2 ∨ j = k + 3 := by omega
      rcases this with rfl | rfl | rfl | rfl
      · rw [setc_0, setc_0]
      · rw [setc_1, setc_1]
      · rw [setc_2, setc_2]
      · rw [setc_3, setc_3]
    · rw [setc_o (fun y => q y.2), setc_o (fun y => q y.2)]
      exact h.1 j hj
  · rw [hw8, hr, setc_o (by omega)]
    exact h.2.1 j hj
  · rw [hr, hr]
    by_cases q : 4 * j = k
    · subst q
      rw [setc_0, setc_2]
      exact h0
    · rw [setc_o (by omega), setc_o (by omega)]
      exact h.2.2 j hj
theorem RA_8 {k : Nat} {o d a z : Int32} (h : RA v) (hv : ∀ j : Nat, w.1 8 j = (setc v 8 k o d a z).1 8 j) (hw8 : ∀ j : Nat, w.1 4 j = v.1 4 j) (hr : ∀ j : Nat, w.1 67 j = (setc v 67 (192 + k) o d a z).1 67 j) (hk : k + 4 ≤ 192) (h4 : k % 4 = 0) (h0 : o = 0 → a = 0) : RA w := by
  refine ⟨fun j hj => ?_, fun j hj => ?_, fun j hj => ?_⟩
  · rw [hw8, hr, setc_o (by omega)]
    exact h.1 j hj
  · rw [hv, hr]
    by_cases q : k ≤ j ∧ j < k + 4
    · have : j = k ∨ j = k + 1 ∨ j = k + 2 ∨ j = k + 3 := by omega
      rcases this with rfl | rfl | rfl | rfl
      · rw [setc_0, setc_0]
      · rw [setc_1, show 192 + (k + 1) = 192 + k + 1 by omega, setc_1]
      · rw [setc_2, show 192 + (k + 2) = 192 + k + 2 by omega, setc_2]
      · rw [setc_3, show 192 + (k + 3) = 192 + k + 3 by omega, setc_3]
    · rw [setc_o (fun y => q y.2), setc_o (by omega)]
      exact h.2.1 j hj
  · rw [hr, hr]
    by_cases q : 4 * j = 192 + k
    · rw [q, setc_0, setc_2]
      exact h0
    · rw [setc_o (by omega), setc_o (by omega)]
      exact h.2.2 j hj
theorem RE_5 {k : Nat} {o d a z : Int32} (h : RE v) (hv : ∀ j : Nat, w.1 5 j = (setc v 5 k o d a z).1 5 j) (hw8 : ∀ j : Nat, w.1 9 j = v.1 9 j) (hr : ∀ j : Nat, w.1 68 j = (setc v 68 k o d a z).1 68 j) (hk : k + 4 ≤ 24) : RE w := by
  refine ⟨fun j hj => ?_, fun j hj => ?_⟩
  · rw [hv, hr]
    by_cases q : k ≤ j ∧ j < k + 4
    · have : j = k ∨ j = k + 1 ∨ j = k + 2 ∨ j = k + 3 := by omega
      rcases this with rfl | rfl | rfl | rfl
      · rw [setc_0, setc_0]
      · rw [setc_1, setc_1]
      · rw [setc_2, setc_2]
      · rw [setc_3, setc_3]
    · rw [setc_o (fun y => q y.2), setc_o (fun y => q y.2)]
      exact h.1 j hj
  · rw [hw8, hr, setc_o (by omega)]
    exact h.2 j hj
theorem RE_9 {k : Nat} {o d a z : Int32} (h : RE v) (hv : ∀ j : Nat, w.1 9 j = (setc v 9 k o d a z).1 9 j) (hw8 : ∀ j : Nat, w.1 5 j = v.1 5 j) (hr : ∀ j : Nat, w.1 68 j = (setc v 68 (24 + k) o d a z).1 68 j) (hk : k + 4 ≤ 24) : RE w := by
  refine ⟨fun j hj => ?_, fun j hj => ?_⟩
  · rw [hw8, hr, setc_o (by omega)]
    exact h.1 j hj
  · rw [hv, hr]
    by_cases q : k ≤ j ∧ j < k + 4
    · have : j = k ∨ j = k + 1 ∨ j = k + 2 ∨ j = k + 3 := by omega
      rcases this with rfl | rfl | rfl | rfl
      · rw [setc_0, setc_0]
      · rw [setc_1, show 24 + (k + 1) = 24 + k + 1 by omega, setc_1]
      · rw [setc_2, show 24 + (k + 2) = 24 + k + 2 by omega, setc_2]
      · rw [setc_3, show 24 + (k + 3) = 24 + k + 3 by omega, setc_3]
    · rw [setc_o (fun y => q y.2), setc_o (by omega)]
      exact h.2 j hj
/-- setc reads but its own place -/
theorem setc_cg {P k : Nat} {o d a z : Int32} {u : vm_V} (h : ∀ j : Nat, u.1 P j = v.1 P j) (j : Nat) : (setc u P k o d a z).1 P j = (setc v P k o d a z).1 P j := by
  by_cases q : k ≤ j ∧ j < k + 4
  · have : j = k ∨ j = k + 1 ∨ j = k + 2 ∨ j = k + 3 := by omega
    rcases this with rfl | rfl | rfl | rfl
    · rw [setc_0, setc_0]
    · rw [setc_1, setc_1]
    · rw [setc_2, setc_2]
    · rw [setc_3, setc_3]
  · rw [setc_o (fun y => q y.2), setc_o (fun y => q y.2)]
    exact h j

theorem we_s0 {b k a s t : Int32} : (¬ c_hasBlock v 3 b = 0 ∧ w_end v 0 b k a s t = vr 0 (c_setEnd (vm_si v 2 7 0) 3 b k (if k = 0 then 0 else a) (if k = 2 then 0 else s) (if k = 1 then t else 0))) ∨ ∃ z : Int32, ¬ z = 0 ∧ w_end v 0 b k a s t = vr z (vm_nx v) := by
  unfold w_end
  rw [if_pos rfl]
  by_cases hb : c_hasBlock v 3 b = 0
  · rw [if_pos hb]
    exact Or.inr ⟨1, i10, rfl⟩
  · rw [if_neg hb]
    repeat' split
    all_goals first
      | exact Or.inl ⟨hb, rfl⟩
      | exact Or.inr ⟨2, i20, rfl⟩

theorem we_s1 {b k a s t : Int32} : (¬ c_hasBlock v 7 b = 0 ∧ w_end v 1 b k a s t = vr 0 (c_setEnd (vm_si v 2 7 0) 7 b k (if k = 0 then 0 else a) (if k = 2 then 0 else s) (if k = 1 then t else 0))) ∨ ∃ z : Int32, ¬ z = 0 ∧ w_end v 1 b k a s t = vr z (vm_nx v) := by
  unfold w_end
  rw [if_neg i10, if_pos rfl]
  by_cases hb : c_hasBlock v 7 b = 0
  · rw [if_pos hb]
    exact Or.inr ⟨1, i10, rfl⟩
  · rw [if_neg hb]
    repeat' split
    all_goals first
      | exact Or.inl ⟨hb, rfl⟩
      | exact Or.inr ⟨2, i20, rfl⟩

theorem re_s {n b k a s t : Int32} : r_end v n b k a s t = r_changed (r_setEnd (vm_si v 64 0 0) ((6 * n) + b) k (if k = 0 then 0 else a) (if k = 2 then 0 else s) (if k = 1 then t else 0)) ∨ ∃ z : Int32, ¬ z = 0 ∧ r_end v n b k a s t = vm_si (vm_si v 64 0 0) 64 0 z := by
  unfold r_end
  repeat' split
  all_goals first
    | exact Or.inl rfl
    | exact Or.inr ⟨1, i10, rfl⟩
    | exact Or.inr ⟨2, i20, rfl⟩
theorem ch_z {u : vm_V} (h : u.1 64 0 = 0) : (r_changed u).1 64 0 = 0 := by
  simp [r_changed, vm_si1, h]

theorem en_d0 (hI : lw_I xs H) (hw : vw v H) (hR : Rp v) {b k a s t w1 : Int32} (e1 : vr w1 v1 = w_end v 0 b k a s t) (e2 : v2 = r_end v1 0 b k a s t) (hc : v2.1 64 0 = w1) : RE v2 := by
  obtain ⟨⟨c, c1, c2, c3⟩, ⟨d', d1, d2, d3⟩⟩ := Rc_cnt hI hw hR.1.1
  rcases we_s0 (v := v) (b := b) (k := k) (a := a) (s := s) (t := t) with ⟨hb, h1⟩ | ⟨z, hz, h1⟩
  · rw [h1] at e1
    obtain ⟨rfl, rfl⟩ := vr_inj e1
    obtain ⟨bn, n1, rfl⟩ := hb_nat (p := 3) c2 c1 hb
    rw [pu_sete (p := 3) (v := vm_si v 2 7 0) (c := c) (show (vm_si v 2 7 0).1 3 3 = _ from c2) c1 n1] at e2
    rcases re_s (v := setc (vm_si v 2 7 0) 5 (4 * bn) k (if k = 0 then 0 else a) (if k = 2 then 0 else s) (if k = 1 then t else 0)) (n := 0) (b := Int32.ofNat bn) (k := k) (a := a) (s := s) (t := t) with h2 | ⟨z, hz, h2⟩
    · rw [show setc (vm_si v 2 7 0) (3 + 2) (4 * bn) k (if k = 0 then 0 else a) (if k = 2 then 0 else s) (if k = 1 then t else 0) = setc (vm_si v 2 7 0) 5 (4 * bn) k (if k = 0 then 0 else a) (if k = 2 then 0 else s) (if k = 1 then t else 0) from rfl, h2, show ((6 * (0 : Int32)) + Int32.ofNat bn) = Int32.ofNat (0 + bn) from by rw [show (6 * (0 : Int32)) = Int32.ofNat 0 from by decide, nn_add], pu_rsete (by omega), show 4 * (0 + bn) = 4 * bn by omega] at e2
      subst e2
      refine RE_5 (k := 4 * bn) (o := k) (d := (if k = 0 then 0 else a)) (a := (if k = 2 then 0 else s)) (z := (if k = 1 then t else 0)) (Rd_E hR.2) (fun j => ?_) (fun j => ?_) (fun j => ?_) (by omega)
      · rw [r_changed1 (by omega), setc_o (by omega), vm_si1, if_neg (by omega)]
        exact setc_cg (fun j => by rw [vm_si1, if_neg (by omega)]) j
      · rw [r_changed1 (by omega), setc_o (by omega), vm_si1, if_neg (by omega), setc_o (by omega), vm_si1, if_neg (by omega)]
      · rw [r_changed1 (by omega)]
        exact setc_cg (fun j => by rw [vm_si1, if_neg (by omega), setc_o (by omega), vm_si1, if_neg (by omega)]) j
    · exfalso
      rw [show setc (vm_si v 2 7 0) (3 + 2) (4 * bn) k (if k = 0 then 0 else a) (if k = 2 then 0 else s) (if k = 1 then t else 0) = setc (vm_si v 2 7 0) 5 (4 * bn) k (if k = 0 then 0 else a) (if k = 2 then 0 else s) (if k = 1 then t else 0) from rfl, h2] at e2
      rw [e2] at hc
      exact hz (by simpa [vm_si1] using hc)
  · rw [h1] at e1
    obtain ⟨rfl, rfl⟩ := vr_inj e1
    rcases re_s (v := vm_nx v) (n := 0) (b := b) (k := k) (a := a) (s := s) (t := t) with h2 | ⟨z', hz', h2⟩
    · exfalso
      rw [h2] at e2
      rw [e2, ch_z (by simp [r_setEnd, vm_si1])] at hc
      exact hz hc.symm
    · rw [h2] at e2
      subst e2
      exact RE_f (Rd_E hR.2) ⟨fun k _ => by simp [vm_si1, vm_nx1], fun k _ => by simp [vm_si1, vm_nx1], fun k _ => by simp [vm_si1, vm_nx1]⟩

theorem en_d1 (hI : lw_I xs H) (hw : vw v H) (hR : Rp v) {b k a s t w1 : Int32} (e1 : vr w1 v1 = w_end v 1 b k a s t) (e2 : v2 = r_end v1 1 b k a s t) (hc : v2.1 64 0 = w1) : RE v2 := by
  obtain ⟨⟨c, c1, c2, c3⟩, ⟨d', d1, d2, d3⟩⟩ := Rc_cnt hI hw hR.1.1
  rcases we_s1 (v := v) (b := b) (k := k) (a := a) (s := s) (t := t) with ⟨hb, h1⟩ | ⟨z, hz, h1⟩
  · rw [h1] at e1
    obtain ⟨rfl, rfl⟩ := vr_inj e1
    obtain ⟨bn, n1, rfl⟩ := hb_nat (p := 7) d2 d1 hb
    rw [pu_sete (p := 7) (v := vm_si v 2 7 0) (c := d') (show (vm_si v 2 7 0).1 7 3 = _ from d2) d1 n1] at e2
    rcases re_s (v := setc (vm_si v 2 7 0) 9 (4 * bn) k (if k = 0 then 0 else a) (if k = 2 then 0 else s) (if k = 1 then t else 0)) (n := 1) (b := Int32.ofNat bn) (k := k) (a := a) (s := s) (t := t) with h2 | ⟨z, hz, h2⟩
    · rw [show setc (vm_si v 2 7 0) (7 + 2) (4 * bn) k (if k = 0 then 0 else a) (if k = 2 then 0 else s) (if k = 1 then t else 0) = setc (vm_si v 2 7 0) 9 (4 * bn) k (if k = 0 then 0 else a) (if k = 2 then 0 else s) (if k = 1 then t else 0) from rfl, h2, show ((6 * (1 : Int32)) + Int32.ofNat bn) = Int32.ofNat (6 + bn) from by rw [show (6 * (1 : Int32)) = Int32.ofNat 6 from by decide, nn_add], pu_rsete (by omega), show 4 * (6 + bn) = 24 + 4 * bn by omega] at e2
      subst e2
      refine RE_9 (k := 4 * bn) (o := k) (d := (if k = 0 then 0 else a)) (a := (if k = 2 then 0 else s)) (z := (if k = 1 then t else 0)) (Rd_E hR.2) (fun j => ?_) (fun j => ?_) (fun j => ?_) (by omega)
      · rw [r_changed1 (by omega), setc_o (by omega), vm_si1, if_neg (by omega)]
        exact setc_cg (fun j => by rw [vm_si1, if_neg (by omega)]) j
      · rw [r_changed1 (by omega), setc_o (by omega), vm_si1, if_neg (by omega), setc_o (by omega), vm_si1, if_neg (by omega)]
      · rw [r_changed1 (by omega)]
        exact setc_cg (fun j => by rw [vm_si1, if_neg (by omega), setc_o (by omega), vm_si1, if_neg (by omega)]) j
    · exfalso
      rw [show setc (vm_si v 2 7 0) (7 + 2) (4 * bn) k (if k = 0 then 0 else a) (if k = 2 then 0 else s) (if k = 1 then t else 0) = setc (vm_si v 2 7 0) 9 (4 * bn) k (if k = 0 then 0 else a) (if k = 2 then 0 else s) (if k = 1 then t else 0) from rfl, h2] at e2
      rw [e2] at hc
      exact hz (by simpa [vm_si1] using hc)
  · rw [h1] at e1
    obtain ⟨rfl, rfl⟩ := vr_inj e1
    rcases re_s (v := vm_nx v) (n := 1) (b := b) (k := k) (a := a) (s := s) (t := t) with h2 | ⟨z', hz', h2⟩
    · exfalso
      rw [h2] at e2
      rw [e2, ch_z (by simp [r_setEnd, vm_si1])] at hc
      exact hz hc.symm
    · rw [h2] at e2
      subst e2
      exact RE_f (Rd_E hR.2) ⟨fun k _ => by simp [vm_si1, vm_nx1], fun k _ => by simp [vm_si1, vm_nx1], fun k _ => by simp [vm_si1, vm_nx1]⟩

theorem en_d (hI : lw_I xs H) (hw : vw v H) (hR : Rp v) (hf : fc_eq v v1) {n b k a s t w1 : Int32} (e1 : vE 35 0 [.ref 2, .int n, .int b, .int k, .int a, .int s, .int t, .retAddr 0] [] v (vr w1 v1)) (e2 : vE 158 0 [.ref 64, .int n, .int b, .int k, .int a, .int s, .int t] [] v1 (vd v2)) : RE v2 := by
  have hc := op_end hI hw hR.1.1 hf e1 e2
  rw [ct35] at e1
  rw [ct158] at e2
  have e2 := vd_inj e2
  by_cases h0 : n = 0
  · subst h0
    exact en_d0 hI hw hR e1 e2 hc
  · by_cases h1 : n = 1
    · subst h1
      exact en_d1 hI hw hR e1 e2 hc
    · have h3 : w_end v n b k a s t = vr 1 (vm_nx v) := by
        unfold w_end
        rw [if_neg h0, if_neg h1]
      rw [h3] at e1
      obtain ⟨rfl, rfl⟩ := vr_inj e1
      have h4 : r_end (vm_nx v) n b k a s t = vm_si (vm_si (vm_nx v) 64 0 0) 64 0 1 := by
        unfold r_end
        rw [if_pos (ib_out h0 h1)]
      rw [h4] at e2
      subst e2
      exact RE_f (Rd_E hR.2) ⟨fun k _ => by simp [vm_si1, vm_nx1], fun k _ => by simp [vm_si1, vm_nx1], fun k _ => by simp [vm_si1, vm_nx1]⟩
end RSE
