/-! order: from head to head, the second half -/
section HOE
variable {d : Nat × Nat} {b len : Nat} {L : List Value} {h : am_H}
theorem od_s5 (hd : mo_d (4, 100) d) (hb : b < 6) (hle : len ≤ 8) (hl : od_loc b L) (hg : ty_gok tc_g h) (hn : od_len b len h) {n : Nat} (hi : n < len) (h2 : od_int L 2 n) : ∃ (d' : Nat × Nat) (L' : List Value), mo_d (4, 100) d' ∧ od_loc b L' ∧ od_int L' 2 n ∧ od_int L' 3 (-1) ∧ od_int L' 4 0 ∧ ∀ r : am_O × am_H, am_Ev ((d', 170, 125, L', []), h, []) r → am_Ev ((d, 170, 110, L, []), h, []) r := by
  obtain ⟨l, rfl⟩ : ∃ l, len = l + 1 := ⟨len - 1, by omega⟩
  have hck : od5 b (l + 1) = true := od_all2 (f := fun b l => od5 b (l + 1)) od5_ok hb (by omega)
  obtain ⟨S', σ', c', b1, b2, b3, b4⟩ := od_run od_vnil rfl List.mem_cons_self hck (od_ar hd hl rfl (fun k s hk hkd => by
    match k, hk with
    | 0, hk => cases hk; exact od_i5 h2 (by omega) (by omega)
    | 1, hk => exact od_j5 hk hkd
    | 2, hk => exact od_j5 hk hkd
    | 3, hk => exact od_j5 hk hkd
    | 4, hk => exact od_j5 hk hkd
    | k + 5, hk => cases hk) hg (od_pre hn))
  have hh : c'.2.1 = h := hc_none b3 rfl (by rw [ho_hd_mid b2]; rfl)
  obtain ⟨d', L', H, e1, e2, e3, e4, e5⟩ := od_hd_ok rfl b3 b2
  subst e1
  have hh : H = h := hh
  subst hh
  have z2 : ty_bv σ' (3 : Int).toNat = n := od_lv b3 (by show 7 ≤ 8; omega) (by omega) h2
  have u2 := od_int_or (e5 0 _ rfl _ List.mem_cons_self)
  rw [z2, Int.add_zero] at u2
  exact ⟨d', L', e2, e3, u2, od_int_c (by decide) (by decide) (e5 1 _ rfl _ List.mem_cons_self), od_int_c (by decide) (by decide) (e5 2 _ rfl _ List.mem_cons_self), b4⟩
theorem od_fc {g : List ty_X} {C0 : ty_C} {l0 : Nat → Int32} {H0 : am_H} {σ : Nat → Int32} {S : ty_S} {c : am_G} (ho : ty_ho g C0 l0 H0 σ S c) {u : Value} {a : Nat} {i : Value} {z : Int32} (hf : ty_Fget S.2.1 a i = some u) (hz : sx_v σ i = .int z) {q : Int} (hu : ty_fit S.1 (7, q, 0) u = true) {t : Nat} {P : List Value} (hP : c.2.1[a]? = some (t, P)) : P[z.toNatClampNeg]? = some (.int (Int32.ofInt q)) := by
  obtain ⟨x, j, e1, e2, e3, e4⟩ := ho.2.2.1 _ _ _ (ty_Fget_mem hf)
  rw [hP] at e1
  cases e1
  rw [hz] at e2
  cases e2
  have : sx_v σ u = .int (Int32.ofInt q) := ty_fit_ok ho.1.1 hu
  rw [this] at e4
  exact e4
theorem od_s6 (hd : mo_d (4, 100) d) (hb : b < 6) (hle : len ≤ 8) (hl : od_loc b L) (hg : ty_gok tc_g h) (hn : od_len b len h) {n i : Nat} {s : Int} (hn2 : n < len) (h2 : od_int L 2 n) (h3 : od_int L 3 s) (hs1 : -1 ≤ s) (hs2 : s ≤ 7) (hi : i < len) (h4 : od_int L 4 i) {P : List Value} (hP : h[89]? = some (34, P)) : ∃ (d' : Nat × Nat) (L' : List Value) (r : Int), mo_d (4, 100) d' ∧ od_loc b L' ∧ od_int L' 2 n ∧ od_int L' 3 s ∧ od_int L' 4 i ∧ od_int L' 5 r ∧ od_int L' 6 0 ∧ ((r = 1 ∧ P[i]? = some (.int 0)) ∨ (r = 0 ∧ P[i]? = some (.int 1))) ∧ ∀ r : am_O × am_H, am_Ev ((d', 170, 156, L', []), h, []) r → am_Ev ((d, 170, 125, L, []), h, []) r := by
  obtain ⟨l, rfl⟩ : ∃ l, len = l + 1 := ⟨len - 1, by omega⟩
  have hck : od6 b (l + 1) = true := od_all2 (f := fun b l => od6 b (l + 1)) od6_ok hb (by omega)
  obtain ⟨S', σ', c', b1, b2, b3, b4⟩ := od_run od_vnil rfl List.mem_cons_self hck (od_ar hd hl rfl (fun k s hk hkd => by
    match k, hk with
    | 0, hk => cases hk; exact od_i5 h2 (by omega) (by omega)
    | 1, hk => cases hk; exact od_i5 h3 (by omega) (by omega)
    | 2, hk => cases hk; exact od_i5 h4 (by omega) (by omega)
    | 3, hk => exact od_j5 hk hkd
    | 4, hk => exact od_j5 hk hkd
    | k + 5, hk => cases hk) hg (od_pre hn))
  simp only [Bool.and_eq_true] at b2
  obtain ⟨b2, b5⟩ := b2
  have hh : c'.2.1 = h := hc_none b3 rfl (by rw [ho_hd_mid b2]; rfl)
  have hP' : c'.2.1[89]? = some (34, P) := by rw [hh]; exact hP
  obtain ⟨d', L', H, e1, e2, e3, e4, e5⟩ := od_hd_ok rfl b3 b2
  have z2 : ty_bv σ' (3 : Int).toNat = n := od_lv b3 (by show 7 ≤ 8; omega) (by omega) h2
  have z3 : ty_bv σ' (4 : Int).toNat = s := od_lv b3 (by show 7 ≤ 8; omega) (by omega) h3
  have z4 : ty_bv σ' (5 : Int).toNat = i := od_lv b3 (by show 7 ≤ 8; omega) (by omega) h4
  have u2 := od_int_or (e5 0 _ rfl _ List.mem_cons_self)
  have u3 := od_int_or (e5 1 _ rfl _ List.mem_cons_self)
  have u4 := od_int_or (e5 2 _ rfl _ List.mem_cons_self)
  rw [z2, Int.add_zero] at u2
  rw [z3, Int.add_zero] at u3
  rw [z4, Int.add_zero] at u4
  have u6 := od_int_c (by decide) (by decide) (e5 4 _ rfl _ List.mem_cons_self)
  have hz4 : (σ' 4).toNatClampNeg = i := by
    have z4 : (σ' 4).toInt = i := z4
    have := ty_cl (w := σ' 4) (by omega)
    omega
  unfold od6f at b5
  split at b5
  · rename_i rv u hr hu
    have hL5 : ∀ q : Int, -2147483648 ≤ q → q ≤ 2147483647 → ty_fit S'.1 (7, q, 0) rv = true → od_int L' 5 q := by
      intro q q1 q2 hq
      have hv : sx_v σ' rv = .int (Int32.ofInt q) := ty_fit_ok b3.1.1 hq
      have hk := b3.2.2.2.1.2.2.2.1.2 5 (.int (Int32.ofInt q)) (by rw [List.getElem?_map, hr, ← hv]; rfl) rfl
      rw [e1] at hk
      exact ⟨_, hk, ty_ofi q1 q2⟩
    subst e1
    have hh : H = h := hh
    subst hh
    simp only [Bool.or_eq_true, Bool.and_eq_true] at b5
    rcases b5 with ⟨p1, p2⟩ | ⟨p1, p2⟩
    · have hf := od_fc b3 hu (z := σ' 4) rfl p2 hP'
      rw [hz4] at hf
      exact ⟨d', L', 1, e2, e3, u2, u3, u4, hL5 1 (by decide) (by decide) p1, u6, Or.inl ⟨rfl, hf⟩, b4⟩
    · have hf := od_fc b3 hu (z := σ' 4) rfl p2 hP'
      rw [hz4] at hf
      exact ⟨d', L', 0, e2, e3, u2, u3, u4, hL5 0 (by decide) (by decide) p1, u6, Or.inr ⟨rfl, hf⟩, b4⟩
  · cases b5
theorem od_s6e (hd : mo_d (4, 100) d) (hb : b < 6) (hle : len ≤ 8) (hl : od_loc b L) (hg : ty_gok tc_g h) (hn : od_len b len h) {n s : Nat} (hn2 : n < len) (h2 : od_int L 2 n) (h3 : od_int L 3 s) (hs2 : s ≤ 7) (h4 : od_int L 4 len) : ∃ (d' : Nat × Nat) (L' : List Value) (h' : am_H) (P : List Value), mo_d (4, 100) d' ∧ od_loc b L' ∧ od_int L' 2 n ∧ od_int L' 3 s ∧ ty_gok tc_g h' ∧ h[89]? = some (34, P) ∧ P.length = 8 ∧ h' = h.set 89 (34, P.set s (.int 1)) ∧ ∀ r : am_O × am_H, am_Ev ((d', 170, 245, L', []), h', []) r → am_Ev ((d, 170, 125, L, []), h, []) r := by
  obtain ⟨l, rfl⟩ : ∃ l, len = l + 1 := ⟨len - 1, by omega⟩
  have hck : od6e b (l + 1) = true := od_all2 (f := fun b l => od6e b (l + 1)) od6e_ok hb (by omega)
  obtain ⟨S', σ', c', b1, b2, b3, b4⟩ := od_run od_vnil rfl List.mem_cons_self hck (od_ar hd hl rfl (fun k s hk hkd => by
    match k, hk with
    | 0, hk => cases hk; exact od_i5 h2 (by omega) (by omega)
    | 1, hk => cases hk; exact od_i5 h3 (by omega) (by omega)
    | 2, hk => cases hk; exact od_c5 h4
    | 3, hk => exact od_j5 hk hkd
    | 4, hk => exact od_j5 hk hkd
    | k + 5, hk => cases hk) hg (od_pre hn))
  simp only [Bool.and_eq_true] at b2
  obtain ⟨d1, d2, d3⟩ := b2
  have hh : c'.2.1 = h := hc_none b3 rfl (by rw [ty_bef_mid b1]; rfl)
  obtain ⟨v, j, r, x, w, fs, c2, e1, e2, e3, e4, e5, e6, e7, e8, e9, e10⟩ := ty_handb b3 b1 d1 rfl rfl
  obtain ⟨s1, s2⟩ := od_st_ok b3 d2 e1
  have z2 : ty_bv σ' (3 : Int).toNat = n := od_lv b3 (by show 7 ≤ 8; omega) (by omega) h2
  have z3 : ty_bv σ' (4 : Int).toNat = s := od_lv b3 (by show 7 ≤ 8; omega) (by omega) h3
  have hx : x = Int32.ofInt 1 := by
    have := ho_sem_c s1
    rw [e2] at this
    cases this
    rfl
  have hw : w.toNatClampNeg = s := by
    obtain ⟨y, y1, y2⟩ := ho_sem_or s2
    rw [e3] at y1
    cases y1
    have := ty_cl e4
    rw [z3] at y2
    omega
  have hx1 : x &&& 1 = 1 := by rw [hx]; rfl
  rw [hw, hx1, hh] at e8
  rw [hh] at e7
  obtain ⟨d', L', H, g1, g2, g3, g4, g5⟩ := od_hd_ok rfl e9 d3
  have u2 := od_int_or (g5 0 _ rfl _ List.mem_cons_self)
  have u3 := od_int_or (g5 1 _ rfl _ List.mem_cons_self)
  rw [z2, Int.add_zero] at u2
  rw [z3, Int.add_zero] at u3
  subst g1
  exact ⟨d', L', H, fs, g2, g3, u2, u3, e9.2.1, e7, e6, e8, fun R hR => b4 R (e10 R hR)⟩
theorem od_arD {g : List ty_X} {b pc : Nat} {Ls : List ty_V} {d : Nat × Nat} {L : List Value} {h : am_H} (hd : mo_d (4, 100) d) (hl : od_loc b L) (h5 : Ls.length = 5) (hs : ∀ (k : Nat) (s : ty_V), Ls[k]? = some s → ty_kd s.1 = true → ∃ v : Value, L[k + 2]? = some v ∧ ty_vok s v) (hg : ty_gok g h) : ty_ar0 g (od_D b pc Ls) d L h := od_ar hd hl h5 hs hg (fun q hq => absurd hq List.not_mem_nil)
/-- ready: one more is looked at, or the end -/
theorem od_s7 (hT : ty_vT tc_g od_T) (hd : mo_d (4, 100) d) (hb : b < 6) (hl : od_loc b L) (hg : ty_gok tc_g h) {n i j : Nat} {s : Int} (hn2 : n < 8) (h2 : od_int L 2 n) (h3 : od_int L 3 s) (hs1 : -1 ≤ s) (hs2 : s ≤ 7) (hi : i < 8) (h4 : od_int L 4 i) (h5 : od_int L 5 1) (hj : j < 8) (h6 : od_int L 6 j) {P : List Value} (hP : h[89]? = some (34, P)) :
    (∃ (d' : Nat × Nat) (L' : List Value) (r : Int), mo_d (4, 100) d' ∧ od_loc b L' ∧ od_int L' 2 n ∧ od_int L' 3 s ∧ od_int L' 4 i ∧ od_int L' 5 r ∧ od_int L' 6 ((j : Int) + 1) ∧ j + 1 ≤ i ∧ (r = 1 ∨ (r = 0 ∧ P[j]? = some (.int 0))) ∧ ∀ r : am_O × am_H, am_Ev ((d', 170, 156, L', []), h, []) r → am_Ev ((d, 170, 156, L, []), h, []) r) ∨
    ∃ (d' : Nat × Nat) (L' : List Value) (s' : Int), mo_d (4, 100) d' ∧ od_loc b L' ∧ od_int L' 2 n ∧ od_int L' 3 s' ∧ od_int L' 4 ((i : Int) + 1) ∧ i ≤ j ∧ (s' = i ∨ (s' = s ∧ 0 ≤ s)) ∧ ∀ r : am_O × am_H, am_Ev ((d', 170, 125, L', []), h, []) r → am_Ev ((d, 170, 156, L, []), h, []) r := by
  have hck : od7 b i = true := od_all2 od7_ok hb hi
  obtain ⟨S', σ', c', b1, b2, b3, b4⟩ := od_run hT rfl List.mem_cons_self hck (od_arD hd hl rfl (fun k s hk hkd => by
    match k, hk with
    | 0, hk => cases hk; exact od_i5 h2 (by omega) (by omega)
    | 1, hk => cases hk; exact od_i5 h3 (by omega) (by omega)
    | 2, hk => cases hk; exact od_c5 h4
    | 3, hk => cases hk; exact od_c5 h5
    | 4, hk => cases hk; exact od_i5 h6 (by omega) (by omega)
    | k + 5, hk => cases hk) hg)
  have z2 : ty_bv σ' (3 : Int).toNat = n := od_lv b3 (by show 7 ≤ 7; omega) (by omega) h2
  have z3 : ty_bv σ' (4 : Int).toNat = s := od_lv b3 (by show 7 ≤ 7; omega) (by omega) h3
  have z6 : ty_bv σ' (7 : Int).toNat = j := od_lv b3 (by show 7 ≤ 7; omega) (by omega) h6
  have hz6 : (σ' 6).toNatClampNeg = j := by
    have z6 : (σ' 6).toInt = j := z6
    have := ty_cl (w := σ' 6) (by omega)
    omega
  rcases ty_ite b2 with ⟨_, b2⟩ | ⟨_, b2⟩
  · left
    simp only [Bool.and_eq_true] at b2
    obtain ⟨b2, b5⟩ := b2
    have hh : c'.2.1 = h := hc_none b3 rfl (by rw [ho_hd_mid b2]; rfl)
    have hP' : c'.2.1[89]? = some (34, P) := by rw [hh]; exact hP
    obtain ⟨d', L', H, e1, e2, e3, e4, e5⟩ := od_hd_ok rfl b3 b2
    have u2 := od_int_or (e5 0 _ rfl _ List.mem_cons_self)
    have u3 := od_int_or (e5 1 _ rfl _ List.mem_cons_self)
    rw [z2, Int.add_zero] at u2
    rw [z3, Int.add_zero] at u3
    have u4 := od_int_c (by omega) (by omega) (e5 2 _ rfl _ List.mem_cons_self)
    have u6 := od_int_or (e5 4 _ rfl _ List.mem_cons_self)
    rw [z6] at u6
    obtain ⟨n6, m1, m2, m3⟩ := od_int_in (e5 4 _ rfl _ (List.mem_cons_of_mem _ List.mem_cons_self))
    have hj6 := od_int_u u6 m1
    unfold od7f at b5
    split at b5
    · rename_i rv hr
      have hL5 : ∀ q : Int, -2147483648 ≤ q → q ≤ 2147483647 → ty_fit S'.1 (7, q, 0) rv = true → od_int L' 5 q := by
        intro q q1 q2 hq
        have hv : sx_v σ' rv = .int (Int32.ofInt q) := ty_fit_ok b3.1.1 hq
        have hk := b3.2.2.2.1.2.2.2.1.2 5 (.int (Int32.ofInt q)) (by rw [List.getElem?_map, hr, ← hv]; rfl) rfl
        rw [e1] at hk
        exact ⟨_, hk, ty_ofi q1 q2⟩
      subst e1
      have hh : H = h := hh
      subst hh
      simp only [Bool.or_eq_true, Bool.and_eq_true] at b5
      rcases b5 with p1 | ⟨p1, p2⟩
      · exact ⟨d', L', 1, e2, e3, u2, u3, u4, hL5 1 (by decide) (by decide) p1, u6, by omega, Or.inl rfl, b4⟩
      · split at p2
        · rename_i u hu
          have hf := od_fc b3 hu (z := σ' 6) rfl p2 hP'
          rw [hz6] at hf
          exact ⟨d', L', 0, e2, e3, u2, u3, u4, hL5 0 (by decide) (by decide) p1, u6, by omega, Or.inr ⟨rfl, hf⟩, b4⟩
        · cases p2
    · cases b5
  · right
    simp only [Bool.and_eq_true] at b2
    obtain ⟨b2, b5⟩ := b2
    have hh : c'.2.1 = h := hc_none b3 rfl (by rw [ho_hd_mid b2]; rfl)
    obtain ⟨d', L', H, e1, e2, e3, e4, e5⟩ := od_hd_ok rfl b3 b2
    have u2 := od_int_or (e5 0 _ rfl _ List.mem_cons_self)
    rw [z2, Int.add_zero] at u2
    have u4 := od_int_c (by omega) (by omega) (e5 2 _ rfl _ List.mem_cons_self)
    have u6 := od_int_or (e5 4 _ rfl _ List.mem_cons_self)
    rw [z6] at u6
    obtain ⟨n6, m1, m2, m3⟩ := od_int_in (e5 4 _ rfl _ (List.mem_cons_of_mem _ List.mem_cons_self))
    have hj6 := od_int_u u6 m1
    unfold od7g at b5
    split at b5
    · rename_i sv hr
      have hL3 : ∀ w : Int32, sx_v σ' sv = .int w → od_int L' 3 w.toInt := by
        intro w hw
        have hk := b3.2.2.2.1.2.2.2.1.2 3 (.int w) (by rw [List.getElem?_map, hr, ← hw]; rfl) rfl
        rw [e1] at hk
        exact ⟨_, hk, rfl⟩
      subst e1
      have hh : H = h := hh
      subst hh
      simp only [Bool.or_eq_true, Bool.and_eq_true] at b5
      rcases b5 with p1 | ⟨p1, p2⟩
      · have hv : sx_v σ' sv = .int (Int32.ofInt i) := ty_fit_ok b3.1.1 p1
        have := hL3 _ hv
        rw [ty_ofi (by omega) (by omega)] at this
        exact ⟨d', L', i, e2, e3, u2, this, u4, by omega, Or.inl rfl, b4⟩
      · obtain ⟨q1, q2⟩ := ho_q_ok b3.1 p1
        obtain ⟨w, w1, w2⟩ := ho_sem_or q1
        rw [z3, Int.add_zero] at w2
        obtain ⟨w', w3, w4, w5⟩ := ty_fit_ok b3.1.1 p2
        rw [w1] at w3
        cases w3
        dsimp only at w4
        have := hL3 _ w1
        exact ⟨d', L', w.toInt, e2, e3, u2, this, u4, by omega, Or.inr ⟨w2, by omega⟩, b4⟩
    · cases b5
/-- not ready -/
theorem od_s7z (hT : ty_vT tc_g od_T) (hd : mo_d (4, 100) d) (hb : b < 6) (hl : od_loc b L) (hg : ty_gok tc_g h) {n i j : Nat} {s : Int} (hn2 : n < 8) (h2 : od_int L 2 n) (h3 : od_int L 3 s) (hs1 : -1 ≤ s) (hs2 : s ≤ 7) (hi : i < 8) (h4 : od_int L 4 i) (h5 : od_int L 5 0) (hj : j < 8) (h6 : od_int L 6 j) :
    (∃ (d' : Nat × Nat) (L' : List Value), mo_d (4, 100) d' ∧ od_loc b L' ∧ od_int L' 2 n ∧ od_int L' 3 s ∧ od_int L' 4 i ∧ od_int L' 5 0 ∧ od_int L' 6 ((j : Int) + 1) ∧ j + 1 ≤ i ∧ ∀ r : am_O × am_H, am_Ev ((d', 170, 156, L', []), h, []) r → am_Ev ((d, 170, 156, L, []), h, []) r) ∨
    ∃ (d' : Nat × Nat) (L' : List Value), mo_d (4, 100) d' ∧ od_loc b L' ∧ od_int L' 2 n ∧ od_int L' 3 s ∧ od_int L' 4 ((i : Int) + 1) ∧ i ≤ j ∧ ∀ r : am_O × am_H, am_Ev ((d', 170, 125, L', []), h, []) r → am_Ev ((d, 170, 156, L, []), h, []) r := by
  have hck : od7z b i = true := od_all2 od7z_ok hb hi
  obtain ⟨S', σ', c', b1, b2, b3, b4⟩ := od_run hT rfl List.mem_cons_self hck (od_arD hd hl rfl (fun k s hk hkd => by
    match k, hk with
    | 0, hk => cases hk; exact od_i5 h2 (by omega) (by omega)
    | 1, hk => cases hk; exact od_i5 h3 (by omega) (by omega)
    | 2, hk => cases hk; exact od_c5 h4
    | 3, hk => cases hk; exact od_c5 h5
    | 4, hk => cases hk; exact od_i5 h6 (by omega) (by omega)
    | k + 5, hk => cases hk) hg)
  have z2 : ty_bv σ' (3 : Int).toNat = n := od_lv b3 (by show 7 ≤ 7; omega) (by omega) h2
  have z3 : ty_bv σ' (4 : Int).toNat = s := od_lv b3 (by show 7 ≤ 7; omega) (by omega) h3
  have z6 : ty_bv σ' (7 : Int).toNat = j := od_lv b3 (by show 7 ≤ 7; omega) (by omega) h6
  rcases ty_ite b2 with ⟨_, b2⟩ | ⟨_, b2⟩
  · left
    have hh : c'.2.1 = h := hc_none b3 rfl (by rw [ho_hd_mid b2]; rfl)
    obtain ⟨d', L', H, e1, e2, e3, e4, e5⟩ := od_hd_ok rfl b3 b2
    subst e1
    have hh : H = h := hh
    subst hh
    have u2 := od_int_or (e5 0 _ rfl _ List.mem_cons_self)
    have u3 := od_int_or (e5 1 _ rfl _ List.mem_cons_self)
    rw [z2, Int.add_zero] at u2
    rw [z3, Int.add_zero] at u3
    have u4 := od_int_c (by omega) (by omega) (e5 2 _ rfl _ List.mem_cons_self)
    have u5 := od_int_c (by decide) (by decide) (e5 3 _ rfl _ List.mem_cons_self)
    have u6 := od_int_or (e5 4 _ rfl _ List.mem_cons_self)
    rw [z6] at u6
    obtain ⟨n6, m1, m2, m3⟩ := od_int_in (e5 4 _ rfl _ (List.mem_cons_of_mem _ List.mem_cons_self))
    have hj6 := od_int_u u6 m1
    exact ⟨d', L', e2, e3, u2, u3, u4, u5, u6, by omega, b4⟩
  · right
    have hh : c'.2.1 = h := hc_none b3 rfl (by rw [ho_hd_mid b2]; rfl)
    obtain ⟨d', L', H, e1, e2, e3, e4, e5⟩ := od_hd_ok rfl b3 b2
    subst e1
    have hh : H = h := hh
    subst hh
    have u2 := od_int_or (e5 0 _ rfl _ List.mem_cons_self)
    have u3 := od_int_or (e5 1 _ rfl _ List.mem_cons_self)
    rw [z2, Int.add_zero] at u2
    rw [z3, Int.add_zero] at u3
    have u4 := od_int_c (by omega) (by omega) (e5 2 _ rfl _ List.mem_cons_self)
    have u6 := od_int_or (e5 4 _ rfl _ List.mem_cons_self)
    rw [z6] at u6
    obtain ⟨n6, m1, m2, m3⟩ := od_int_in (e5 4 _ rfl _ (List.mem_cons_of_mem _ List.mem_cons_self))
    have hj6 := od_int_u u6 m1
    exact ⟨d', L', e2, e3, u2, u3, u4, by omega, b4⟩
end HOE
