/-! order: from head to head -/
section HOD
def od_loc (b : Nat) (L : List Value) : Prop := L.length = 7 ∧ L[0]? = some (.ref 64) ∧ L[1]? = some (.int (Int32.ofInt b))
def od_len (b len : Nat) (h : am_H) : Prop := ty_pk h (66, b, len, len)
def od_int (L : List Value) (k : Nat) (n : Int) : Prop := ∃ z : Int32, L[k]? = some (.int z) ∧ z.toInt = n
theorem ho_sem_ref {σ : Nat → Int32} {p : Int} {w : Value} (h : ho_sem σ (1, p, 0) w) : w = .ref p.toNat := h
theorem ho_sem_c {σ : Nat → Int32} {c : Int} {w : Value} (h : ho_sem σ (7, c, 0) w) : w = .int (Int32.ofInt c) := h
theorem ho_sem_in {σ : Nat → Int32} {lo hi : Int} {w : Value} (h : ho_sem σ (0, lo, hi) w) : ∃ x : Int32, w = .int x ∧ lo ≤ x.toInt ∧ x.toInt ≤ hi := h
theorem ho_sem_or {σ : Nat → Int32} {b o : Int} {w : Value} (h : ho_sem σ (8, b, o) w) : ∃ x : Int32, w = .int x ∧ x.toInt = ty_bv σ b.toNat + o := h
theorem od_run {g : List ty_X} {T : List ty_C} (hT : ty_vT g T) {C : ty_C} (he : C.2.1.2.1 = []) (hp : (0, 0, 2, 0) ∈ C.2.1.2.2.2.2) {stp chk : ty_S → Bool} {n : Nat} (hck : ty_sg g T C stp chk n (ty_S0 C) = true) {d : Nat × Nat} {L : List Value} {h : am_H} (ha : ty_ar0 g C d L h) : ∃ (S' : ty_S) (σ' : Nat → Int32) (c' : am_G), stp S' = true ∧ chk S' = true ∧ ty_ho g C (ty_l00 C.1.2.2.1.length L h C.2.1.2.2.2.1) h σ' S' c' ∧ ∀ r : am_O × am_H, am_Ev c' r → am_Ev ((d, C.1.1, C.1.2.1, L, []), h, []) r := by
  obtain ⟨σ, ho⟩ := ty_start ha
  rcases ty_sg_ok ha.2.2.2.1 hT _ _ _ _ hck ho with ⟨r, _, r2⟩ | hr
  · exact absurd r2 (ty_rs_no he hp r)
  · exact hr
theorem od_vnil {g : List ty_X} : ty_vT g [] := fun C hC => absurd hC List.not_mem_nil
theorem od_ar {g : List ty_X} {b pc : Nat} {Ls : List ty_V} {X : List ty_V × List Nat × List Nat × List ty_P × List ty_P} {ms : List (Nat × Nat)} {d : Nat × Nat} {L : List Value} {h : am_H} (hd : mo_d (4, 100) d) (hl : od_loc b L) (h5 : Ls.length = 5) (hs : ∀ (k : Nat) (s : ty_V), Ls[k]? = some s → ty_kd s.1 = true → ∃ v : Value, L[k + 2]? = some v ∧ ty_vok s v) (hg : ty_gok g h) (hp : ∀ q ∈ X.2.2.2.1, ty_pk h q) : ty_ar0 g ((170, pc, (1, 64, 0) :: (7, (b : Int), 0) :: Ls, (4, 100)), X, ms) d L h := by
  refine ⟨hd, by rw [hl.1]; simp [h5], fun k s hk hkd => ?_, hg, hp⟩
  match k, hk with
  | 0, hk => cases hk; exact ⟨_, hl.2.1, rfl⟩
  | 1, hk => cases hk; exact ⟨_, hl.2.2, rfl⟩
  | k + 2, hk => exact hs k s hk hkd
theorem od_pre {b len : Nat} {h : am_H} (hl : od_len b len h) : ∀ q ∈ [((66, b, (len : Int), (len : Int)) : ty_P)], ty_pk h q := fun q hq => by rw [List.mem_singleton.mp hq]; exact hl
theorem od_j5 {s : ty_V} {P : Prop} (hs : some od_J = some s) (hk : ty_kd s.1 = true) : P := by
  cases hs
  cases hk
theorem od_i5 {L : List Value} {k : Nat} {n lo hi : Int} (h : od_int L k n) (h1 : lo ≤ n) (h2 : n ≤ hi) : ∃ v : Value, L[k]? = some v ∧ ty_vok (0, lo, hi) v := by
  obtain ⟨z, e1, e2⟩ := h
  exact ⟨_, e1, z, rfl, by show lo ≤ _; omega, by show _ ≤ hi; omega⟩
theorem od_c5 {L : List Value} {k : Nat} {n : Int} (h : od_int L k n) : ∃ v : Value, L[k]? = some v ∧ ty_vok (7, n, 0) v := by
  obtain ⟨z, e1, e2⟩ := h
  refine ⟨_, e1, ?_⟩
  show Value.int z = .int (Int32.ofInt n)
  rw [← e2, Int32.ofInt_toInt]
theorem od_full {L : List Value} {k : Nat} {n : Int} (h : od_int L k n) : ∃ v : Value, L[k]? = some v ∧ ty_vok od_I v := by
  obtain ⟨z, e1, e2⟩ := h
  have nb := ty_nb_full (σ := fun _ => 0) 0 z
  exact ⟨_, e1, z, rfl, nb.1, nb.2.1⟩
/-- what a head gives -/
theorem od_hd_ok {g : List ty_X} {C0 : ty_C} {l0 : Nat → Int32} {H0 : am_H} {σ : Nat → Int32} {b pc : Nat} {r : List (List ty_V)} {S : ty_S} {c : am_G} (h5 : r.length = 5) (ho : ty_ho g C0 l0 H0 σ S c) (hs : od_hd b pc r S = true) : ∃ (d' : Nat × Nat) (L' : List Value) (H : am_H), c = ((d', 170, pc, L', []), H, []) ∧ mo_d (4, 100) d' ∧ od_loc b L' ∧ H.length = H0.length ∧ ∀ (k : Nat) (qs : List ty_V), r[k]? = some qs → ∀ q ∈ qs, ∃ w : Value, L'[k + 2]? = some w ∧ ho_sem σ q w := by
  obtain ⟨d', L', H, e1, e2, e3, e4⟩ := ho_hd_ok ho hs
  obtain ⟨w0, a1, a2⟩ := e4 0 _ rfl (1, 64, 0) List.mem_cons_self
  obtain ⟨w1, a3, a4⟩ := e4 1 _ rfl (7, (b : Int), 0) List.mem_cons_self
  have hl : c.2.1.length = H0.length := ho_len ho (by rw [ho_hd_mid hs]; rfl)
  rw [e1] at hl
  refine ⟨d', L', H, e1, e2, ⟨by rw [e3]; simp [h5], by rw [a1, ho_sem_ref a2]; rfl, by rw [a3, ho_sem_c a4]⟩, hl, fun k qs hk => e4 (k + 2) qs hk⟩
theorem od_int_or {L : List Value} {k : Nat} {σ : Nat → Int32} {b o : Int} (h : ∃ w : Value, L[k]? = some w ∧ ho_sem σ (8, b, o) w) : od_int L k (ty_bv σ b.toNat + o) := by
  obtain ⟨w, e1, e2⟩ := h
  obtain ⟨x, rfl, e3⟩ := ho_sem_or e2
  exact ⟨x, e1, e3⟩
theorem od_int_c {L : List Value} {k : Nat} {σ : Nat → Int32} {c : Int} (h1 : -2147483648 ≤ c) (h2 : c ≤ 2147483647) (h : ∃ w : Value, L[k]? = some w ∧ ho_sem σ (7, c, 0) w) : od_int L k c := by
  obtain ⟨w, e1, e2⟩ := h
  rw [ho_sem_c e2] at e1
  exact ⟨_, e1, ty_ofi h1 h2⟩
theorem od_int_in {L : List Value} {k : Nat} {σ : Nat → Int32} {lo hi : Int} (h : ∃ w : Value, L[k]? = some w ∧ ho_sem σ (0, lo, hi) w) : ∃ n : Int, od_int L k n ∧ lo ≤ n ∧ n ≤ hi := by
  obtain ⟨w, e1, e2⟩ := h
  obtain ⟨x, rfl, e3, e4⟩ := ho_sem_in e2
  exact ⟨_, ⟨x, e1, rfl⟩, e3, e4⟩
theorem od_int_u {L : List Value} {k : Nat} {m n : Int} (h1 : od_int L k m) (h2 : od_int L k n) : m = n := by
  obtain ⟨z, e1, e2⟩ := h1
  obtain ⟨y, e3, e4⟩ := h2
  rw [e1] at e3
  cases e3
  omega
/-- an unknown of the start -/
theorem od_lv {g : List ty_X} {C0 : ty_C} {H0 h : am_H} {P : List ty_P} {L : List Value} {σ : Nat → Int32} {S : ty_S} {c : am_G} {k : Nat} {n : Int} (ho : ty_ho g C0 (ty_l00 7 L h P) H0 σ S c) (hn : 7 ≤ ty_n0 C0) (hk : k < 7) (hi : od_int L k n) : ty_bv σ (k + 1) = n := by
  obtain ⟨z, e1, e2⟩ := hi
  have h1 := ho.1.2.2.2 k (by omega)
  show (σ k).toInt = n
  rw [h1]
  unfold ty_l00
  rw [if_pos hk]
  simp only [ty_lv, e1]
  exact e2
theorem od_all2 {f : Nat → Nat → Bool} {m n : Nat} (h : (List.range m).all (fun a => (List.range n).all (fun b => f a b)) = true) {a b : Nat} (ha : a < m) (hb : b < n) : f a b = true := List.all_eq_true.mp (List.all_eq_true.mp h a (List.mem_range.mpr ha)) b (List.mem_range.mpr hb)
section
variable {d : Nat × Nat} {b len : Nat} {L : List Value} {h : am_H}
theorem od_s1 (hd : mo_d (4, 100) d) (hb : b < 6) (hle : len ≤ 8) (hl : od_loc b L) (hg : ty_gok tc_g h) (hn : od_len b len h) : ∃ (d' : Nat × Nat) (L' : List Value), mo_d (4, 100) d' ∧ od_loc b L' ∧ od_int L' 2 ((len : Int) - 1) ∧ ∀ r : am_O × am_H, am_Ev ((d', 170, 9, L', []), h, []) r → am_Ev ((d, 170, 0, L, []), h, []) r := by
  have hck : od1 b len = true := od_all2 od1_ok hb (by omega)
  obtain ⟨S', σ', c', b1, b2, b3, b4⟩ := od_run od_vnil rfl List.mem_cons_self hck (od_ar hd hl rfl (fun k s hk hkd => by
    match k, hk with
    | 0, hk => exact od_j5 hk hkd
    | 1, hk => exact od_j5 hk hkd
    | 2, hk => exact od_j5 hk hkd
    | 3, hk => exact od_j5 hk hkd
    | 4, hk => exact od_j5 hk hkd
    | k + 5, hk => cases hk) hg (od_pre hn))
  have hh : c'.2.1 = h := hc_none b3 rfl (by rw [ho_hd_mid b2]; rfl)
  obtain ⟨d', L', H, e1, e2, e3, e4, e5⟩ := od_hd_ok rfl b3 b2
  subst e1
  have hh : H = h := hh
  subst hh
  obtain ⟨n, n1, n2, n3⟩ := od_int_in (e5 0 _ rfl _ List.mem_cons_self)
  exact ⟨d', L', e2, e3, by rw [show (len : Int) - 1 = n by omega]; exact n1, b4⟩
theorem od_s2 (hd : mo_d (4, 100) d) (hb : b < 6) (hle : len ≤ 8) (hl : od_loc b L) (hg : ty_gok tc_g h) (hn : od_len b len h) {i : Nat} (hi : i < len) (h2 : od_int L 2 i) : ∃ (d' : Nat × Nat) (L' : List Value), mo_d (4, 100) d' ∧ od_loc b L' ∧ od_int L' 2 i ∧ (∃ m : Int, od_int L' 3 m) ∧ od_int L' 4 ((i : Int) + 1) ∧ ∀ r : am_O × am_H, am_Ev ((d', 170, 20, L', []), h, []) r → am_Ev ((d, 170, 9, L, []), h, []) r := by
  obtain ⟨l, rfl⟩ : ∃ l, len = l + 1 := ⟨len - 1, by omega⟩
  have hck : od2 b (l + 1) = true := od_all2 (f := fun b l => od2 b (l + 1)) od2_ok hb (by omega)
  obtain ⟨S', σ', c', b1, b2, b3, b4⟩ := od_run od_vnil rfl List.mem_cons_self hck (od_ar hd hl rfl (fun k s hk hkd => by
    match k, hk with
    | 0, hk => cases hk; exact od_i5 h2 (by omega) (by omega)
    | 1, hk => exact od_j5 hk hkd
    | 2, hk => exact od_j5 hk hkd
    | 3, hk => exact od_j5 hk hkd
    | 4, hk => exact od_j5 hk hkd
    | k + 5, hk => cases hk) hg (od_pre hn))
  have hh : c'.2.1 = h := hc_none b3 rfl (by rw [ho_hd_mid b2]; rfl)
  obtain ⟨d', L', H, e1, e2, e3, e4, e5⟩ := od_hd_ok rfl b3 b2
  subst e1
  have hh : H = h := hh
  subst hh
  have z2 := od_lv b3 (by show 7 ≤ 8; omega) (by omega) h2
  have u2 := od_int_or (e5 0 _ rfl _ List.mem_cons_self)
  have u4 := od_int_or (e5 2 _ rfl _ List.mem_cons_self)
  obtain ⟨n, n1, _⟩ := od_int_in (e5 1 _ rfl _ List.mem_cons_self)
  refine ⟨d', L', e2, e3, ?_, ⟨n, n1⟩, ?_, b4⟩
  · rw [show (i : Int) = ty_bv σ' (3 : Int).toNat + 0 by rw [show (3 : Int).toNat = 2 + 1 from rfl, z2]; omega]
    exact u2
  · rw [show (i : Int) + 1 = ty_bv σ' (3 : Int).toNat + 1 by rw [show (3 : Int).toNat = 2 + 1 from rfl, z2]]
    exact u4
theorem od_s2e (hd : mo_d (4, 100) d) (hb : b < 6) (hle : len ≤ 8) (hl : od_loc b L) (hg : ty_gok tc_g h) (hn : od_len b len h) (h2 : od_int L 2 (-1)) : ∃ (d' : Nat × Nat) (L' : List Value), mo_d (4, 100) d' ∧ od_loc b L' ∧ od_int L' 2 0 ∧ ∀ r : am_O × am_H, am_Ev ((d', 170, 110, L', []), h, []) r → am_Ev ((d, 170, 9, L, []), h, []) r := by
  have hck : od2e b len = true := od_all2 od2e_ok hb (by omega)
  obtain ⟨S', σ', c', b1, b2, b3, b4⟩ := od_run od_vnil rfl List.mem_cons_self hck (od_ar hd hl rfl (fun k s hk hkd => by
    match k, hk with
    | 0, hk => cases hk; exact od_c5 h2
    | 1, hk => exact od_j5 hk hkd
    | 2, hk => exact od_j5 hk hkd
    | 3, hk => exact od_j5 hk hkd
    | 4, hk => exact od_j5 hk hkd
    | k + 5, hk => cases hk) hg (od_pre hn))
  have hh : c'.2.1 = h := hc_none b3 rfl (by rw [ho_hd_mid b2]; rfl)
  obtain ⟨d', L', H, e1, e2, e3, e4, e5⟩ := od_hd_ok rfl b3 b2
  subst e1
  have hh : H = h := hh
  subst hh
  exact ⟨d', L', e2, e3, od_int_c (by decide) (by decide) (e5 0 _ rfl _ List.mem_cons_self), b4⟩
theorem od_st_ok {g : List ty_X} {C0 : ty_C} {l0 : Nat → Int32} {H0 : am_H} {σ : Nat → Int32} {S : ty_S} {c : am_G} {qv qj : ty_V} (ho : ty_ho g C0 l0 H0 σ S c) (hs : od_st qv qj S = true) {v j : Value} {r : List Value} (e : S.2.2.1.2.2.2.2 = v :: j :: r) : ho_sem σ qv (sx_v σ v) ∧ ho_sem σ qj (sx_v σ j) := by
  unfold od_st at hs
  rw [e] at hs
  simp only [Bool.and_eq_true] at hs
  exact ⟨(ho_q_ok ho.1 hs.1).1, (ho_q_ok ho.1 hs.2).1⟩
theorem od_s3 (hT : ty_vT tc_g od_T) (hd : mo_d (4, 100) d) (hb : b < 6) (hle : len ≤ 8) (hl : od_loc b L) (hg : ty_gok tc_g h) (hn : od_len b len h) {i k : Nat} (hi : i < len) (h2 : od_int L 2 i) {m : Int} (h3 : od_int L 3 m) (hk1 : 1 ≤ k) (hk : k ≤ len) (h4 : od_int L 4 k) :
    (∃ (d' : Nat × Nat) (L' : List Value) (h' : am_H), mo_d (4, 100) d' ∧ od_loc b L' ∧ od_int L' 2 i ∧ (∃ m : Int, od_int L' 3 m) ∧ od_int L' 4 ((k : Int) + 1) ∧ k + 1 ≤ len ∧ ty_gok tc_g h' ∧ ty_un [88] h h' ∧ h'.length = h.length ∧ ∀ r : am_O × am_H, am_Ev ((d', 170, 20, L', []), h', []) r → am_Ev ((d, 170, 20, L, []), h, []) r) ∨
    ∃ (d' : Nat × Nat) (L' : List Value) (h' : am_H) (P : List Value), mo_d (4, 100) d' ∧ od_loc b L' ∧ od_int L' 2 ((i : Int) - 1) ∧ ty_gok tc_g h' ∧ ty_un [88, 89] h h' ∧ h'.length = h.length ∧ h[89]? = some (34, P) ∧ P.length = 8 ∧ h'[89]? = some (34, P.set i (.int 0)) ∧ ∀ r : am_O × am_H, am_Ev ((d', 170, 9, L', []), h', []) r → am_Ev ((d, 170, 20, L, []), h, []) r := by
  obtain ⟨l, rfl⟩ : ∃ l, len = l + 1 := ⟨len - 1, by omega⟩
  have hck : od3 b (l + 1) = true := od_all2 (f := fun b l => od3 b (l + 1)) od3_ok hb (by omega)
  obtain ⟨S', σ', c', b1, b2, b3, b4⟩ := od_run hT rfl List.mem_cons_self hck (od_ar hd hl rfl (fun k s hk hkd => by
    match k, hk with
    | 0, hk => cases hk; exact od_i5 h2 (by omega) (by omega)
    | 1, hk => cases hk; exact od_full h3
    | 2, hk => cases hk; exact od_i5 h4 (by omega) (by omega)
    | 3, hk => exact od_j5 hk hkd
    | 4, hk => exact od_j5 hk hkd
    | k + 5, hk => cases hk) hg (od_pre hn))
  have z2 : ty_bv σ' (3 : Int).toNat = i := od_lv b3 (by show 7 ≤ 8; omega) (by omega) h2
  have z4 : ty_bv σ' (5 : Int).toNat = k := od_lv b3 (by show 7 ≤ 8; omega) (by omega) h4
  rcases ty_ite b2 with ⟨hq, b2⟩ | ⟨_, b2⟩
  · right
    simp only [Bool.and_eq_true] at b2
    obtain ⟨d1, d2, d3, d4⟩ := b2
    have hl1 : c'.2.1.length = h.length := ho_len b3 (by rw [ty_bef_mid hq]; rfl)
    have hun : ty_un [88] h c'.2.1 := b3.2.2.2.2.2.1
    obtain ⟨v, j, r, x, w, fs, c2, e1, e2, e3, e4, e5, e6, e7, e8, e9, e10⟩ := ty_handb b3 hq d1 rfl rfl
    obtain ⟨s1, s2⟩ := od_st_ok b3 d2 e1
    have hx : x = Int32.ofInt 0 := by
      have := ho_sem_c s1
      rw [e2] at this
      cases this
      rfl
    have hw : w.toNatClampNeg = i := by
      obtain ⟨y, y1, y2⟩ := ho_sem_or s2
      rw [e3] at y1
      cases y1
      have := ty_cl e4
      rw [z2] at y2
      omega
    have hx0 : x &&& 1 = 0 := by rw [hx]; rfl
    rw [hw, hx0] at e8
    have hl89 : 89 < c'.2.1.length := (List.getElem?_eq_some_iff.mp e7).1
    have hg2 : ty_gok tc_g c2.2.1 := e9.2.1
    rcases ty_sg_ok hg2 od_vnil _ _ _ _ d4 e9 with ⟨r, _, r2⟩ | ⟨S2, σ2, c3, t1, t2, t3, t4⟩
    · exact absurd r2 (ty_rs_no rfl List.mem_cons_self r)
    · have hh3 : ty_un [88] c2.2.1 c3.2.1 := t3.2.2.2.2.2.1
      have hl3 : c3.2.1.length = c2.2.1.length := ho_len t3 (by rw [ho_hd_mid t2]; rfl)
      obtain ⟨d', L', H, u1, u2, u3, u4, u5⟩ := od_hd_ok rfl t3 t2
      subst u1
      have z2' : ty_bv σ2 (3 : Int).toNat = i := od_lv t3 (by show 7 ≤ 8; omega) (by omega) h2
      have v2 := od_int_or (u5 0 _ rfl _ List.mem_cons_self)
      have hP : h[89]? = some (34, fs) := by
        obtain ⟨y, y1, y2⟩ := hg 89 _ (show tc_g[89]? = some (34, 8, [(0, 0, 1)]) from rfl)
        have := hun 89 (by decide) y y1
        rw [e7] at this
        cases this
        exact y1
      refine ⟨d', L', H, fs, u2, u3, ?_, t3.2.1, fun p hp y hy => ?_, by show H.length = _; rw [u4, e8, List.length_set, hl1], hP, e6, ?_, fun R hR => b4 R (e10 R (t4 R hR))⟩
      · rw [show (i : Int) - 1 = ty_bv σ2 (3 : Int).toNat + -1 by rw [z2']; omega]
        exact v2
      · have hp' : p ≠ 88 ∧ p ≠ 89 := by simpa using hp
        have h1 := hun p (by simp [hp'.1]) y hy
        refine hh3 p (by simp [hp'.1]) y ?_
        rw [e8, List.getElem?_set_ne (fun e => hp'.2 e.symm)]
        exact h1
      · refine hh3 89 (by decide) _ ?_
        rw [e8]
        exact List.getElem?_set_self hl89
  · left
    obtain ⟨d', L', H, e1, e2, e3, e4, e5⟩ := od_hd_ok rfl b3 b2
    subst e1
    have u2 := od_int_or (e5 0 _ rfl _ List.mem_cons_self)
    obtain ⟨n, n1, _⟩ := od_int_in (e5 1 _ rfl _ List.mem_cons_self)
    have u4 := od_int_or (e5 2 _ rfl _ List.mem_cons_self)
    obtain ⟨n4, m1, m2, m3⟩ := od_int_in (e5 2 _ rfl _ (List.mem_cons_of_mem _ List.mem_cons_self))
    have hk4 := od_int_u u4 m1
    rw [z4] at hk4 u4
    rw [z2] at u2
    refine ⟨d', L', H, e2, e3, ?_, ⟨n, n1⟩, u4, by omega, b3.2.1, b3.2.2.2.2.2.1, e4, b4⟩
    rw [show (i : Int) = (i : Int) + 0 by omega]
    exact u2
end
end HOD
