/-! order: its loops -/
section HOF
/-- how many of the first k are not placed -/
def od_fr0 (P : List Value) : Nat → Nat
  | 0 => 0
  | k + 1 => od_fr0 P k + (if P[k]? = some (.int 0) then 1 else 0)
theorem od_fr0_none {P : List Value} : ∀ k : Nat, (∀ x : Nat, x < k → P[x]? ≠ some (.int 0)) → od_fr0 P k = 0
  | 0, _ => rfl
  | k + 1, h => by
    simp only [od_fr0]
    rw [od_fr0_none k (fun x hx => h x (by omega)), if_neg (h k (by omega))]
theorem od_fr0_all {P : List Value} : ∀ k : Nat, (∀ x : Nat, x < k → P[x]? = some (.int 0)) → od_fr0 P k = k
  | 0, _ => rfl
  | k + 1, h => by
    simp only [od_fr0]
    rw [od_fr0_all k (fun x hx => h x (by omega)), if_pos (h k (by omega))]
theorem od_fr0_ne {P : List Value} {s : Nat} {v : Value} : ∀ k : Nat, k ≤ s → od_fr0 (P.set s v) k = od_fr0 P k
  | 0, _ => rfl
  | k + 1, h => by
    simp only [od_fr0]
    rw [od_fr0_ne k (by omega), List.getElem?_set_ne (by omega)]
theorem od_fr0_set {P : List Value} {s : Nat} (hs : P[s]? = some (.int 0)) : ∀ k : Nat, s < k → od_fr0 (P.set s (.int 1)) k + 1 = od_fr0 P k
  | 0, h => by omega
  | k + 1, h => by
    simp only [od_fr0]
    by_cases q : s = k
    · subst q
      have hl := (List.getElem?_eq_some_iff.mp hs).1
      rw [od_fr0_ne s (Nat.le_refl _), List.getElem?_set_self hl, if_pos hs, if_neg]
      intro e
      cases e
    · have := od_fr0_set hs k (by omega)
      rw [List.getElem?_set_ne (by omega)]
      omega
variable {b len : Nat}
theorem od_len_un {h h' : am_H} {ms : List Nat} (hn : od_len b len h) (hu : ty_un ms h h') (hm : 66 ∉ ms) : od_len b len h' := by
  obtain ⟨x, v, e1, e2⟩ := hn
  exact ⟨x, v, hu 66 hm x e1, e2⟩
/-- the inner loop of the heights, to the next one -/
theorem od_l20 (hT : ty_vT tc_g od_T) (hb : b < 6) (hle : len ≤ 8) : ∀ (m k : Nat), k + m = len → 1 ≤ k → ∀ (d : Nat × Nat) (L : List Value) (h : am_H) (i : Nat) (mm : Int), mo_d (4, 100) d → od_loc b L → ty_gok tc_g h → od_len b len h → i < len → od_int L 2 i → od_int L 3 mm → od_int L 4 k →
    ∃ (d' : Nat × Nat) (L' : List Value) (h' : am_H) (P : List Value), mo_d (4, 100) d' ∧ od_loc b L' ∧ od_int L' 2 ((i : Int) - 1) ∧ ty_gok tc_g h' ∧ ty_un [88, 89] h h' ∧ h'.length = h.length ∧ h[89]? = some (34, P) ∧ P.length = 8 ∧ h'[89]? = some (34, P.set i (.int 0)) ∧ ∀ r : am_O × am_H, am_Ev ((d', 170, 9, L', []), h', []) r → am_Ev ((d, 170, 20, L, []), h, []) r := by
  intro m
  induction m with
  | zero =>
    intro k hk hk1 d L h i mm hd hl hg hn hi h2 h3 h4
    rcases od_s3 hT hd hb hle hl hg hn hi h2 h3 hk1 (by omega) h4 with ⟨d', L', h', _, _, _, _, _, c, _⟩ | r
    · omega
    · exact r
  | succ m ih =>
    intro k hk hk1 d L h i mm hd hl hg hn hi h2 h3 h4
    rcases od_s3 hT hd hb hle hl hg hn hi h2 h3 hk1 (by omega) h4 with ⟨d', L', h', e1, e2, e3, ⟨m3, e4⟩, e5, _, e6, e7, e8, e9⟩ | r
    · obtain ⟨d2, L2, h2', P, f1, f2, f3, f4, f5, f6, f7, f8, f9, f10⟩ := ih (k + 1) (by omega) (by omega) d' L' h' i m3 e1 e2 e6 (od_len_un hn e7 (by decide)) hi e3 e4 (by rw [show ((k + 1 : Nat) : Int) = (k : Int) + 1 by omega]; exact e5)
      have hP : h[89]? = some (34, P) := by
        obtain ⟨y, y1, _⟩ := hg 89 _ (show tc_g[89]? = some (34, 8, [(0, 0, 1)]) from rfl)
        have := e7 89 (by decide) y y1
        rw [f7] at this
        cases this
        exact y1
      exact ⟨d2, L2, h2', P, f1, f2, f3, f4, ty_un_tr (ty_un_tr (ns := [88]) (ms := [88, 89]) (fun _ _ _ hx => hx) e7 (by decide)) f5 (fun _ hp => hp), by rw [f6, e8], hP, f8, f9, fun R hR => e9 R (f10 R hR)⟩
    · exact r
/-- the heights: afterwards nothing is placed -/
theorem od_l9 (hT : ty_vT tc_g od_T) (hb : b < 6) (hle : len ≤ 8) : ∀ (j : Nat), j ≤ len → ∀ (d : Nat × Nat) (L : List Value) (h : am_H) (P : List Value), mo_d (4, 100) d → od_loc b L → ty_gok tc_g h → od_len b len h → od_int L 2 ((j : Int) - 1) → h[89]? = some (34, P) → P.length = 8 → (∀ x : Nat, j ≤ x → x < len → P[x]? = some (.int 0)) →
    ∃ (d' : Nat × Nat) (L' : List Value) (h' : am_H) (P' : List Value), mo_d (4, 100) d' ∧ od_loc b L' ∧ od_int L' 2 0 ∧ ty_gok tc_g h' ∧ ty_un [88, 89] h h' ∧ h'.length = h.length ∧ h'[89]? = some (34, P') ∧ (∀ x : Nat, x < len → P'[x]? = some (.int 0)) ∧ ∀ r : am_O × am_H, am_Ev ((d', 170, 110, L', []), h', []) r → am_Ev ((d, 170, 9, L, []), h, []) r := by
  intro j
  induction j with
  | zero =>
    intro _ d L h P hd hl hg hn h2 hP _ hx
    obtain ⟨d', L', e1, e2, e3, e4⟩ := od_s2e hd hb hle hl hg hn (by simpa using h2)
    exact ⟨d', L', h, P, e1, e2, e3, hg, fun _ _ _ hx => hx, rfl, hP, fun x hx' => hx x (by omega) hx', e4⟩
  | succ j ih =>
    intro hj d L h P hd hl hg hn h2 hP hPl hx
    obtain ⟨d', L', e1, e2, e3, ⟨m3, e4⟩, e5, e6⟩ := od_s2 hd hb hle hl hg hn (i := j) (by omega) (by rw [show (j : Int) = ((j + 1 : Nat) : Int) - 1 by omega]; exact h2)
    obtain ⟨d2, L2, h2', P2, f1, f2, f3, f4, f5, f6, f7, f8, f9, f10⟩ := od_l20 hT hb hle (len - (j + 1)) (j + 1) (by omega) (by omega) d' L' h j m3 e1 e2 hg hn (by omega) e3 e4 (by rw [show ((j + 1 : Nat) : Int) = (j : Int) + 1 by omega]; exact e5)
    rw [hP] at f7
    cases f7
    obtain ⟨d3, L3, h3, P3, g1, g2, g3, g4, g5, g6, g7, g8, g9⟩ := ih (by omega) d2 L2 h2' (P.set j (.int 0)) f1 f2 f4 (od_len_un hn f5 (by decide)) f3 f9 (by rw [List.length_set]; exact hPl) (fun x x1 x2 => by
      by_cases q : j = x
      · subst q
        exact List.getElem?_set_self (by omega)
      · rw [List.getElem?_set_ne q]
        exact hx x (by omega) x2)
    exact ⟨d3, L3, h3, P3, g1, g2, g3, g4, ty_un_tr f5 g5 (fun _ hp => hp), by rw [g6, f6], g7, g8, fun R hR => e6 R (f10 R (g9 R hR))⟩
/-- is it ready? to the next one -/
theorem od_lj (hT : ty_vT tc_g od_T) (hb : b < 6) : ∀ (m j : Nat), ∀ (d : Nat × Nat) (L : List Value) (h : am_H) (n i : Nat) (s r : Int) (P : List Value), j + m = i → mo_d (4, 100) d → od_loc b L → ty_gok tc_g h → n < 8 → od_int L 2 n → od_int L 3 s → -1 ≤ s → s ≤ 7 → i < 8 → od_int L 4 i → od_int L 5 r → (r = 0 ∨ r = 1) → od_int L 6 j → h[89]? = some (34, P) →
    ∃ (d' : Nat × Nat) (L' : List Value) (s' : Int), mo_d (4, 100) d' ∧ od_loc b L' ∧ od_int L' 2 n ∧ od_int L' 3 s' ∧ od_int L' 4 ((i : Int) + 1) ∧ (s' = s ∨ (r = 1 ∧ s' = i)) ∧ (r = 1 → (∀ x : Nat, j ≤ x → x < i → P[x]? ≠ some (.int 0)) → 0 ≤ s') ∧ ∀ R : am_O × am_H, am_Ev ((d', 170, 125, L', []), h, []) R → am_Ev ((d, 170, 156, L, []), h, []) R := by
  intro m
  induction m with
  | zero =>
    intro j d L h n i s r P hj hd hl hg hn h2 h3 hs1 hs2 hi h4 h5 hr h6 hP
    rcases hr with rfl | rfl
    · rcases od_s7z hT hd hb hl hg hn h2 h3 hs1 hs2 hi h4 h5 (by omega) h6 with ⟨d', L', _, _, _, _, _, _, _, c, _⟩ | ⟨d', L', e1, e2, e3, e4, e5, _, e6⟩
      · omega
      · exact ⟨d', L', s, e1, e2, e3, e4, e5, Or.inl rfl, fun q => absurd q (by decide), e6⟩
    · rcases od_s7 hT hd hb hl hg hn h2 h3 hs1 hs2 hi h4 h5 (by omega) h6 hP with ⟨d', L', r', _, _, _, _, _, _, _, c, _⟩ | ⟨d', L', s', e1, e2, e3, e4, e5, _, e6, e7⟩
      · omega
      · refine ⟨d', L', s', e1, e2, e3, e4, e5, ?_, fun _ _ => ?_, e7⟩
        · rcases e6 with e6 | e6
          · exact Or.inr ⟨rfl, e6⟩
          · exact Or.inl e6.1
        · rcases e6 with e6 | e6 <;> omega
  | succ m ih =>
    intro j d L h n i s r P hj hd hl hg hn h2 h3 hs1 hs2 hi h4 h5 hr h6 hP
    have cj : ((j + 1 : Nat) : Int) = (j : Int) + 1 := by omega
    rcases hr with rfl | rfl
    · rcases od_s7z hT hd hb hl hg hn h2 h3 hs1 hs2 hi h4 h5 (by omega) h6 with ⟨d', L', e1, e2, e3, e4, e5, e6, e7, _, e8⟩ | ⟨d', L', _, _, _, _, _, c, _⟩
      · obtain ⟨d2, L2, s', f1, f2, f3, f4, f5, f6, f7, f8⟩ := ih (j + 1) d' L' h n i s 0 P (by omega) e1 e2 hg hn e3 e4 hs1 hs2 hi e5 e6 (Or.inl rfl) (by rw [cj]; exact e7) hP
        exact ⟨d2, L2, s', f1, f2, f3, f4, f5, f6, fun q => absurd q (by decide), fun R hR => e8 R (f8 R hR)⟩
      · omega
    · rcases od_s7 hT hd hb hl hg hn h2 h3 hs1 hs2 hi h4 h5 (by omega) h6 hP with ⟨d', L', r', e1, e2, e3, e4, e5, e6, e7, _, e9, e10⟩ | ⟨d', L', s', _, _, _, _, _, c, _⟩
      · obtain ⟨d2, L2, s', f1, f2, f3, f4, f5, f6, f7, f8⟩ := ih (j + 1) d' L' h n i s r' P (by omega) e1 e2 hg hn e3 e4 hs1 hs2 hi e5 e6 (by rcases e9 with e9 | e9; exact Or.inr e9; exact Or.inl e9.1) (by rw [cj]; exact e7) hP
        refine ⟨d2, L2, s', f1, f2, f3, f4, f5, ?_, fun _ hx => ?_, fun R hR => e10 R (f8 R hR)⟩
        · rcases f6 with f6 | f6
          · exact Or.inl f6
          · exact Or.inr ⟨rfl, f6.2⟩
        · rcases e9 with e9 | e9
          · exact f7 e9 (fun x x1 x2 => hx x (by omega) x2)
          · exact absurd e9.2 (hx j (Nat.le_refl _) (by omega))
      · omega
/-- what is known of the best so far -/
def od_best (P : List Value) (i : Nat) (s : Int) : Prop := (s = -1 ∧ ∀ x : Nat, x < i → P[x]? ≠ some (.int 0)) ∨ ∃ t : Nat, s = t ∧ t < i ∧ P[t]? = some (.int 0)
theorem od_li (hT : ty_vT tc_g od_T) (hb : b < 6) (hle : len ≤ 8) : ∀ (m i : Nat), i + m = len → ∀ (d : Nat × Nat) (L : List Value) (h : am_H) (n : Nat) (s : Int) (P : List Value), mo_d (4, 100) d → od_loc b L → ty_gok tc_g h → od_len b len h → n < len → od_int L 2 n → od_int L 3 s → od_best P i s → od_int L 4 i → h[89]? = some (34, P) →
    ∃ (d' : Nat × Nat) (L' : List Value) (s' : Int), mo_d (4, 100) d' ∧ od_loc b L' ∧ od_int L' 2 n ∧ od_int L' 3 s' ∧ od_int L' 4 len ∧ od_best P len s' ∧ ∀ R : am_O × am_H, am_Ev ((d', 170, 125, L', []), h, []) R → am_Ev ((d, 170, 125, L, []), h, []) R := by
  intro m
  induction m with
  | zero =>
    intro i hi d L h n s P hd hl hg hn hn2 h2 h3 hs h4 hP
    obtain rfl : i = len := by omega
    exact ⟨d, L, s, hd, hl, h2, h3, h4, hs, fun R hR => hR⟩
  | succ m ih =>
    intro i hi d L h n s P hd hl hg hn hn2 h2 h3 hs h4 hP
    have hs1 : -1 ≤ s ∧ s ≤ 7 := by
      rcases hs with ⟨q, _⟩ | ⟨t, q, q2, _⟩ <;> omega
    obtain ⟨d', L', r, e1, e2, e3, e4, e5, e6, e7, e8, e9⟩ := od_s6 hd hb hle hl hg hn hn2 h2 h3 hs1.1 hs1.2 (by omega) h4 hP
    obtain ⟨d2, L2, s', f1, f2, f3, f4, f5, f6, f7, f8⟩ := od_lj hT hb i 0 d' L' h n i s r P (by omega) e1 e2 hg (by omega) e3 e4 hs1.1 hs1.2 (by omega) e5 e6 (by rcases e8 with e8 | e8; exact Or.inr e8.1; exact Or.inl e8.1) e7 hP
    have hb2 : od_best P (i + 1) s' := by
      rcases e8 with ⟨r1, p0⟩ | ⟨r0, p1⟩
      · rcases f6 with f6 | ⟨_, f6⟩
        · rcases hs with ⟨q, qx⟩ | ⟨t, q, q2, q3⟩
          · have := f7 r1 (fun x _ x2 => qx x x2)
            omega
          · exact Or.inr ⟨t, by omega, by omega, q3⟩
        · exact Or.inr ⟨i, f6, by omega, p0⟩
      · have f6 : s' = s := by
          rcases f6 with f6 | ⟨f6, _⟩
          · exact f6
          · omega
        rcases hs with ⟨q, qx⟩ | ⟨t, q, q2, q3⟩
        · refine Or.inl ⟨by omega, fun x hx => ?_⟩
          by_cases z : x = i
          · subst z
            rw [p1]
            intro e
            cases e
          · exact qx x (by omega)
        · exact Or.inr ⟨t, by omega, by omega, q3⟩
    obtain ⟨d3, L3, s3, g1, g2, g3, g4, g5, g6, g7⟩ := ih (i + 1) (by omega) d2 L2 h n s' P f1 f2 hg hn hn2 f3 f4 hb2 (by rw [show ((i + 1 : Nat) : Int) = (i : Int) + 1 by omega]; exact f5) hP
    exact ⟨d3, L3, s3, g1, g2, g3, g4, g5, g6, fun R hR => e9 R (f8 R (g7 R hR))⟩
theorem od_64 {h : am_H} (hg : ty_gok tc_g h) : ∃ ms : List Value, h[64]? = some (9, ms) ∧ ms[3]? = some (.ref 67) := by
  obtain ⟨⟨t, ms⟩, e1, e2⟩ := hg 64 _ rfl
  rw [ty_cok_obj rfl ⟨rfl, rfl⟩] at e2
  obtain ⟨p1, p2, p3⟩ := e2
  obtain ⟨v, v1, v2⟩ := p3 3 (1, 67, 0) rfl
  have p1 : t = 9 := p1
  subst p1
  have v2 : v = .ref 67 := v2
  rw [v2] at v1
  exact ⟨ms, e1, v1⟩
theorem od_L7 {L : List Value} {n s : Nat} (hb : b < 6) (hl : od_loc b L) (h2 : od_int L 2 n) (h3 : od_int L 3 s) : ∃ l4 l5 l6 : Value, L = [.ref 64, .int (Int32.ofNat b), .int (Int32.ofNat n), .int (Int32.ofNat s), l4, l5, l6] := by
  obtain ⟨e1, e2, e3⟩ := hl
  obtain ⟨z2, a1, a2⟩ := h2
  obtain ⟨z3, a3, a4⟩ := h3
  match L, e1 with
  | [v0, v1, v2, v3, v4, v5, v6], _ =>
    cases e2
    cases e3
    cases a1
    cases a3
    refine ⟨v4, v5, v6, ?_⟩
    rw [Int32.ofInt_eq_ofNat, show z2 = Int32.ofNat n by rw [← Int32.ofInt_eq_ofNat, ← a2, Int32.ofInt_toInt], show z3 = Int32.ofNat s by rw [← Int32.ofInt_eq_ofNat, ← a4, Int32.ofInt_toInt]]
/-- the placing -/
theorem od_ln (hT : ty_vT tc_g od_T) (hb : b < 6) (hle : len ≤ 8) : ∀ (m n : Nat), n + m = len → ∀ (d : Nat × Nat) (L : List Value) (h : am_H) (P : List Value), mo_d (4, 100) d → od_loc b L → ty_gok tc_g h → od_len b len h → od_int L 2 n → h[89]? = some (34, P) → od_fr0 P len = m →
    ∃ h' : am_H, am_Ev ((d, 170, 110, L, []), h, []) (.inl none, h') ∧ ty_gok tc_g h' ∧ ty_un [67, 88, 89] h h' ∧ h'.length = h.length := by
  intro m
  induction m with
  | zero =>
    intro n hn d L h P hd hl hg hlen h2 hP hf
    obtain rfl : n = len := by omega
    have hck : ty_ck tc_g [] 30 (od5e b n) = true := od_all2 (f := fun b l => ty_ck tc_g [] 30 (od5e b l)) od5e_ok hb (by omega)
    obtain ⟨⟨o, h'⟩, r1, r2, r3, r4⟩ := ty_tabs (g := tc_g) (TT := [od5e b n]) (fun C hC => Or.inr (by
      rw [List.mem_singleton.mp hC]
      exact ⟨by show 1 ≤ 8; omega, [], 30, fun D hD => absurd hD List.not_mem_nil, hck⟩)) _ (List.mem_singleton.mpr rfl) d L h (od_ar hd hl rfl (fun k s hk hkd => by
      match k, hk with
      | 0, hk => cases hk; exact od_c5 h2
      | 1, hk => exact od_j5 hk hkd
      | 2, hk => exact od_j5 hk hkd
      | 3, hk => exact od_j5 hk hkd
      | 4, hk => exact od_j5 hk hkd
      | k + 5, hk => cases hk) hg (od_pre hlen))
    cases o with
    | inr X => exact absurd r4.1 List.not_mem_nil
    | inl v =>
      obtain ⟨y1, _, y3⟩ := r4
      have hl' : h'.length = h.length := by
        rcases y1 with y1 | ⟨_, y1⟩
        · exact y1
        · cases y1
      have hv : v = none := by
        cases v with
        | none => rfl
        | some w =>
          obtain ⟨s, hs, _⟩ := y3
          exact absurd hs List.not_mem_nil
      subst hv
      exact ⟨h', r1, r2, ty_un_tr (ms := [67, 88, 89]) (fun _ _ _ hx => hx) r3 (fun p hp => absurd hp List.not_mem_nil), hl'⟩
  | succ m ih =>
    intro n hn d L h P hd hl hg hlen h2 hP hf
    obtain ⟨d1, L1, e1, e2, e3, e4, e5, e6⟩ := od_s5 hd hb hle hl hg hlen (n := n) (by omega) h2
    obtain ⟨d2, L2, s', f1, f2, f3, f4, f5, f6, f7⟩ := od_li hT hb hle len 0 (by omega) d1 L1 h n (-1) P e1 e2 hg hlen (by omega) e3 e4 (Or.inl ⟨rfl, fun x hx => absurd hx (Nat.not_lt_zero _)⟩) e5 hP
    rcases f6 with ⟨_, hx⟩ | ⟨t, rfl, t2, t3⟩
    · rw [od_fr0_none len hx] at hf
      omega
    · obtain ⟨d3, L3, h3, P3, g1, g2, g3, g4, g5, g6, g7, g8, g9⟩ := od_s6e f1 hb hle f2 hg hlen (by omega) f3 f4 (by omega) f5
      rw [hP] at g6
      cases g6
      obtain ⟨l4, l5, l6, rfl⟩ := od_L7 hb g2 g3 g4
      obtain ⟨ms, m1, m2⟩ := od_64 g5
      obtain ⟨⟨tx, fs⟩, q1, q2⟩ := g5 67 _ hp_g67
      have q3 := q2
      rw [ty_cok_arr rfl] at q3
      obtain ⟨p1, p2, p3, p4⟩ := q3
      dsimp only at p1 p2 p3 p4
      subst p1
      have el : ∀ k : Nat, k < 384 → ∃ v, fs[k]? = some v := fun k hk => ⟨_, List.getElem?_eq_getElem (by omega)⟩
      obtain ⟨v0, w0⟩ := el (32 * b + 4 * t) (by omega)
      obtain ⟨v1, w1⟩ := el (32 * b + 4 * t + 1) (by omega)
      obtain ⟨v2, w2⟩ := el (32 * b + 4 * t + 2) (by omega)
      obtain ⟨v3, w3⟩ := el (32 * b + 4 * t + 3) (by omega)
      have o0 : ty_vok (0, 0, 9) v0 := p3 _ _ _ (by show hp_rows[(32 * b + 4 * t) % 4]? = _; rw [show (32 * b + 4 * t) % 4 = 0 by omega]; rfl) w0
      have o1 : ty_vok (0, 0, 5) v1 := p3 _ _ _ (by show hp_rows[(32 * b + 4 * t + 1) % 4]? = _; rw [show (32 * b + 4 * t + 1) % 4 = 1 by omega]; rfl) w1
      have o2 : ty_vok (0, 0, 5) v2 := p3 _ _ _ (by show hp_rows[(32 * b + 4 * t + 2) % 4]? = _; rw [show (32 * b + 4 * t + 2) % 4 = 2 by omega]; rfl) w2
      have o3 : ty_vok (5, 0, 5) v3 := p3 _ _ _ (by show hp_rows[(32 * b + 4 * t + 3) % 4]? = _; rw [show (32 * b + 4 * t + 3) % 4 = 3 by omega]; rfl) w3
      have o0' := o0
      have o1' := o1
      have o2' := o2
      obtain ⟨x0, rfl, _⟩ := o0
      obtain ⟨x1, rfl, _⟩ := o1
      obtain ⟨x2, rfl, _⟩ := o2
      obtain ⟨x3, rfl⟩ := o3
      have o5 : x0 = 0 ∨ ty_vok (0, 0, 5) (.int x3) := by
        rcases p4 0 5 rfl _ _ (by omega) w3 with q | q
        · rw [show 32 * b + 4 * t + 3 - 3 = 32 * b + 4 * t by omega, w0] at q
          cases q
          exact Or.inl rfl
        · exact Or.inr ⟨x3, rfl, q.1, q.2⟩
      have hcok := hp_row q2 (a := 192 + 32 * b + 4 * n) (by omega) (by omega) o0' o1' o2' o5
      have hl67 : 67 < h3.length := (List.getElem?_eq_some_iff.mp q1).1
      have hl89 : 89 < h.length := (List.getElem?_eq_some_iff.mp hP).1
      have hg4 : ty_gok tc_g (h3.set 67 (32, (((fs.set (192 + 32 * b + 4 * n) (.int x0)).set (192 + 32 * b + 4 * n + 1) (.int x1)).set (192 + 32 * b + 4 * n + 2) (.int x2)).set (192 + 32 * b + 4 * n + 3) (.int x3))) := ty_gok_set g5 (fun s hs => by
        rw [hp_g67] at hs
        cases hs
        exact hcok)
      have hu : ty_un [67, 88, 89] h (h3.set 67 (32, (((fs.set (192 + 32 * b + 4 * n) (.int x0)).set (192 + 32 * b + 4 * n + 1) (.int x1)).set (192 + 32 * b + 4 * n + 2) (.int x2)).set (192 + 32 * b + 4 * n + 3) (.int x3))) := by
        intro p hp y hy
        have hp' : p ≠ 67 ∧ p ≠ 88 ∧ p ≠ 89 := by simpa using hp
        rw [List.getElem?_set_ne (fun e => hp'.1 e.symm), g8, List.getElem?_set_ne (fun e => hp'.2.2 e.symm)]
        exact hy
      obtain ⟨h', k1, k2, k3, k4⟩ := ih (n + 1) (by omega) d3 [.ref 64, .int (Int32.ofNat b), .int (Int32.ofNat (n + 1)), .int (Int32.ofNat t), .int (Int32.ofNat 4), l5, l6] _ (P.set t (.int 1)) g1 ⟨rfl, rfl, by rw [Int32.ofInt_eq_ofNat]; rfl⟩ hg4 (od_len_un hlen hu (by decide)) ⟨_, rfl, by rw [Int32.toInt_ofNat_of_lt (by omega)]⟩ (by rw [List.getElem?_set_ne (by decide), g8]; exact List.getElem?_set_self hl89) (by have := od_fr0_set t3 len t2; omega)
      refine ⟨h', e6 _ (f7 _ (g9 _ (od_w4 hb (by omega) (by omega) m1 m2 q1 p2 w0 w1 w2 w3 _ k1))), k2, ty_un_tr hu k3 (fun _ hp => hp), ?_⟩
      rw [k4, List.length_set, g8, List.length_set]
/-- order keeps its contract -/
theorem od_t255 (hT : ty_vT tc_g od_T) (d : Nat × Nat) (L : List Value) (h : am_H) (ha : ty_ar0 tc_g tc_255 d L h) : ty_vd tc_g tc_255 d L h := by
  obtain ⟨a1, a2, a3, a4, a5⟩ := ha
  obtain ⟨v0, b1, b2⟩ := a3 0 (1, 64, 0) rfl rfl
  obtain ⟨v1, b3, x, rfl, b5, b6⟩ := a3 1 (0, 0, 5) rfl rfl
  have b2 : v0 = .ref 64 := b2
  subst b2
  dsimp only at b5 b6
  obtain ⟨b, hbx⟩ : ∃ b : Nat, x.toInt = (b : Int) := ⟨x.toInt.toNat, by omega⟩
  have hb : b < 6 := by omega
  have hl : od_loc b L := ⟨a2, b1, by rw [b3, ← hbx, Int32.ofInt_toInt]⟩
  obtain ⟨⟨t, fs⟩, c1, c2⟩ := a4 66 _ (show tc_g[66]? = some (32, 12, [(0, 0, 8)]) from rfl)
  have c3 := c2
  rw [ty_cok_arr rfl] at c3
  obtain ⟨p1, p2, p3, _⟩ := c3
  dsimp only at p1 p2 p3
  have hx := ty_ixn (k := b) (by omega)
  obtain ⟨v, hv⟩ : ∃ v, fs[b]? = some v := ⟨_, List.getElem?_eq_getElem (by omega)⟩
  obtain ⟨y, rfl, y1, y2⟩ := p3 b (0, 0, 8) v (by show [((0, 0, 8) : ty_V)][b % 1]? = _; rw [Nat.mod_one]; rfl) hv
  dsimp only at y1 y2
  obtain ⟨len, hly⟩ : ∃ l : Nat, y.toInt = (l : Int) := ⟨y.toInt.toNat, by omega⟩
  have hlen : od_len b len h := ⟨_, y, c1, hx.2, by show fs[(Int32.ofNat b).toNatClampNeg]? = _; rw [hx.1]; exact hv, by show (len : Int) ≤ _; omega, by show _ ≤ (len : Int); omega⟩
  have hle : len ≤ 8 := by omega
  obtain ⟨⟨t9, P⟩, d1, d2⟩ := a4 89 _ (show tc_g[89]? = some (34, 8, [(0, 0, 1)]) from rfl)
  have d3 := d2
  rw [ty_cok_arr rfl] at d3
  obtain ⟨r1, r2, _⟩ := d3
  dsimp only at r1 r2
  subst r1
  obtain ⟨d', L', e1, e2, e3, e4⟩ := od_s1 a1 hb hle hl a4 hlen
  obtain ⟨d2', L2, h2, P2, f1, f2, f3, f4, f5, f6, f7, f8, f9⟩ := od_l9 hT hb hle len (Nat.le_refl _) d' L' h P e1 e2 a4 hlen e3 d1 r2 (fun x x1 x2 => by omega)
  obtain ⟨h', g1, g2, g3, g4⟩ := od_ln hT hb hle len 0 (by omega) d2' L2 h2 P2 f1 f2 f4 (od_len_un hlen f5 (by decide)) f3 f7 (od_fr0_all len f8)
  refine ⟨(.inl none, h'), e4 _ (f9 _ g1), g2, ty_un_tr (ty_un_tr (ms := [67, 88, 89]) (fun _ _ _ hx => hx) f5 (by decide)) g3 (fun _ hp => hp), Or.inl (by show h'.length = h.length; rw [g4, f6]), fun q hq => absurd hq List.not_mem_nil, rfl⟩
end HOF
