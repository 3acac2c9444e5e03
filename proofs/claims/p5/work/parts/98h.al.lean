/-! ALL CONTRACTS OF A TABLE HOLD, IF EACH IS CHECKED AGAINST IT -/
section TYK
variable {σ : Nat → Int32} {g : List ty_X} {T : List ty_C} {C0 : ty_C} {H0 : am_H}
def ty_lv (L : List Value) (k : Nat) : Int32 := match L[k]? with
  | some (.int x) => x
  | _ => 0
def ty_m1 (L : List Value) (q : Nat × Nat) : Nat := match q.1 with
  | 0 => min q.2 4294967296
  | 1 => (2147483647 - (ty_lv L q.2).toInt).toNat
  | _ => ((ty_lv L q.2).toInt + 2147483648).toNat
def ty_mu (L : List Value) : Nat → List (Nat × Nat) → Nat
  | 0, _ => 0
  | _ + 1, [] => 0
  | k + 1, q :: r => ty_m1 L q * 4294967297 ^ k + ty_mu L k r
theorem ty_m1_lt (L : List Value) (q : Nat × Nat) : ty_m1 L q < 4294967297 := by
  have h1 := Int32.le_toInt (ty_lv L q.2)
  have h2 := Int32.toInt_lt (ty_lv L q.2)
  unfold ty_m1
  split <;> omega
theorem ty_mst {a b x y P : Nat} (h : a < b) (hx : x < P) : a * P + x < b * P + y := by
  have h1 : (a + 1) * P ≤ b * P := Nat.mul_le_mul_right P h
  rw [Nat.succ_mul] at h1
  omega
theorem ty_mu_lt (L : List Value) : ∀ (k : Nat) (l : List (Nat × Nat)), ty_mu L k l < 4294967297 ^ k
  | 0, _ => Nat.one_pos
  | k + 1, [] => Nat.pow_pos (by decide)
  | k + 1, q :: r => by
    simp only [ty_mu]
    have h := ty_mst (y := 0) (ty_m1_lt L q) (ty_mu_lt L k r)
    rw [Nat.pow_succ, Nat.mul_comm (4294967297 ^ k)]
    exact h
theorem ty_cmp_ok {n0 : Nat} {iv : List ty_B} {L L' L0 : List Value} (h : ty_iw n0 (ty_lv L0) iv σ) (hj : mo_j (L.map (sx_v σ)) L') : ∀ (l l' : List (Nat × Nat)) (k : Nat), ty_cmp iv L l l' = true → ty_mok n0 l' = true → l'.length ≤ k → ty_mu L' k l < ty_mu L0 k l'
  | [], l', k, hc, _, _ => by simp [ty_cmp] at hc
  | q :: r, [], k, hc, _, _ => by
    obtain ⟨m, a⟩ := q
    simp [ty_cmp] at hc
  | (m, a) :: r, (m', b) :: r', 0, _, _, hk => by simp at hk
  | (m, a) :: r, (m', b) :: r', k + 1, hc, hm, hk => by
    have hk : r'.length ≤ k := by simpa using hk
    simp only [ty_mok, Bool.and_eq_true] at hm
    simp only [ty_mu]
    have step : ty_m1 L' (m, a) = ty_m1 L0 (m', b) → ty_cmp iv L r r' = true → ty_m1 L' (m, a) * 4294967297 ^ k + ty_mu L' k r < ty_m1 L0 (m', b) * 4294967297 ^ k + ty_mu L0 k r' := by
      intro e hc
      rw [e]
      exact Nat.add_lt_add_left (ty_cmp_ok h hj r r' k hc hm.2 hk) _
    have less : ty_m1 L' (m, a) < ty_m1 L0 (m', b) → ty_m1 L' (m, a) * 4294967297 ^ k + ty_mu L' k r < ty_m1 L0 (m', b) * 4294967297 ^ k + ty_mu L0 k r' := fun e => ty_mst e (ty_mu_lt L' k r)
    by_cases hz : m = 0 ∧ m' = 0
    · obtain ⟨rfl, rfl⟩ := hz
      simp only [ty_cmp] at hc
      have hb : b < 4294967296 := by
        have := hm.1
        simpa [Nat.blt_eq] using this
      rcases ty_ite hc with ⟨hq, _⟩ | ⟨_, hc⟩
      · rw [Nat.blt_eq] at hq
        apply less
        simp only [ty_m1]
        omega
      · rcases ty_ite hc with ⟨hq, hc3⟩ | ⟨_, hc3⟩
        · obtain rfl := Nat.eq_of_beq_eq_true hq
          exact step (by simp only [ty_m1]) hc3
        · cases hc3
    · have hc2 : ty_cmp iv L ((m, a) :: r) ((m', b) :: r') = (if Nat.beq m m' && (Nat.ble 1 m && Nat.ble m 2) then match L[a]? with
          | some (.retAddr (j + 1)) => if Nat.beq j b then ty_cmp iv L r r' else match iv[j]? with
            | some e => if Nat.beq e.2.2.1 (b + 1) then (if Nat.beq m 1 then ty_le 1 e.2.2.2.1 else ty_le e.2.2.2.1 (-1)) else false
            | none => false
          | _ => false
        else false) := by
        match m, m' with
        | 0, 0 => exact absurd ⟨rfl, rfl⟩ hz
        | 0, m' + 1 => rfl
        | m + 1, m' => rfl
      rw [hc2] at hc
      clear hc2
      have hc1 := ty_ite hc
      clear hc
      rcases hc1 with ⟨hq, hc2⟩ | ⟨_, hc2⟩
      · simp only [Bool.and_eq_true] at hq
        obtain ⟨q1, q2, q3⟩ := hq
        obtain rfl := Nat.eq_of_beq_eq_true q1
        have q2 := Nat.le_of_ble_eq_true q2
        have q3 := Nat.le_of_ble_eq_true q3
        have hb : b < n0 := by
          have := hm.1
          rcases ty_ite this with ⟨h0, _⟩ | ⟨_, h1⟩
          · have := Nat.eq_of_beq_eq_true h0
            omega
          · simpa [Nat.blt_eq] using h1
        have hσ := h.2.2.2 b hb
        split at hc2
        · rename_i j hL
          have hL' : ty_lv L' a = σ j := by
            have := hj.2 a (.int (σ j)) (by rw [List.getElem?_map, hL]; rfl) rfl
            simp only [ty_lv, this]
          have hc1 := ty_ite hc2
          clear hc2
          rcases hc1 with ⟨hq, hc2⟩ | ⟨_, hc2⟩
          · obtain rfl := Nat.eq_of_beq_eq_true hq
            refine step ?_ hc2
            have hm2 : m = 1 ∨ m = 2 := by omega
            rcases hm2 with rfl | rfl <;> simp only [ty_m1, hL', hσ]
          · split at hc2
            · rename_i e he
              rcases ty_ite hc2 with ⟨hq, hc2⟩ | ⟨_, hc2⟩
              · have hq := Nat.eq_of_beq_eq_true hq
                have ha := (h.1 j e he).2.2.1 b hq
                rw [hσ] at ha
                have b1 := Int32.le_toInt (σ j)
                have b2 := Int32.toInt_lt (σ j)
                have b3 := Int32.le_toInt (ty_lv L0 b)
                have b4 := Int32.toInt_lt (ty_lv L0 b)
                apply less
                have hm2 : m = 1 ∨ m = 2 := by omega
                rcases hm2 with rfl | rfl
                · have hc2 : ty_le 1 e.2.2.2.1 = true := hc2
                  rw [ty_leq] at hc2
                  simp only [ty_m1, hL']
                  omega
                · have hc2 : ty_le e.2.2.2.1 (-1) = true := hc2
                  rw [ty_leq] at hc2
                  simp only [ty_m1, hL']
                  omega
              · cases hc2
            · cases hc2
        · cases hc2
      · cases hc2
theorem ty_neq_ok : ∀ {a b : List Nat}, ty_neq a b = true → a = b
  | [], [], _ => rfl
  | x :: a, y :: b, h => by
    simp only [ty_neq, Bool.and_eq_true] at h
    rw [Nat.eq_of_beq_eq_true h.1, ty_neq_ok h.2]
theorem ty_vseq_ok : ∀ {a b : List ty_V}, ty_vseq a b = true → a = b
  | [], [], _ => rfl
  | (x, x1, x2) :: a, (y, y1, y2) :: b, h => by
    simp only [ty_vseq, ty_veq, Bool.and_eq_true, decide_eq_true_eq] at h
    obtain ⟨⟨h1, h2, h3⟩, h4⟩ := h
    rw [Nat.eq_of_beq_eq_true h1, h2, h3, ty_vseq_ok h4]
theorem ty_Peq_ok : ∀ {a b : List ty_P}, ty_Peq a b = true → a = b
  | [], [], _ => rfl
  | (x, x1, x2, x3) :: a, (y, y1, y2, y3) :: b, h => by
    simp only [ty_Peq, Bool.and_eq_true, decide_eq_true_eq] at h
    obtain ⟨h1, h2, h3, h4, h5⟩ := h
    rw [Nat.eq_of_beq_eq_true h1, Nat.eq_of_beq_eq_true h2, h3, h4, ty_Peq_ok h5]
theorem ty_cut_ok {L0 : List Value} (hmok : ty_mok C0.1.2.2.1.length C0.2.2 = true) (hlen8 : C0.2.2.length ≤ 8) {S : ty_S} {c : am_G} (ho : ty_ho g C0 (ty_lv L0) H0 σ S c) : ∀ {T : List ty_C}, ty_cut g C0 S T = true → ∃ C ∈ T, ∃ (d : Nat × Nat) (L : List Value) (h : am_H), c = ((d, C.1.1, C.1.2.1, L, []), h, []) ∧ ty_ar0 g C d L h ∧ ty_mu L 8 C.2.2 < ty_mu L0 8 C0.2.2 ∧ ∀ r : am_O × am_H, ty_rs g C h r → ty_rs g C0 H0 r
  | [], h => by cases h
  | C :: T, h => by
    simp only [ty_cut, Bool.or_eq_true] at h
    rcases h with h | h
    · obtain ⟨iv, F, ⟨d, mid, pc, L, st⟩, K⟩ := S
      obtain ⟨⟨d', mid', pc', L', st'⟩, H, K'⟩ := c
      obtain ⟨a1, a2, a3, ⟨k1, k2, k3, k4, k5⟩, a5, a6⟩ := ho
      dsimp only at a1 a2 a3 k1 k2 k3 k4 k5 a5 a6 h
      subst k2 k3 k5
      simp only [Bool.and_eq_true] at h
      obtain ⟨h1, h2, h3, h4, h5, h6, h7, h8, h9, h10, h11, h12, h13, h14, h15⟩ := h
      obtain rfl := List.isEmpty_iff.mp h1
      obtain rfl := List.isEmpty_iff.mp h2
      have e4 := Nat.eq_of_beq_eq_true h4
      have e5 := Nat.eq_of_beq_eq_true h5
      have e6 := Nat.eq_of_beq_eq_true h6
      have hK : K' = [] := by
        cases K' with
        | nil => rfl
        | cons _ _ => exact a5.elim
      subst hK
      have hlen : H.length = H0.length := by
        rcases a6.2 with q | ⟨_, _, _, q⟩
        · exact q
        · rw [h3] at q
          cases q
      refine ⟨C, List.mem_cons_self, d', L', H, by rw [e4, e5]; rfl, ⟨⟨Nat.le_trans (Nat.le_of_ble_eq_true h8) k1.1, Nat.le_trans (Nat.le_of_ble_eq_true h9) k1.2⟩, ?_, fun k s hk hs => ?_, a2, ty_pre_ok a1.1 a2 a3 h13⟩, ty_cmp_ok a1 k4 _ _ 8 h15 hmok hlen8, fun r hr => ?_⟩
      · rw [e6, ← k4.1, List.length_map]
      · obtain ⟨v, v1, v2⟩ := ty_fits_ok a1.1 h7 k s hk hs
        have hkn : am_kn (sx_v σ v) = true := by
          unfold ty_vok at v2
          rcases hs with hs | hs <;> rw [hs] at v2
          · obtain ⟨x, e, _⟩ := v2
            rw [e]
            rfl
          · have v2 : sx_v σ v = .ref s.2.1.toNat := v2
            rw [v2]
            rfl
        exact ⟨_, k4.2 k _ (by rw [List.getElem?_map, v1]; rfl) hkn, v2⟩
      · obtain ⟨o, h'⟩ := r
        obtain ⟨r1, r2, r3⟩ := hr
        have q10 := ty_vseq_ok h10
        have q11 := ty_neq_ok h11
        have q14 := ty_Peq_ok h14
        refine ⟨r1, ty_un_tr a6.1 r2 (ty_sub_ok h12), ?_⟩
        cases o with
        | inl v =>
          obtain ⟨y1, y2, y3⟩ := r3
          refine ⟨?_, by rw [← q14]; exact y2, ?_⟩
          · rcases y1 with y1 | ⟨_, y1⟩
            · exact Or.inl (by rw [← hlen]; exact y1)
            · rw [e4, h3] at y1
              cases y1
          · cases v with
            | none => rw [← q10]; exact y3
            | some w => rw [← q10]; exact y3
        | inr X =>
          obtain ⟨y1, y2⟩ := r3
          refine ⟨by rw [← q11]; exact y1, ?_⟩
          unfold ty_gr at y2 ⊢
          rw [← hlen]
          exact y2
    · obtain ⟨C2, m1, m2⟩ := ty_cut_ok hmok hlen8 ho h
      exact ⟨C2, List.mem_cons_of_mem _ m1, m2⟩
theorem ty_all_ok {L0 : List Value} (hmok : ty_mok C0.1.2.2.1.length C0.2.2 = true) (hlen8 : C0.2.2.length ≤ 8) (hg0 : ty_gok g H0) (IH : ty_IH g T (ty_rank C0)) (IM : ∀ C ∈ T, ∀ (d : Nat × Nat) (L : List Value) (h : am_H), ty_ar0 g C d L h → ty_mu L 8 C.2.2 < ty_mu L0 8 C0.2.2 → ty_vd g C d L h) : ∀ (n : Nat) (S : ty_S) (c : am_G) (σ : Nat → Int32), ty_all g T C0 n S = true → ty_ho g C0 (ty_lv L0) H0 σ S c → ∃ r : am_O × am_H, am_Ev c r ∧ ty_rs g C0 H0 r
  | 0, _, _, _, h, _ => by cases h
  | n + 1, S, c, σ, h, ho => by
    simp only [ty_all] at h
    split at h
    · cases h
    · rename_i Ss hS
      rcases ty_1_ok hg0 IH ho hS with hr | ⟨S', m1, σ', c', m2, m3⟩
      · exact hr
      · have h1 := List.all_eq_true.mp h S' m1
        simp only [Bool.or_eq_true] at h1
        rcases h1 with h1 | h1
        · obtain ⟨C, b1, d, L, h', b2, b3, b4, b5⟩ := ty_cut_ok hmok hlen8 m2 h1
          obtain ⟨r, r1, r2⟩ := IM C b1 d L h' b3 b4
          exact ⟨r, m3 r (by rw [b2]; exact r1), b5 r r2⟩
        · obtain ⟨r, r1, r2⟩ := ty_all_ok hmok hlen8 hg0 IH IM n S' c' σ' h1 m2
          exact ⟨r, m3 r r1, r2⟩
theorem ty_l0_get : ∀ (Ls : List ty_V) (n k : Nat), (ty_l0 n Ls)[k]? = (Ls[k]?).map (fun s => match s.1 with
    | 0 => Value.retAddr (n + k + 1)
    | 1 => .ref s.2.1.toNat
    | _ => .retAddr 0)
  | [], _, _ => rfl
  | s :: r, n, 0 => rfl
  | s :: r, n, k + 1 => by
    simp only [ty_l0, List.getElem?_cons_succ]
    rw [ty_l0_get r (n + 1) k]
    rw [show n + 1 + k = n + (k + 1) by omega]
theorem ty_l0_len : ∀ (Ls : List ty_V) (n : Nat), (ty_l0 n Ls).length = Ls.length
  | [], _ => rfl
  | s :: r, n => by simp only [ty_l0, List.length_cons, ty_l0_len r]
theorem ty_iv0_get : ∀ (Ls : List ty_V) (k : Nat), (ty_iv0 Ls)[k]? = (Ls[k]?).map (fun s => match s.1 with
    | 0 => (s.2.1, s.2.2, 0, 0, 4)
    | _ => ty_full)
  | [], _ => rfl
  | s :: r, 0 => rfl
  | s :: r, k + 1 => by
    simp only [ty_iv0, List.getElem?_cons_succ]
    exact ty_iv0_get r k
theorem ty_iv0_len : ∀ (Ls : List ty_V), (ty_iv0 Ls).length = Ls.length
  | [] => rfl
  | s :: r => by simp only [ty_iv0, List.length_cons, ty_iv0_len r]
theorem ty_start {C : ty_C} {d : Nat × Nat} {L : List Value} {h : am_H} (ha : ty_ar0 g C d L h) : ∃ σ : Nat → Int32, ty_ho g C (ty_lv L) h σ ((ty_posts C.2.1.2.2.2.1 (ty_iv0 C.1.2.2.1) []).1, (ty_posts C.2.1.2.2.2.1 (ty_iv0 C.1.2.2.1) []).2, (C.1.2.2.2, C.1.1, C.1.2.1, ty_l0 0 C.1.2.2.1, []), []) ((d, C.1.1, C.1.2.1, L, []), h, []) := by
  obtain ⟨h1, h2, h3, h4, h5⟩ := ha
  have iw : ty_iw C.1.2.2.1.length (ty_lv L) (ty_iv0 C.1.2.2.1) (ty_lv L) := by
    refine ⟨fun k b hk => ?_, fun k b hk => ?_, by rw [ty_iv0_len]; exact Nat.le_refl _, fun _ _ => rfl⟩
    · rw [ty_iv0_get] at hk
      cases hs : C.1.2.2.1[k]? with
      | none => rw [hs] at hk; cases hk
      | some s =>
        rw [hs] at hk
        simp only [Option.map_some, Option.some.injEq] at hk
        subst hk
        by_cases h0 : s.1 = 0
        · obtain ⟨v, v1, v2⟩ := h3 k s hs (Or.inl h0)
          unfold ty_vok at v2
          rw [h0] at v2
          obtain ⟨x, rfl, v3, v4⟩ := v2
          have e : ty_lv L k = x := by simp only [ty_lv, v1]
          rw [h0]
          exact ⟨by rw [e]; exact v3, by rw [e]; exact v4, fun j hj => (by cases hj), fun hr => absurd (show 4 < 4 from hr) (Nat.lt_irrefl 4)⟩
        · have e : (match s.1 with
            | 0 => ((s.2.1, s.2.2, 0, 0, 4) : ty_B)
            | _ => ty_full) = ty_full := by
            split
            · rename_i q
              exact absurd q h0
            · rfl
          rw [e]
          have nb := ty_nb_full (σ := ty_lv L) 0 (ty_lv L k)
          exact ⟨nb.1, nb.2.1, fun j hj => (by cases hj), nb.2.2.2⟩
    · rw [ty_iv0_get] at hk
      cases hs : C.1.2.2.1[k]? with
      | none => rw [hs] at hk; cases hk
      | some s =>
        rw [hs] at hk
        simp only [Option.map_some, Option.some.injEq] at hk
        subst hk
        split <;> exact Nat.zero_le _
  obtain ⟨σ, s1, s2, s3, s4⟩ := ty_posts_ok (h := h) C.2.1.2.2.2.1 (ty_iv0 C.1.2.2.1) [] (ty_lv L) iw (fun p i v hm => absurd hm List.not_mem_nil) rfl h5
  refine ⟨σ, s2, h4, s3, ⟨h1, rfl, rfl, ⟨by rw [List.length_map, ty_l0_len, h2], fun k v hk hv => ?_⟩, rfl⟩, trivial, fun _ _ _ hx => hx, Or.inl rfl⟩
  dsimp only at hk ⊢
  rw [List.getElem?_map, ty_l0_get] at hk
  cases hs : C.1.2.2.1[k]? with
  | none => rw [hs] at hk; cases hk
  | some s =>
    rw [hs] at hk
    simp only [Option.map_some, Option.some.injEq] at hk
    have hkl : k < (ty_iv0 C.1.2.2.1).length := by
      rw [ty_iv0_len]
      exact (List.getElem?_eq_some_iff.mp hs).1
    split at hk
    · rename_i h0
      obtain ⟨u, v1, v2⟩ := h3 k s hs (Or.inl h0)
      unfold ty_vok at v2
      rw [h0] at v2
      obtain ⟨x, rfl, v3, v4⟩ := v2
      rw [v1, ← hk]
      rw [show 0 + k + 1 = k + 1 by omega]
      simp only [sx_v, s1 k hkl, ty_lv, v1]
    · rename_i h0
      obtain ⟨u, v1, v2⟩ := h3 k s hs (Or.inr h0)
      unfold ty_vok at v2
      rw [h0] at v2
      have v2 : u = .ref s.2.1.toNat := v2
      rw [v1, ← hk, v2]
      rfl
    · rw [← hk] at hv
      cases hv
/-- every contract of a table holds, if each is checked against contracts of it -/
theorem ty_tab {TT : List ty_C} (hck : ∀ C ∈ TT, C.2.2.length ≤ 8 ∧ ∃ (T : List ty_C) (n : Nat), (∀ D ∈ T, D ∈ TT) ∧ ty_ck g T n C = true) : ∀ (m : Nat) (C : ty_C), C ∈ TT → ∀ (d : Nat × Nat) (L : List Value) (h : am_H), ty_ar0 g C d L h → ty_mu L 8 C.2.2 < m → ty_vd g C d L h
  | 0, _, _, _, _, _, _, hm => absurd hm (Nat.not_lt_zero _)
  | m + 1, C, hC, d, L, h, ha, hm => by
    obtain ⟨h8, T, n, hT, hk⟩ := hck C hC
    unfold ty_ck at hk
    simp only [Bool.and_eq_true] at hk
    obtain ⟨σ, ho⟩ := ty_start ha
    have IM : ∀ C' ∈ T, ∀ (d' : Nat × Nat) (L' : List Value) (h' : am_H), ty_ar0 g C' d' L' h' → ty_mu L' 8 C'.2.2 < ty_mu L 8 C.2.2 → ty_vd g C' d' L' h' := fun C' hC' d' L' h' ha' hm' => ty_tab hck m C' (hT C' hC') d' L' h' ha' (by omega)
    refine ty_all_ok hk.1 h8 ha.2.2.2.1 (fun C' hC' hr d' L' h' ha' => IM C' hC' d' L' h' ha' ?_) IM n _ _ σ hk.2 ho
    obtain ⟨a, r, hr1, hr2⟩ := hr
    have hmk := hk.1
    unfold ty_rank at hr2
    split at hr2
    · rename_i b r' hb
      rw [hb] at hmk
      simp only [ty_mok, Bool.and_eq_true] at hmk
      have hb2 : b < 4294967296 := by
        have := hmk.1
        simpa [Nat.blt_eq] using this
      rw [hr1, hb]
      simp only [ty_mu]
      apply ty_mst _ (ty_mu_lt _ _ _)
      simp only [ty_m1]
      omega
    · omega
end TYK
