/-! ALL CONTRACTS OF A TABLE HOLD, IF EACH IS CHECKED AGAINST IT -/
section TYK
variable {σ : Nat → Int32} {g : List ty_X} {T : List ty_C} {C0 : ty_C} {H0 : am_H}
def ty_lv (L : List Value) (k : Nat) : Int32 := match L[k]? with
  | some (.int x) => x
  | _ => 0
/-- the value of an asked index -/
def ty_hv (h : am_H) (P : List ty_P) (k : Nat) : Int32 := match P[k]? with
  | some q => match h[q.1]? with
    | some x => match x.2[(Int32.ofNat q.2.1).toNatClampNeg]? with
      | some (.int v) => v
      | _ => 0
    | none => 0
  | none => 0
/-- the unknowns of the start -/
def ty_l00 (n : Nat) (L : List Value) (h : am_H) (P : List ty_P) (k : Nat) : Int32 := if k < n then ty_lv L k else ty_hv h P (k - n)
def ty_m1 (L : List Value) (h : am_H) (P : List ty_P) (q : Nat × Nat) : Nat := match q.1 with
  | 0 => min q.2 4294967296
  | 1 => (2147483647 - (ty_lv L q.2).toInt).toNat
  | 3 => (2147483647 - (ty_hv h P q.2).toInt).toNat
  | _ => ((ty_lv L q.2).toInt + 2147483648).toNat
def ty_mu (L : List Value) (h : am_H) (P : List ty_P) : Nat → List (Nat × Nat) → Nat
  | 0, _ => 0
  | _ + 1, [] => 0
  | k + 1, q :: r => ty_m1 L h P q * 4294967297 ^ k + ty_mu L h P k r
theorem ty_m1_lt (L : List Value) (h : am_H) (P : List ty_P) (q : Nat × Nat) : ty_m1 L h P q < 4294967297 := by
  have h1 := Int32.le_toInt (ty_lv L q.2)
  have h2 := Int32.toInt_lt (ty_lv L q.2)
  have h3 := Int32.le_toInt (ty_hv h P q.2)
  have h4 := Int32.toInt_lt (ty_hv h P q.2)
  unfold ty_m1
  split <;> omega
theorem ty_mst {a b x y P : Nat} (h : a < b) (hx : x < P) : a * P + x < b * P + y := by
  have h1 : (a + 1) * P ≤ b * P := Nat.mul_le_mul_right P h
  rw [Nat.succ_mul] at h1
  omega
theorem ty_mu_lt (L : List Value) (h : am_H) (P : List ty_P) : ∀ (k : Nat) (l : List (Nat × Nat)), ty_mu L h P k l < 4294967297 ^ k
  | 0, _ => Nat.one_pos
  | k + 1, [] => Nat.pow_pos (by decide)
  | k + 1, q :: r => by
    simp only [ty_mu]
    have hm := ty_mst (y := 0) (ty_m1_lt L h P q) (ty_mu_lt L h P k r)
    rw [Nat.pow_succ, Nat.mul_comm (4294967297 ^ k)]
    exact hm
theorem ty_off_ok {iv : List ty_B} (h : ty_ivok iv σ) {m j b : Nat} (hm : m = 1 ∨ m = 2) (ho : ty_off iv m j b = true) : (m = 1 ∧ (σ b).toInt < (σ j).toInt) ∨ (m = 2 ∧ (σ j).toInt < (σ b).toInt) := by
  unfold ty_off at ho
  split at ho
  · rename_i e he
    rcases ty_ite ho with ⟨hq, ho⟩ | ⟨_, ho⟩
    · have ha := (h j e he).2.2.1 b (Nat.eq_of_beq_eq_true hq)
      rcases hm with rfl | rfl
      · have ho : ty_le 1 e.2.2.2.1 = true := ho
        rw [ty_leq] at ho
        exact Or.inl ⟨rfl, by omega⟩
      · have ho : ty_le e.2.2.2.1 (-1) = true := ho
        rw [ty_leq] at ho
        exact Or.inr ⟨rfl, by omega⟩
    · cases ho
  · cases ho
theorem ty_cmp_ok {n : Nat} {iv : List ty_B} {F : ty_F} {L L' L0 : List Value} {H : am_H} {P P0 : List ty_P} (h : ty_iw (n + P0.length) (ty_l00 n L0 H0 P0) iv σ) (hj : mo_j (L.map (sx_v σ)) L') (hF : ty_Fok F σ H) : ∀ (k : Nat) (l l' : List (Nat × Nat)), ty_cmp iv F L n P l l' = true → ty_mok n P0.length l' = true → l'.length ≤ k → ty_mu L' H P k l < ty_mu L0 H0 P0 k l'
  | 0, l, l', hc, _, hk => by
    unfold ty_cmp at hc
    split at hc
    · simp at hk
    · simp at hk
    · simp at hk
    · cases hc
  | k + 1, l, l', hc, hm, hk => by
    have step : ∀ (q q' : Nat × Nat) (r r' : List (Nat × Nat)), ty_m1 L' H P q = ty_m1 L0 H0 P0 q' → ty_mu L' H P k r < ty_mu L0 H0 P0 k r' → ty_mu L' H P (k + 1) (q :: r) < ty_mu L0 H0 P0 (k + 1) (q' :: r') := by
      intro q q' r r' e hc
      simp only [ty_mu]
      rw [e]
      exact Nat.add_lt_add_left hc _
    have less : ∀ (q q' : Nat × Nat) (r r' : List (Nat × Nat)), ty_m1 L' H P q < ty_m1 L0 H0 P0 q' → ty_mu L' H P (k + 1) (q :: r) < ty_mu L0 H0 P0 (k + 1) (q' :: r') := by
      intro q q' r r' e
      simp only [ty_mu]
      exact ty_mst e (ty_mu_lt _ _ _ k r)
    unfold ty_cmp at hc
    split at hc
    · rename_i a r b r'
      have hk : r'.length ≤ k := by simpa using hk
      simp only [ty_mok, Bool.and_eq_true] at hm
      have hb : b < 4294967296 := by
        have := hm.1
        simpa [Nat.blt_eq] using this
      rcases ty_ite hc with ⟨hq, _⟩ | ⟨_, hc⟩
      · rw [Nat.blt_eq] at hq
        apply less
        simp only [ty_m1]
        omega
      · rcases ty_ite hc with ⟨hq, hc3⟩ | ⟨_, hc3⟩
        · refine step _ _ _ _ ?_ (ty_cmp_ok h hj hF k r r' hc3 hm.2 hk)
          rw [Nat.eq_of_beq_eq_true hq]
          simp only [ty_m1]
        · cases hc3
    · rename_i a r b r'
      have hk : r'.length ≤ k := by simpa using hk
      simp only [ty_mok, Bool.and_eq_true] at hm
      have hb : b < P0.length := by
        have := hm.1
        simpa [Nat.blt_eq] using this
      have hσ : σ (n + b) = ty_hv H0 P0 b := by
        rw [h.2.2.2 (n + b) (by omega)]
        unfold ty_l00
        rw [if_neg (by omega), Nat.add_sub_cancel_left]
      split at hc
      · rename_i q hP
        split at hc
        · rename_i j hg
          have hv : ty_hv H P a = σ j := by
            obtain ⟨x, w, e1, e2, e3, e4⟩ := hF _ _ _ (ty_Fget_mem hg)
            cases e2
            simp only [ty_hv, hP, e1, e4, sx_v]
          rcases ty_ite hc with ⟨hq, hc3⟩ | ⟨_, hc3⟩
          · refine step _ _ _ _ ?_ (ty_cmp_ok h hj hF k r r' hc3 hm.2 hk)
            simp only [ty_m1]
            rw [hv, Nat.eq_of_beq_eq_true hq, hσ]
          · apply less
            simp only [ty_m1]
            rw [hv, ← hσ]
            have b1 := Int32.le_toInt (σ j)
            have b2 := Int32.toInt_lt (σ j)
            have b3 := Int32.le_toInt (σ (n + b))
            have b4 := Int32.toInt_lt (σ (n + b))
            rcases ty_off_ok h.1 (Or.inl rfl) hc3 with q | q
            · omega
            · omega
        · cases hc
      · cases hc
    · rename_i m a r m' b r' _ _
      have hk : r'.length ≤ k := by simpa using hk
      simp only [ty_mok, Bool.and_eq_true] at hm
      have hc1 := ty_ite hc
      clear hc
      rcases hc1 with ⟨hq, hc2⟩ | ⟨_, hc2⟩
      · simp only [Bool.and_eq_true] at hq
        obtain ⟨q1, q2, q3⟩ := hq
        have q1 := Nat.eq_of_beq_eq_true q1
        have q2 := Nat.le_of_ble_eq_true q2
        have q3 := Nat.le_of_ble_eq_true q3
        have hm2 : m = 1 ∨ m = 2 := by omega
        have hb : b < n := by
          have h1 := hm.1
          rw [← q1] at h1
          rcases hm2 with rfl | rfl <;> simpa [Nat.blt_eq] using h1
        have hσ : σ b = ty_lv L0 b := by
          rw [h.2.2.2 b (by omega)]
          unfold ty_l00
          rw [if_pos hb]
        split at hc2
        · rename_i j hL
          have hL' : ty_lv L' a = σ j := by
            have := hj.2 a (.int (σ j)) (by rw [List.getElem?_map, hL]; rfl) rfl
            simp only [ty_lv, this]
          rcases ty_ite hc2 with ⟨hq, hc3⟩ | ⟨_, hc3⟩
          · refine step _ _ _ _ ?_ (ty_cmp_ok h hj hF k r r' hc3 hm.2 hk)
            have hq := Nat.eq_of_beq_eq_true hq
            rw [← q1]
            rcases hm2 with rfl | rfl <;> simp only [ty_m1, hL', ← hσ, hq]
          · apply less
            have b1 := Int32.le_toInt (σ j)
            have b2 := Int32.toInt_lt (σ j)
            have b3 := Int32.le_toInt (σ b)
            have b4 := Int32.toInt_lt (σ b)
            have ho := ty_off_ok h.1 hm2 hc3
            rw [← q1]
            rcases hm2 with rfl | rfl <;> simp only [ty_m1, hL', ← hσ]
            · rcases ho with q | q
              · omega
              · omega
            · rcases ho with q | q
              · omega
              · omega
        · cases hc2
      · cases hc2
    · cases hc
theorem ty_neq_ok : ∀ {a b : List Nat}, ty_neq a b = true → a = b
  | [], [], _ => rfl
  | x :: a, y :: b, h => by
    simp only [ty_neq, Bool.and_eq_true] at h
    rw [Nat.eq_of_beq_eq_true h.1, ty_neq_ok h.2]
theorem ty_vseq_ok : ∀ {a b : List ty_V}, ty_vseq a b = true → a = b
  | [], [], _ => rfl
  | (x, x1, x2) :: a, (y, y1, y2) :: b, h => by
    simp only [ty_vseq, ty_veq, Bool.and_eq_true, decide_eq_true_eq] at h
    obtain ⟨⟨h1, h2, h3⟩, h4⟩ := h
    rw [Nat.eq_of_beq_eq_true h1, h2, h3, ty_vseq_ok h4]
theorem ty_Peq_ok : ∀ {a b : List ty_P}, ty_Peq a b = true → a = b
  | [], [], _ => rfl
  | (x, x1, x2, x3) :: a, (y, y1, y2, y3) :: b, h => by
    simp only [ty_Peq, Bool.and_eq_true, decide_eq_true_eq] at h
    obtain ⟨h1, h2, h3, h4, h5⟩ := h
    rw [Nat.eq_of_beq_eq_true h1, Nat.eq_of_beq_eq_true h2, h3, h4, ty_Peq_ok h5]
theorem ty_kd_kn {s : ty_V} {v : Value} (hs : ty_kd s.1 = true) (hv : ty_vok s v) : am_kn v = true := by
  simp only [ty_kd, Bool.or_eq_true] at hs
  unfold ty_vok at hv
  rcases hs with hs | hs | hs | hs <;> rw [Nat.eq_of_beq_eq_true hs] at hv
  · obtain ⟨x, e, _⟩ := hv
    rw [e]
    rfl
  · have hv : v = .ref s.2.1.toNat := hv
    rw [hv]
    rfl
  · obtain ⟨x, e, _⟩ := hv
    rw [e]
    rfl
  · have hv : v = .int (Int32.ofInt s.2.1) := hv
    rw [hv]
    rfl
theorem ty_cut_ok {L0 : List Value} (hmok : ty_mok C0.1.2.2.1.length C0.2.1.2.2.2.1.length C0.2.2 = true) (hlen8 : C0.2.2.length ≤ 8) {S : ty_S} {c : am_G} (ho : ty_ho g C0 (ty_l00 C0.1.2.2.1.length L0 H0 C0.2.1.2.2.2.1) H0 σ S c) : ∀ {T : List ty_C}, ty_cut g C0 S T = true → ∃ C ∈ T, ∃ (d : Nat × Nat) (L : List Value) (h : am_H), c = ((d, C.1.1, C.1.2.1, L, []), h, []) ∧ ty_ar0 g C d L h ∧ ty_mu L h C.2.1.2.2.2.1 8 C.2.2 < ty_mu L0 H0 C0.2.1.2.2.2.1 8 C0.2.2 ∧ ∀ r : am_O × am_H, ty_rs g C h r → ty_rs g C0 H0 r
  | [], h => by cases h
  | C :: T, h => by
    simp only [ty_cut, Bool.or_eq_true] at h
    rcases h with h | h
    · obtain ⟨iv, F, ⟨d, mid, pc, L, st⟩, K⟩ := S
      obtain ⟨⟨d', mid', pc', L', st'⟩, H, K'⟩ := c
      obtain ⟨a1, a2, a3, ⟨k1, k2, k3, k4, k5⟩, a5, a6⟩ := ho
      dsimp only at a1 a2 a3 k1 k2 k3 k4 k5 a5 a6 h
      subst k2 k3 k5
      simp only [Bool.and_eq_true] at h
      obtain ⟨h1, h2, h3, h4, h5, h6, h7, h8, h9, h10, h11, h12, h13, h14, h15⟩ := h
      obtain rfl := List.isEmpty_iff.mp h1
      obtain rfl := List.isEmpty_iff.mp h2
      have e4 := Nat.eq_of_beq_eq_true h4
      have e5 := Nat.eq_of_beq_eq_true h5
      have e6 := Nat.eq_of_beq_eq_true h6
      have hK : K' = [] := by
        cases K' with
        | nil => rfl
        | cons _ _ => exact a5.elim
      subst hK
      have hlen : H.length = H0.length := by
        rcases a6.2 with q | ⟨_, _, _, q⟩
        · exact q
        · rw [h3] at q
          cases q
      refine ⟨C, List.mem_cons_self, d', L', H, by rw [e4, e5]; rfl, ⟨⟨Nat.le_trans (Nat.le_of_ble_eq_true h8) k1.1, Nat.le_trans (Nat.le_of_ble_eq_true h9) k1.2⟩, ?_, fun k s hk hs => ?_, a2, ty_pre_ok a1.1 a2 a3 h13⟩, ty_cmp_ok a1 k4 a3 8 _ _ h15 hmok hlen8, fun r hr => ?_⟩
      · rw [e6, ← k4.1, List.length_map]
      · obtain ⟨v, v1, v2⟩ := ty_fits_ok a1.1 h7 k s hk hs
        have hkn : am_kn (sx_v σ v) = true := by
          exact ty_kd_kn hs v2
        exact ⟨_, k4.2 k _ (by rw [List.getElem?_map, v1]; rfl) hkn, v2⟩
      · obtain ⟨o, h'⟩ := r
        obtain ⟨r1, r2, r3⟩ := hr
        have q10 := ty_vseq_ok h10
        have q11 := ty_neq_ok h11
        have q14 := ty_Peq_ok h14
        refine ⟨r1, ty_un_tr a6.1 r2 (ty_sub_ok h12), ?_⟩
        cases o with
        | inl v =>
          obtain ⟨y1, y2, y3⟩ := r3
          refine ⟨?_, by rw [← q14]; exact y2, ?_⟩
          · rcases y1 with y1 | ⟨_, y1⟩
            · exact Or.inl (by rw [← hlen]; exact y1)
            · rw [e4, h3] at y1
              cases y1
          · cases v with
            | none => rw [← q10]; exact y3
            | some w => rw [← q10]; exact y3
        | inr X =>
          obtain ⟨y1, y2⟩ := r3
          refine ⟨by rw [← q11]; exact y1, ?_⟩
          unfold ty_gr at y2 ⊢
          rw [← hlen]
          exact y2
    · obtain ⟨C2, m1, m2⟩ := ty_cut_ok hmok hlen8 ho h
      exact ⟨C2, List.mem_cons_of_mem _ m1, m2⟩
theorem ty_all_ok {L0 : List Value} (hmok : ty_mok C0.1.2.2.1.length C0.2.1.2.2.2.1.length C0.2.2 = true) (hlen8 : C0.2.2.length ≤ 8) (hg0 : ty_gok g H0) (IH : ty_IH g T (ty_rank C0)) (IM : ∀ C ∈ T, ∀ (d : Nat × Nat) (L : List Value) (h : am_H), ty_ar0 g C d L h → ty_mu L h C.2.1.2.2.2.1 8 C.2.2 < ty_mu L0 H0 C0.2.1.2.2.2.1 8 C0.2.2 → ty_vd g C d L h) : ∀ (n : Nat) (S : ty_S) (c : am_G) (σ : Nat → Int32), ty_all g T C0 n S = true → ty_ho g C0 (ty_l00 C0.1.2.2.1.length L0 H0 C0.2.1.2.2.2.1) H0 σ S c → ∃ r : am_O × am_H, am_Ev c r ∧ ty_rs g C0 H0 r
  | 0, _, _, _, h, _ => by cases h
  | n + 1, S, c, σ, h, ho => by
    simp only [ty_all] at h
    split at h
    · cases h
    · rename_i Ss hS
      rcases ty_1_ok hg0 IH ho hS with hr | ⟨S', m1, σ', c', m2, m3⟩
      · exact hr
      · have h1 := List.all_eq_true.mp h S' m1
        simp only [Bool.or_eq_true] at h1
        rcases h1 with h1 | h1
        · obtain ⟨C, b1, d, L, h', b2, b3, b4, b5⟩ := ty_cut_ok hmok hlen8 m2 h1
          obtain ⟨r, r1, r2⟩ := IM C b1 d L h' b3 b4
          exact ⟨r, m3 r (by rw [b2]; exact r1), b5 r r2⟩
        · obtain ⟨r, r1, r2⟩ := ty_all_ok hmok hlen8 hg0 IH IM n S' c' σ' h1 m2
          exact ⟨r, m3 r r1, r2⟩
/-- the value of a local at the start -/
def ty_l0v (n : Nat) (s : ty_V) : Value := match s.1 with
  | 0 => .retAddr (n + 1)
  | 1 => .ref s.2.1.toNat
  | 6 => .retAddr (n + 1)
  | 7 => .int (Int32.ofInt s.2.1)
  | _ => .retAddr 0
def ty_iv0v (s : ty_V) : ty_B := match s.1 with
  | 0 => (s.2.1, s.2.2, 0, 0, 4)
  | 6 => (s.2.1, s.2.2, 0, 0, 0)
  | _ => ty_full
theorem ty_l0_get : ∀ (Ls : List ty_V) (n k : Nat), (ty_l0 n Ls)[k]? = (Ls[k]?).map (ty_l0v (n + k))
  | [], _, _ => rfl
  | s :: r, n, 0 => rfl
  | s :: r, n, k + 1 => by
    simp only [ty_l0, List.getElem?_cons_succ]
    rw [ty_l0_get r (n + 1) k]
    rw [show n + 1 + k = n + (k + 1) by omega]
theorem ty_l0_len : ∀ (Ls : List ty_V) (n : Nat), (ty_l0 n Ls).length = Ls.length
  | [], _ => rfl
  | s :: r, n => by simp only [ty_l0, List.length_cons, ty_l0_len r]
theorem ty_iv0_get : ∀ (Ls : List ty_V) (k : Nat), (ty_iv0 Ls)[k]? = (Ls[k]?).map ty_iv0v
  | [], _ => rfl
  | s :: r, 0 => rfl
  | s :: r, k + 1 => by
    simp only [ty_iv0, List.getElem?_cons_succ]
    exact ty_iv0_get r k
theorem ty_iv0_len : ∀ (Ls : List ty_V), (ty_iv0 Ls).length = Ls.length
  | [] => rfl
  | s :: r => by simp only [ty_iv0, List.length_cons, ty_iv0_len r]
/-- the asked indices of the start: their unknowns, in order -/
theorem ty_posts_st {n0 : Nat} {l0 : Nat → Int32} {h : am_H} : ∀ (ps : List ty_P) (iv : List ty_B) (F : ty_F) (σ : Nat → Int32), ty_iw n0 l0 iv σ → ty_Fok F σ h → ty_wF iv.length F = true → (∀ q ∈ ps, ty_pk h q) → ∃ σ' : Nat → Int32, ty_ag iv.length σ σ' ∧ ty_iw n0 l0 (ty_posts ps iv F).1 σ' ∧ ty_Fok (ty_posts ps iv F).2 σ' h ∧ (ty_posts ps iv F).1.length = iv.length + ps.length ∧ ∀ k : Nat, k < ps.length → σ' (iv.length + k) = ty_hv h ps k
  | [], iv, F, σ, hi, hF, _, _ => ⟨σ, fun _ _ => rfl, hi, hF, rfl, fun k hk => absurd hk (Nat.not_lt_zero _)⟩
  | q :: r, iv, F, σ, hi, hF, hw, hp => by
    obtain ⟨x, v, e1, e2, e3, e4, e5⟩ := hp q List.mem_cons_self
    have ag := ty_up_ag (σ := σ) iv.length v
    have hl : (iv ++ [((q.2.2.1, q.2.2.2, 0, 0, 4) : ty_B)]).length = iv.length + 1 := by rw [List.length_append, List.length_singleton]
    have wm : ∀ (n : Nat) (F : ty_F), ty_wF n F = true → ty_wF (n + 1) F = true := by
      intro n F
      induction F with
      | nil => intro _; rfl
      | cons e F ih =>
        intro hw
        have wv : ∀ v : Value, ty_wv n v = true → ty_wv (n + 1) v = true := fun v hv => by
          unfold ty_wv at hv ⊢
          split
          · rename_i k
            simp only [Nat.blt_eq] at hv ⊢
            omega
          · rfl
        simp only [ty_wF, Bool.and_eq_true] at hw ⊢
        exact ⟨wv _ hw.1, wv _ hw.2.1, ih hw.2.2⟩
    obtain ⟨σ', s1, s2, s3, s4, s5⟩ := ty_posts_st r (iv ++ [((q.2.2.1, q.2.2.2, 0, 0, 4) : ty_B)]) ((q.1, ty_ix q.2.1, .retAddr (iv.length + 1)) :: F) (ty_up σ iv.length v) (ty_iw_push hi (ty_nb_bd _ e4 e5)) (by
      intro p i u hm
      rcases List.mem_cons.mp hm with hq | hm
      · cases hq
        exact ⟨x, Int32.ofNat q.2.1, e1, rfl, e2, by rw [e3]; simp only [sx_v, ty_up_at]⟩
      · exact ty_wF_ag ag hw hF p i u hm) (by
      rw [hl]
      simp only [ty_wF, ty_ix, ty_wv, Nat.blt_eq, Bool.and_eq_true, true_and]
      exact ⟨Nat.lt_succ_self _, wm _ _ hw⟩) (fun q' hq' => hp q' (List.mem_cons_of_mem _ hq'))
    refine ⟨σ', fun k hk => ?_, s2, s3, ?_, fun k hk => ?_⟩
    · rw [s1 k (by rw [hl]; omega), ag k hk]
    · show (ty_posts r _ _).1.length = _
      rw [s4, hl, List.length_cons]
      omega
    · cases k with
      | zero =>
        rw [Nat.add_zero, s1 iv.length (by rw [hl]; omega), ty_up_at]
        simp only [ty_hv, List.getElem?_cons_zero, e1, e3]
      | succ k =>
        have := s5 k (by simpa using hk)
        rw [hl] at this
        rw [show iv.length + (k + 1) = iv.length + 1 + k by omega, this]
        simp only [ty_hv, List.getElem?_cons_succ]
theorem ty_start {C : ty_C} {d : Nat × Nat} {L : List Value} {h : am_H} (ha : ty_ar0 g C d L h) : ∃ σ : Nat → Int32, ty_ho g C (ty_l00 C.1.2.2.1.length L h C.2.1.2.2.2.1) h σ ((ty_posts C.2.1.2.2.2.1 (ty_iv0 C.1.2.2.1) []).1, (ty_posts C.2.1.2.2.2.1 (ty_iv0 C.1.2.2.1) []).2, (C.1.2.2.2, C.1.1, C.1.2.1, ty_l0 0 C.1.2.2.1, []), []) ((d, C.1.1, C.1.2.1, L, []), h, []) := by
  obtain ⟨h1, h2, h3, h4, h5⟩ := ha
  have iw : ty_iw C.1.2.2.1.length (ty_lv L) (ty_iv0 C.1.2.2.1) (ty_lv L) := by
    refine ⟨fun k b hk => ?_, fun k b hk => ?_, by rw [ty_iv0_len]; exact Nat.le_refl _, fun _ _ => rfl⟩
    · rw [ty_iv0_get] at hk
      cases hs : C.1.2.2.1[k]? with
      | none => rw [hs] at hk; cases hk
      | some s =>
        rw [hs] at hk
        simp only [Option.map_some, Option.some.injEq] at hk
        subst hk
        unfold ty_iv0v
        split
        · rename_i h0
          obtain ⟨v, v1, v2⟩ := h3 k s hs (by rw [h0]; rfl)
          unfold ty_vok at v2
          rw [h0] at v2
          obtain ⟨x, rfl, v3, v4⟩ := v2
          have e : ty_lv L k = x := by simp only [ty_lv, v1]
          exact ⟨by rw [e]; exact v3, by rw [e]; exact v4, fun j hj => (by cases hj), fun hr => absurd (show 4 < 4 from hr) (Nat.lt_irrefl 4)⟩
        · rename_i h0
          obtain ⟨v, v1, v2⟩ := h3 k s hs (by rw [h0]; rfl)
          unfold ty_vok at v2
          rw [h0] at v2
          obtain ⟨x, rfl, v3, v4, v5⟩ := v2
          have e : ty_lv L k = x := by simp only [ty_lv, v1]
          exact ⟨by rw [e]; exact v3, by rw [e]; exact v4, fun j hj => (by cases hj), fun _ => by rw [e]; exact v5⟩
        · have nb := ty_nb_full (σ := ty_lv L) 0 (ty_lv L k)
          exact ⟨nb.1, nb.2.1, fun j hj => (by cases hj), nb.2.2.2⟩
    · rw [ty_iv0_get] at hk
      cases hs : C.1.2.2.1[k]? with
      | none => rw [hs] at hk; cases hk
      | some s =>
        rw [hs] at hk
        simp only [Option.map_some, Option.some.injEq] at hk
        subst hk
        unfold ty_iv0v
        split <;> exact Nat.zero_le _
  obtain ⟨σ, s1, s2, s3, s4, s5⟩ := ty_posts_st (h := h) C.2.1.2.2.2.1 (ty_iv0 C.1.2.2.1) [] (ty_lv L) iw (fun p i v hm => absurd hm List.not_mem_nil) rfl h5
  have iw2 : ty_iw (ty_n0 C) (ty_l00 C.1.2.2.1.length L h C.2.1.2.2.2.1) (ty_posts C.2.1.2.2.2.1 (ty_iv0 C.1.2.2.1) []).1 σ := by
    refine ⟨s2.1, s2.2.1, by rw [s4, ty_iv0_len]; exact Nat.le_refl _, fun k hk => ?_⟩
    unfold ty_l00
    by_cases q : k < C.1.2.2.1.length
    · rw [if_pos q, s2.2.2.2 k q]
    · rw [if_neg q]
      have := s5 (k - C.1.2.2.1.length) (by unfold ty_n0 at hk; omega)
      rw [ty_iv0_len] at this
      rw [show C.1.2.2.1.length + (k - C.1.2.2.1.length) = k by omega] at this
      exact this
  refine ⟨σ, iw2, h4, s3, ⟨h1, rfl, rfl, ⟨by rw [List.length_map, ty_l0_len, h2], fun k v hk hv => ?_⟩, rfl⟩, trivial, fun _ _ _ hx => hx, Or.inl rfl⟩
  dsimp only at hk ⊢
  rw [List.getElem?_map, ty_l0_get] at hk
  cases hs : C.1.2.2.1[k]? with
  | none => rw [hs] at hk; cases hk
  | some s =>
    rw [hs] at hk
    simp only [Option.map_some, Option.some.injEq] at hk
    have hkl : k < (ty_iv0 C.1.2.2.1).length := by
      rw [ty_iv0_len]
      exact (List.getElem?_eq_some_iff.mp hs).1
    rw [Nat.zero_add] at hk
    unfold ty_l0v at hk
    split at hk
    · rename_i h0
      obtain ⟨u, v1, v2⟩ := h3 k s hs (by rw [h0]; rfl)
      unfold ty_vok at v2
      rw [h0] at v2
      obtain ⟨x, rfl, v3, v4⟩ := v2
      rw [v1, ← hk]
      simp only [sx_v, s1 k hkl, ty_lv, v1]
    · rename_i h0
      obtain ⟨u, v1, v2⟩ := h3 k s hs (by rw [h0]; rfl)
      unfold ty_vok at v2
      rw [h0] at v2
      have v2 : u = .ref s.2.1.toNat := v2
      rw [v1, ← hk, v2]
      rfl
    · rename_i h0
      obtain ⟨u, v1, v2⟩ := h3 k s hs (by rw [h0]; rfl)
      unfold ty_vok at v2
      rw [h0] at v2
      obtain ⟨x, rfl, v3, v4⟩ := v2
      rw [v1, ← hk]
      simp only [sx_v, s1 k hkl, ty_lv, v1]
    · rename_i h0
      obtain ⟨u, v1, v2⟩ := h3 k s hs (by rw [h0]; rfl)
      unfold ty_vok at v2
      rw [h0] at v2
      have v2 : u = .int (Int32.ofInt s.2.1) := v2
      rw [v1, ← hk, v2]
      rfl
    · rw [← hk] at hv
      cases hv
/-- every contract of a table holds, if each is checked against contracts of it, or holds by itself -/
theorem ty_tab {TT : List ty_C} (hck : ∀ C ∈ TT, (∀ (d : Nat × Nat) (L : List Value) (h : am_H), ty_ar0 g C d L h → ty_vd g C d L h) ∨ (C.2.2.length ≤ 8 ∧ ∃ (T : List ty_C) (n : Nat), (∀ D ∈ T, D ∈ TT) ∧ ty_ck g T n C = true)) : ∀ (m : Nat) (C : ty_C), C ∈ TT → ∀ (d : Nat × Nat) (L : List Value) (h : am_H), ty_ar0 g C d L h → ty_mu L h C.2.1.2.2.2.1 8 C.2.2 < m → ty_vd g C d L h
  | 0, _, _, _, _, _, _, hm => absurd hm (Nat.not_lt_zero _)
  | m + 1, C, hC, d, L, h, ha, hm => by
    rcases hck C hC with hv | ⟨h8, T, n, hT, hk⟩
    · exact hv d L h ha
    unfold ty_ck at hk
    simp only [Bool.and_eq_true] at hk
    obtain ⟨σ, ho⟩ := ty_start ha
    have IM : ∀ C' ∈ T, ∀ (d' : Nat × Nat) (L' : List Value) (h' : am_H), ty_ar0 g C' d' L' h' → ty_mu L' h' C'.2.1.2.2.2.1 8 C'.2.2 < ty_mu L h C.2.1.2.2.2.1 8 C.2.2 → ty_vd g C' d' L' h' := fun C' hC' d' L' h' ha' hm' => ty_tab hck m C' (hT C' hC') d' L' h' ha' (by omega)
    refine ty_all_ok hk.1 h8 ha.2.2.2.1 (fun C' hC' hr d' L' h' ha' => IM C' hC' d' L' h' ha' ?_) IM n _ _ σ hk.2 ho
    obtain ⟨a, r, hr1, hr2⟩ := hr
    have hmk := hk.1
    unfold ty_rank at hr2
    split at hr2
    · rename_i b r' hb
      rw [hb] at hmk
      simp only [ty_mok, Bool.and_eq_true] at hmk
      have hb2 : b < 4294967296 := by
        have := hmk.1
        simpa [Nat.blt_eq] using this
      rw [hr1, hb]
      simp only [ty_mu]
      apply ty_mst _ (ty_mu_lt _ _ _ _ _)
      simp only [ty_m1]
      omega
    · omega
/-- so each of them holds -/
theorem ty_tabs {TT : List ty_C} (hck : ∀ C ∈ TT, (∀ (d : Nat × Nat) (L : List Value) (h : am_H), ty_ar0 g C d L h → ty_vd g C d L h) ∨ (C.2.2.length ≤ 8 ∧ ∃ (T : List ty_C) (n : Nat), (∀ D ∈ T, D ∈ TT) ∧ ty_ck g T n C = true)) (C : ty_C) (hC : C ∈ TT) (d : Nat × Nat) (L : List Value) (h : am_H) (ha : ty_ar0 g C d L h) : ty_vd g C d L h := ty_tab hck _ C hC d L h ha (Nat.lt_succ_self _)
end TYK
