/-! THE LAW: the loop -/
section LWC
def lw_I (xs : List Int32) (h : am_H) : Prop := ty_gok tc_g h ∧ h[0]? = some (32, xs.map Value.int) ∧ 94 ≤ h.length ∧ ∀ p : Nat, 94 ≤ p → p < h.length → ∃ X : Nat, h[p]? = some (X, [])
def lw_σ (L : List Value) (xs : List Int32) (i n : Nat) : Int32 := if n < 7 then ty_lv L n else if n < 13 then Int32.ofNat (i + (n - 6)) else xs.getD (i + (n - 13)) 0
theorem lw_full (σ : Nat → Int32) (k : Nat) : ty_bok σ k ty_full := by
  have nb := ty_nb_full (σ := σ) 0 (σ k)
  exact ⟨nb.1, nb.2.1, fun j hj => (by cases hj), nb.2.2.2⟩
theorem lw_ho {d : Nat × Nat} (hd : mo_d (9, 200) d) {xs : List Int32} (hx : xs.length ≤ 3584) {i : Nat} (hi : i + 7 ≤ xs.length) {h : am_H} (hI : lw_I xs h) {l5 l6 : Value} : ty_ho tc_g lw_C (ty_l00 7 [.ref 0, .ref 2, .ref 64, .ref 93, .int (Int32.ofNat i), l5, l6] h []) h (lw_σ [.ref 0, .ref 2, .ref 64, .ref 93, .int (Int32.ofNat i), l5, l6] xs i) lw_S ((d, 0, 33, [.ref 0, .ref 2, .ref 64, .ref 93, .int (Int32.ofNat i), l5, l6], []), h, []) := by
  obtain ⟨hg, h0, hl, hp⟩ := hI
  have ni : ∀ k : Nat, k < 10 → (Int32.ofNat (i + k)).toInt = (i : Int) + k := fun k hk => by
    rw [Int32.toInt_ofNat_of_lt (by omega)]
    omega
  have s4 : lw_σ [.ref 0, .ref 2, .ref 64, .ref 93, .int (Int32.ofNat i), l5, l6] xs i 4 = Int32.ofNat i := rfl
  have n4 : (lw_σ [.ref 0, .ref 2, .ref 64, .ref 93, .int (Int32.ofNat i), l5, l6] xs i 4).toInt = i := by
    rw [s4]
    have := ni 0 (by omega)
    simpa using this
  have bv : ∀ (k : Nat), k < 10 → lw_σ [.ref 0, .ref 2, .ref 64, .ref 93, .int (Int32.ofNat i), l5, l6] xs i (6 + k) = Int32.ofNat (i + k) → ty_bok (lw_σ [.ref 0, .ref 2, .ref 64, .ref 93, .int (Int32.ofNat i), l5, l6] xs i) (6 + k) (lw_b k) := by
    intro k hk e
    have := ni k hk
    refine ⟨?_, ?_, fun j hj => ?_, fun hr => absurd (show 4 < 4 from hr) (Nat.lt_irrefl 4)⟩
    · rw [e]
      show (0 : Int) ≤ _
      omega
    · rw [e]
      show _ ≤ (2147483647 : Int)
      omega
    · have hj : j = 4 := by
        have : (5 : Nat) = j + 1 := hj
        omega
      subst hj
      rw [e, n4, this]
      rfl
  refine ⟨⟨fun k b hk => ?_, fun k b hk => ?_, by decide, fun k hk => ?_⟩, hg, ?_, ⟨hd, rfl, rfl, ⟨rfl, fun k v hk hv => ?_⟩, rfl⟩, trivial, fun _ _ _ hx => hx, Or.inl rfl⟩
  · match k, hk with
    | 0, hk => cases hk; exact lw_full _ _
    | 1, hk => cases hk; exact lw_full _ _
    | 2, hk => cases hk; exact lw_full _ _
    | 3, hk => cases hk; exact lw_full _ _
    | 4, hk =>
      cases hk
      exact ⟨by rw [n4]; show (0 : Int) ≤ _; omega, by rw [n4]; show _ ≤ (2147483640 : Int); omega, fun j hj => (by cases hj), fun hr => absurd (show 4 < 4 from hr) (Nat.lt_irrefl 4)⟩
    | 5, hk => cases hk; exact lw_full _ _
    | 6, hk => cases hk; exact lw_full _ _
    | 7, hk => cases hk; exact bv 1 (by omega) rfl
    | 8, hk => cases hk; exact bv 2 (by omega) rfl
    | 9, hk => cases hk; exact bv 3 (by omega) rfl
    | 10, hk => cases hk; exact bv 4 (by omega) rfl
    | 11, hk => cases hk; exact bv 5 (by omega) rfl
    | 12, hk => cases hk; exact bv 6 (by omega) rfl
    | 13, hk => cases hk; exact lw_full _ _
    | 14, hk => cases hk; exact lw_full _ _
    | 15, hk => cases hk; exact lw_full _ _
    | 16, hk => cases hk; exact lw_full _ _
    | 17, hk => cases hk; exact lw_full _ _
    | 18, hk => cases hk; exact lw_full _ _
    | 19, hk => cases hk; exact lw_full _ _
    | k + 20, hk => cases hk
  · match k, hk with
    | 0, hk => cases hk; decide
    | 1, hk => cases hk; decide
    | 2, hk => cases hk; decide
    | 3, hk => cases hk; decide
    | 4, hk => cases hk; decide
    | 5, hk => cases hk; decide
    | 6, hk => cases hk; decide
    | 7, hk => cases hk; decide
    | 8, hk => cases hk; decide
    | 9, hk => cases hk; decide
    | 10, hk => cases hk; decide
    | 11, hk => cases hk; decide
    | 12, hk => cases hk; decide
    | 13, hk => cases hk; decide
    | 14, hk => cases hk; decide
    | 15, hk => cases hk; decide
    | 16, hk => cases hk; decide
    | 17, hk => cases hk; decide
    | 18, hk => cases hk; decide
    | 19, hk => cases hk; decide
    | k + 20, hk => cases hk
  · have hk : k < 7 := hk
    unfold lw_σ ty_l00
    rw [if_pos hk, if_pos hk]
  · have hf : ∀ (k : Nat), k < 7 → ∀ z w : Int32, z = Int32.ofNat (i + k) → w = xs.getD (i + k) 0 → 0 ≤ z.toInt ∧ (xs.map Value.int)[z.toNatClampNeg]? = some (.int w) := by
      intro k hk z w hz hw
      have nx := ty_ixn (k := i + k) (by omega)
      subst hz hw
      refine ⟨nx.2, ?_⟩
      rw [nx.1, List.getElem?_map, List.getElem?_eq_getElem (by omega), List.getD_eq_getElem?_getD, List.getElem?_eq_getElem (by omega)]
      rfl
    intro p j v hm
    simp only [lw_S, lw_F, List.mem_cons, List.not_mem_nil, or_false, Prod.mk.injEq] at hm
    rcases hm with ⟨rfl, rfl, rfl⟩ | ⟨rfl, rfl, rfl⟩ | ⟨rfl, rfl, rfl⟩ | ⟨rfl, rfl, rfl⟩ | ⟨rfl, rfl, rfl⟩ | ⟨rfl, rfl, rfl⟩ | ⟨rfl, rfl, rfl⟩
    · obtain ⟨e1, e2⟩ := hf 0 (by omega) (Int32.ofNat i) _ rfl rfl
      exact ⟨_, Int32.ofNat i, h0, rfl, e1, e2⟩
    · obtain ⟨e1, e2⟩ := hf 1 (by omega) _ _ rfl rfl
      exact ⟨_, _, h0, rfl, e1, e2⟩
    · obtain ⟨e1, e2⟩ := hf 2 (by omega) _ _ rfl rfl
      exact ⟨_, _, h0, rfl, e1, e2⟩
    · obtain ⟨e1, e2⟩ := hf 3 (by omega) _ _ rfl rfl
      exact ⟨_, _, h0, rfl, e1, e2⟩
    · obtain ⟨e1, e2⟩ := hf 4 (by omega) _ _ rfl rfl
      exact ⟨_, _, h0, rfl, e1, e2⟩
    · obtain ⟨e1, e2⟩ := hf 5 (by omega) _ _ rfl rfl
      exact ⟨_, _, h0, rfl, e1, e2⟩
    · obtain ⟨e1, e2⟩ := hf 6 (by omega) _ _ rfl rfl
      exact ⟨_, _, h0, rfl, e1, e2⟩
  · match k, hk with
    | 0, hk => cases hk; rfl
    | 1, hk => cases hk; rfl
    | 2, hk => cases hk; rfl
    | 3, hk => cases hk; rfl
    | 4, hk => cases hk; rfl
    | 5, hk => cases hk; cases hv
    | 6, hk => cases hk; cases hv
    | k + 7, hk => cases hk
theorem lw_ms_in {p : Nat} : p ∈ lw_ms → 2 ≤ p ∧ p < 94 := by
  have h : ∀ q ∈ lw_ms, 2 ≤ q ∧ q < 94 := by decide
  exact h p
theorem lw_I_un {xs : List Int32} {h h' : am_H} (hI : lw_I xs h) (hg : ty_gok tc_g h') (hu : ty_un lw_ms h h') (hl : h'.length = h.length ∨ ty_gr h h') : lw_I xs h' := by
  obtain ⟨_, h0, hl0, hp⟩ := hI
  refine ⟨hg, hu 0 (fun q => by have := lw_ms_in q; omega) _ h0, ?_, fun p p1 p2 => ?_⟩
  · rcases hl with q | q
    · omega
    · have := q.1
      omega
  · by_cases q : p < h.length
    · obtain ⟨X, hX⟩ := hp p p1 q
      exact ⟨X, hu p (fun q => by have := lw_ms_in q; omega) _ hX⟩
    · rcases hl with q2 | ⟨q2, X, hX⟩
      · omega
      · obtain rfl : p = h.length := by omega
        exact ⟨X, hX⟩
/-- what the head gives -/
theorem lw_hd_ok {C0 : ty_C} {H0 h : am_H} {xs : List Int32} {i : Nat} (hi : i ≤ 3584) {l5 l6 : Value} {σ : Nat → Int32} {S : ty_S} {c : am_G} (ho : ty_ho tc_g C0 (ty_l00 7 [.ref 0, .ref 2, .ref 64, .ref 93, .int (Int32.ofNat i), l5, l6] h []) H0 σ S c) (hn : 7 ≤ ty_n0 C0) (hs : lw_hd S = true) : ∃ (d' : Nat × Nat) (l5' l6' : Value), c = ((d', 0, 23, [.ref 0, .ref 2, .ref 64, .ref 93, .int (Int32.ofNat (i + 7)), l5', l6'], []), c.2.1, []) ∧ mo_d (9, 200) d' := by
  obtain ⟨d', L', H, e1, e2, e3, e4⟩ := ho_hd_ok ho hs
  have z4 : ty_bv σ (5 : Int).toNat = i := od_lv ho hn (by omega) ⟨Int32.ofNat i, rfl, by rw [Int32.toInt_ofNat_of_lt (by omega)]⟩
  obtain ⟨w0, a0, b0⟩ := e4 0 _ rfl _ List.mem_cons_self
  obtain ⟨w1, a1, b1⟩ := e4 1 _ rfl _ List.mem_cons_self
  obtain ⟨w2, a2, b2⟩ := e4 2 _ rfl _ List.mem_cons_self
  obtain ⟨w3, a3, b3⟩ := e4 3 _ rfl _ List.mem_cons_self
  obtain ⟨w4, a4, b4⟩ := e4 4 _ rfl _ List.mem_cons_self
  have b0 := ho_sem_ref b0
  have b1 := ho_sem_ref b1
  have b2 := ho_sem_ref b2
  have b3 := ho_sem_ref b3
  obtain ⟨z, rfl, z1⟩ := ho_sem_or b4
  rw [z4] at z1
  have hz : z = Int32.ofNat (i + 7) := Int32.toInt_inj.mp (by rw [z1, Int32.toInt_ofNat_of_lt (by omega)]; omega)
  subst b0 b1 b2 b3 hz e1
  have e3 : L'.length = 7 := e3
  match L', e3, a0, a1, a2, a3, a4 with
  | [v0, v1, v2, v3, v4, v5, v6], _, a0, a1, a2, a3, a4 =>
    cases a0
    cases a1
    cases a2
    cases a3
    cases a4
    exact ⟨d', v5, v6, rfl, e2⟩
theorem lw_rs {xs : List Int32} {h : am_H} (hI : lw_I xs h) {r : am_O × am_H} (hr : ty_rs tc_g lw_C h r) : (∃ w : Int32, r.1 = .inl (some (.int w))) ∧ lw_I xs r.2 ∧ r.2.length = h.length := by
  obtain ⟨h1, h2, h3⟩ := hr
  obtain ⟨o, h'⟩ := r
  dsimp only at h1 h2 h3 ⊢
  cases o with
  | inr X => exact absurd h3.1 List.not_mem_nil
  | inl u =>
    dsimp only at h3
    have hl : h'.length = h.length := by
      rcases h3.1 with q | ⟨_, q⟩
      · exact q
      · cases q
    refine ⟨?_, lw_I_un hI h1 h2 (Or.inl hl), hl⟩
    cases u with
    | none =>
      have := h3.2.2
      cases this
    | some w =>
      obtain ⟨s, s1, s2⟩ := h3.2.2
      have s1 : s ∈ [((0, 0, 1) : ty_V)] := s1
      rw [List.mem_singleton] at s1
      subst s1
      obtain ⟨z, z1, _⟩ := s2
      exact ⟨z, by rw [z1]⟩
/-- what comes of one call of the script: an end, or the next head -/
def lw_nx (xs : List Int32) (i n : Nat) (c : am_G) : Prop := (∃ (w : Int32) (h' : am_H), am_Ev c (.inl (some (.int w)), h') ∧ lw_I xs h' ∧ h'.length ≤ n) ∨ ∃ (d' : Nat × Nat) (l5' l6' : Value) (h' : am_H), mo_d (9, 200) d' ∧ lw_I xs h' ∧ h'.length ≤ n ∧ ∀ R : am_O × am_H, am_Ev ((d', 0, 23, [.ref 0, .ref 2, .ref 64, .ref 93, .int (Int32.ofNat (i + 7)), l5', l6'], []), h', []) R → am_Ev c R
theorem lw_nx_tr {xs : List Int32} {i n n1 : Nat} {c c1 : am_G} (hn : lw_nx xs i n1 c1) (hl : n1 ≤ n) (hc : ∀ R : am_O × am_H, am_Ev c1 R → am_Ev c R) : lw_nx xs i n c := by
  rcases hn with ⟨w, h', e1, e2, e3⟩ | ⟨d', a, b, h', e1, e2, e3, e4⟩
  · exact Or.inl ⟨w, h', hc _ e1, e2, by omega⟩
  · exact Or.inr ⟨d', a, b, h', e1, e2, by omega, fun R hR => hc R (e4 R hR)⟩
theorem lw_cmp_ok {xs : List Int32} {i : Nat} (hi : i ≤ 3584) {h : am_H} (hI : lw_I xs h) {d : Nat × Nat} (hd : mo_d (9, 200) d) {k b : Int32} : lw_nx xs i h.length ((d, 0, 626, [.ref 0, .ref 2, .ref 64, .ref 93, .int (Int32.ofNat i), .int k, .int b], []), h, []) := by
  obtain ⟨⟨tg, fs⟩, g1, g2⟩ := hI.1 93 _ rfl
  rw [ty_cok_arr rfl] at g2
  obtain ⟨p1, p2, p3, _⟩ := g2
  dsimp only at p1 p2 p3
  subst p1
  have hf : ∃ w : Int64, fs[0]? = some (.long w) := by
    have e : fs[0]? = some fs[0] := List.getElem?_eq_getElem (by omega)
    obtain ⟨w, hw⟩ := p3 0 (2, 0, 0) _ rfl e
    exact ⟨w, by rw [e, hw]⟩
  obtain ⟨w, hw⟩ := hf
  have hla : ∀ (L st : List Value), am_step 0 628 L (.int 0 :: .ref 93 :: st) h .laload = some (628 + 1, L, .long w :: st, h) := by
    intro L st
    show am_ald 628 L (.int 0 :: .ref 93 :: st) h 1 = _
    unfold am_ald
    simp only [g1]
    rw [if_pos (by decide), if_neg (by decide)]
    rw [show (0 : Int32).toNatClampNeg = 0 from rfl, hw]
  have go1 : ∀ R : am_O × am_H, am_Ev ((d, 0, if b = 0 then 638 else 634, [.ref 0, .ref 2, .ref 64, .ref 93, .int (Int32.ofNat i), .int k, .int b], [.long w]), h, []) R → am_Ev ((d, 0, 626, [.ref 0, .ref 2, .ref 64, .ref 93, .int (Int32.ofNat i), .int k, .int b], []), h, []) R := by
    intro R hR
    refine am_sm_ev (sx_sm_step (i := .aload_n 3) rfl rfl) ?_
    refine am_sm_ev (sx_sm_step (i := .iconst 0) rfl rfl) ?_
    refine am_sm_ev (sx_sm_step (i := .laload) rfl (hla _ _)) ?_
    refine am_sm_ev (sx_sm_step (i := .iload 6) rfl rfl) ?_
    refine am_sm_ev (sx_sm_step (i := .ifCond .eq 7) rfl rfl) ?_
    exact hR
  have goA : ∀ R : am_O × am_H, am_Ev ((d, 0, if lg_cmp w 0 = 0 then 645 else 643, [.ref 0, .ref 2, .ref 64, .ref 93, .int (Int32.ofNat i), .int k, .int b], []), h, []) R → am_Ev ((d, 0, 638, [.ref 0, .ref 2, .ref 64, .ref 93, .int (Int32.ofNat i), .int k, .int b], [.long w]), h, []) R := by
    intro R hR
    refine am_sm_ev (sx_sm_step (i := .lconst 0) rfl rfl) ?_
    refine am_sm_ev (sx_sm_step (i := .lcmp) rfl rfl) ?_
    refine am_sm_ev (sx_sm_step (i := .ifCond .eq 5) rfl rfl) ?_
    exact hR
  have goB : ∀ R : am_O × am_H, am_Ev ((d, 0, if lg_cmp w 1 = 0 then 645 else 643, [.ref 0, .ref 2, .ref 64, .ref 93, .int (Int32.ofNat i), .int k, .int b], []), h, []) R → am_Ev ((d, 0, 634, [.ref 0, .ref 2, .ref 64, .ref 93, .int (Int32.ofNat i), .int k, .int b], [.long w]), h, []) R := by
    intro R hR
    refine am_sm_ev (sx_sm_step (i := .lconst 1) rfl rfl) ?_
    refine am_sm_ev (sx_sm_step (i := .goto 4) rfl rfl) ?_
    refine am_sm_ev (sx_sm_step (i := .lcmp) rfl rfl) ?_
    refine am_sm_ev (sx_sm_step (i := .ifCond .eq 5) rfl rfl) ?_
    exact hR
  have go : ∃ s : Int64, ∀ R : am_O × am_H, am_Ev ((d, 0, if lg_cmp w s = 0 then 645 else 643, [.ref 0, .ref 2, .ref 64, .ref 93, .int (Int32.ofNat i), .int k, .int b], []), h, []) R → am_Ev ((d, 0, 626, [.ref 0, .ref 2, .ref 64, .ref 93, .int (Int32.ofNat i), .int k, .int b], []), h, []) R := by
    by_cases qb : b = 0
    · rw [if_pos qb] at go1
      exact ⟨0, fun R hR => go1 R (goA R hR)⟩
    · rw [if_neg qb] at go1
      exact ⟨1, fun R hR => go1 R (goB R hR)⟩
  obtain ⟨s, go⟩ := go
  by_cases q : lg_cmp w s = 0
  · rw [if_pos q] at go
    refine Or.inr ⟨d, .int k, .int b, h, hd, hI, by omega, fun R hR => go R ?_⟩
    refine am_sm_ev (sx_sm_step (i := .goto 161) rfl rfl) ?_
    refine am_sm_ev (sx_sm_step (i := .iinc 4 7) rfl rfl) ?_
    refine am_sm_ev (sx_sm_step (i := .goto (-786)) rfl rfl) ?_
    have e7 : Int32.ofNat i + Int32.ofInt 7 = Int32.ofNat (i + 7) := by
      rw [show Int32.ofInt 7 = Int32.ofNat 7 from rfl, ← Int32.ofNat_add]
    rw [← e7] at hR
    exact hR
  · rw [if_neg q] at go
    refine Or.inl ⟨0, h, go _ ?_, hI, by omega⟩
    refine am_sm_ev (sx_sm_step (i := .iconst 0) rfl rfl) ?_
    exact am_ev_ret rfl rfl
theorem lw_cm_ok {C0 : ty_C} {H0 h : am_H} {xs : List Int32} {i : Nat} (hi : i ≤ 3584) {l5 l6 : Value} {σ : Nat → Int32} {S : ty_S} {c : am_G} (ho : ty_ho tc_g C0 (ty_l00 7 [.ref 0, .ref 2, .ref 64, .ref 93, .int (Int32.ofNat i), l5, l6] h []) H0 σ S c) (hn : 7 ≤ ty_n0 C0) (hs : lw_cm S = true) (hI : lw_I xs c.2.1) : lw_nx xs i c.2.1.length c := by
  obtain ⟨d', L', H, e1, e2, e3, e4⟩ := ho_hd_ok ho hs
  have z4 : ty_bv σ (5 : Int).toNat = i := od_lv ho hn (by omega) ⟨Int32.ofNat i, rfl, by rw [Int32.toInt_ofNat_of_lt (by omega)]⟩
  obtain ⟨w0, a0, b0⟩ := e4 0 _ rfl _ List.mem_cons_self
  obtain ⟨w1, a1, b1⟩ := e4 1 _ rfl _ List.mem_cons_self
  obtain ⟨w2, a2, b2⟩ := e4 2 _ rfl _ List.mem_cons_self
  obtain ⟨w3, a3, b3⟩ := e4 3 _ rfl _ List.mem_cons_self
  obtain ⟨w4, a4, b4⟩ := e4 4 _ rfl _ List.mem_cons_self
  obtain ⟨w5, a5, b5⟩ := e4 5 _ rfl _ List.mem_cons_self
  obtain ⟨w6, a6, b6⟩ := e4 6 _ rfl _ List.mem_cons_self
  have b0 := ho_sem_ref b0
  have b1 := ho_sem_ref b1
  have b2 := ho_sem_ref b2
  have b3 := ho_sem_ref b3
  obtain ⟨z, rfl, z1⟩ := ho_sem_or b4
  obtain ⟨k, rfl, _⟩ := (show ∃ x : Int32, w5 = .int x ∧ _ from b5)
  obtain ⟨b, rfl, _⟩ := (show ∃ x : Int32, w6 = .int x ∧ _ from b6)
  rw [z4] at z1
  have hz : z = Int32.ofNat i := Int32.toInt_inj.mp (by rw [z1, Int32.toInt_ofNat_of_lt (by omega)]; omega)
  subst b0 b1 b2 b3 hz e1
  have e3 : L'.length = 7 := e3
  match L', e3, a0, a1, a2, a3, a4, a5, a6 with
  | [v0, v1, v2, v3, v4, v5, v6], _, a0, a1, a2, a3, a4, a5, a6 =>
    cases a0
    cases a1
    cases a2
    cases a3
    cases a4
    cases a5
    cases a6
    exact lw_cmp_ok hi hI e2
theorem lw_fin {C0 : ty_C} {H0 h : am_H} {xs : List Int32} {i : Nat} (hi : i ≤ 3577) {l5 l6 : Value} {σ : Nat → Int32} {S : ty_S} {c : am_G} (ho : ty_ho tc_g C0 (ty_l00 7 [.ref 0, .ref 2, .ref 64, .ref 93, .int (Int32.ofNat i), l5, l6] h []) H0 σ S c) (hn : 7 ≤ ty_n0 C0) (hs : lw_ch S = true) (hI : lw_I xs c.2.1) : lw_nx xs i c.2.1.length c := by
  rcases ty_ite hs with ⟨_, hs⟩ | ⟨_, hs⟩
  · obtain ⟨d', v5, v6, e1, e2⟩ := lw_hd_ok (xs := xs) (by omega) ho hn hs
    exact Or.inr ⟨d', v5, v6, c.2.1, e2, hI, by omega, fun R hR => by rw [e1]; exact hR⟩
  · exact lw_cm_ok (by omega) ho hn hs hI
theorem lw_mid {S : ty_S} (hs : lw_ch S = true) : (am_hs S.2.2.1.2.1).isEmpty = true := by
  rcases ty_ite hs with ⟨_, hs⟩ | ⟨_, hs⟩
  · rw [ho_hd_mid hs]; rfl
  · rw [ho_hd_mid hs]; rfl
/-- one call of the script -/
theorem lw_one {d : Nat × Nat} (hd : mo_d (9, 200) d) {xs : List Int32} (hx : xs.length ≤ 3584) {i : Nat} (hi : i + 7 ≤ xs.length) {h : am_H} (hI : lw_I xs h) {l5 l6 : Value} : lw_nx xs i (h.length + 1) ((d, 0, 33, [.ref 0, .ref 2, .ref 64, .ref 93, .int (Int32.ofNat i), l5, l6], []), h, []) := by
  have ho := lw_ho hd hx hi hI (l5 := l5) (l6 := l6)
  have hall := lw_all_ok
  unfold lw_all at hall
  rcases ty_sg_ok hI.1 lw_vT _ _ _ _ hall ho with ⟨r, r1, r2⟩ | ⟨S', σ', c', b1, b2, b3, b4⟩
  · obtain ⟨⟨w, q1⟩, q2, q3⟩ := lw_rs hI r2
    refine Or.inl ⟨w, r.2, ?_, q2, by omega⟩
    rw [← q1]
    exact r1
  have hun : ty_un lw_ms h c'.2.1 := b3.2.2.2.2.2.1
  have hl1 : c'.2.1.length = h.length := by
    rcases b3.2.2.2.2.2.2 with q | ⟨_, _, _, q⟩
    · exact q
    · exfalso
      rcases ty_ite b2 with ⟨_, b2⟩ | ⟨hpc, b2⟩
      · rw [lw_mid b2] at q
        cases q
      · have hW : lw_isW S' = true := by
          rw [hpc] at b1
          simpa using b1
        simp only [lw_isW, Bool.and_eq_true] at hW
        rw [Nat.eq_of_beq_eq_true hW.2.1] at q
        cases q
  have I1 := lw_I_un hI b3.2.1 hun (Or.inl hl1)
  rcases ty_ite b2 with ⟨_, b2⟩ | ⟨hpc, b2⟩
  · exact lw_nx_tr (lw_fin (by omega) b3 (by decide) b2 I1) (by omega) b4
  · obtain ⟨S1, m1, m2⟩ := lw_split_ok b3
    have h1 := List.all_eq_true.mp b2 S1 m1
    split at h1
    · rename_i Ss hSs
      obtain ⟨q, q1, q2⟩ := lw_find_ok hSs
      obtain ⟨S2, u1, σ2, c2, u2, u3, u4, u5⟩ := lw_use_ok (lw_vW q q1) m2 q2
      have I2 := lw_I_un I1 u2.2.1 u3 u4
      have h2 := List.all_eq_true.mp h1 S2 u1
      have hl2 : c2.2.1.length ≤ h.length + 1 := by
        rcases u4 with u4 | u4
        · omega
        · have := u4.1
          omega
      rcases ty_sg_ok u2.2.1 lw_vT _ _ _ _ h2 u2 with ⟨r, r1, r2⟩ | ⟨S3, σ3, c3, t1, t2, t3, t4⟩
      · obtain ⟨⟨w, q1⟩, q2, q3⟩ := lw_rs I2 r2
        refine Or.inl ⟨w, r.2, b4 _ (u5 _ ?_), q2, by omega⟩
        rw [← q1]
        exact r1
      · have hl3 : c3.2.1.length = c2.2.1.length := ho_len t3 (lw_mid t2)
        have I3 := lw_I_un I2 t3.2.1 t3.2.2.2.2.2.1 (Or.inl hl3)
        exact lw_nx_tr (lw_fin (xs := xs) (by omega) t3 (by decide) t2 I3) (by omega) (fun R hR => b4 R (u5 R (t4 R hR)))
    · cases h1
/-- the loop -/
theorem lw_loop {xs : List Int32} (hx : xs.length ≤ 3584) : ∀ (m i : Nat), xs.length ≤ i + 7 * m + 6 → i ≤ xs.length + 6 → ∀ (d : Nat × Nat) (l5 l6 : Value) (h : am_H), mo_d (9, 200) d → lw_I xs h → ∃ (w : Int32) (h' : am_H), am_Ev ((d, 0, 23, [.ref 0, .ref 2, .ref 64, .ref 93, .int (Int32.ofNat i), l5, l6], []), h, []) (.inl (some (.int w)), h') ∧ lw_I xs h' ∧ h'.length ≤ h.length + m := by
  have n7 : ∀ (d : Nat × Nat) (l5 l6 : Value) (h : am_H) (i : Nat), i ≤ xs.length + 6 → lw_I xs h → ∀ R : am_O × am_H, am_Ev ((d, 0, if (i : Int) ≤ (xs.length : Int) - 7 then 33 else 812, [.ref 0, .ref 2, .ref 64, .ref 93, .int (Int32.ofNat i), l5, l6], []), h, []) R → am_Ev ((d, 0, 23, [.ref 0, .ref 2, .ref 64, .ref 93, .int (Int32.ofNat i), l5, l6], []), h, []) R := by
    intro d l5 l6 h i hi hI R hR
    have hal : ∀ (L st : List Value), am_step 0 26 L (.ref 0 :: st) h .arraylength = some (27, L, .int (Int32.ofNat xs.length) :: st, h) := by
      intro L st
      have h0 := hI.2.1
      have ha : am_aty 32 = some .int := rfl
      simp only [am_step, h0, ha, List.length_map]
    have hc7 : (Int8.ofInt 7).toInt32 = Int32.ofNat 7 := rfl
    have hsub : (Int32.ofNat xs.length - (Int8.ofInt 7).toInt32).toInt = (xs.length : Int) - 7 := by
      rw [hc7, Int32.toInt_sub, Int32.toInt_ofNat_of_lt (by omega), Int32.toInt_ofNat_of_lt (by omega)]
      exact ty_bm (by omega) (by omega)
    have hcmp : ∀ (L st : List Value), am_step 0 30 L (.int (Int32.ofNat xs.length - (Int8.ofInt 7).toInt32) :: .int (Int32.ofNat i) :: st) h (.if_icmp .gt 782) = some (if (i : Int) ≤ (xs.length : Int) - 7 then 33 else 812, L, st, h) := by
      intro L st
      simp only [am_step]
      have hq : (Int32.ofNat xs.length - (Int8.ofInt 7).toInt32 < Int32.ofNat i) ↔ ¬ ((i : Int) ≤ (xs.length : Int) - 7) := by
        rw [Int32.lt_iff_toInt_lt, hsub, Int32.toInt_ofNat_of_lt (by omega)]
        omega
      by_cases q : (i : Int) ≤ (xs.length : Int) - 7
      · rw [if_neg (fun e => hq.mp e q), if_pos q]
      · rw [if_pos (hq.mpr q), if_neg q]
        rfl
    refine am_sm_ev (sx_sm_step (i := .iload 4) rfl rfl) ?_
    refine am_sm_ev (sx_sm_step (i := .aload_n 0) rfl rfl) ?_
    refine am_sm_ev (sx_sm_step (i := .arraylength) rfl (hal _ _)) ?_
    refine am_sm_ev (sx_sm_step (i := .bipush 7) rfl rfl) ?_
    refine am_sm_ev (sx_sm_step (i := .isub) rfl rfl) ?_
    refine am_sm_ev (sx_sm_step (i := .if_icmp .gt 782) rfl (hcmp _ _)) ?_
    exact hR
  have fin : ∀ (d : Nat × Nat) (L : List Value) (h : am_H), am_Ev ((d, 0, 812, L, []), h, []) (.inl (some (.int 1)), h) := by
    intro d L h
    refine am_sm_ev (sx_sm_step (i := .iconst 1) rfl rfl) ?_
    exact am_ev_ret rfl rfl
  intro m
  induction m with
  | zero =>
    intro i h1 h2 d l5 l6 h hd hI
    refine ⟨1, h, n7 d l5 l6 h i h2 hI _ ?_, hI, Nat.le_refl _⟩
    rw [if_neg (by omega)]
    exact fin _ _ _
  | succ m ih =>
    intro i h1 h2 d l5 l6 h hd hI
    by_cases q : i + 7 ≤ xs.length
    · rcases lw_one hd hx q hI (l5 := l5) (l6 := l6) with ⟨w, h', e1, e2, e3⟩ | ⟨d', v5, v6, h', e1, e2, e3, e4⟩
      · refine ⟨w, h', n7 d l5 l6 h i h2 hI _ ?_, e2, by omega⟩
        rw [if_pos (by omega)]
        exact e1
      · obtain ⟨w, h2', f1, f2, f3⟩ := ih (i + 7) (by omega) (by omega) d' v5 v6 h' e1 e2
        refine ⟨w, h2', n7 d l5 l6 h i h2 hI _ ?_, f2, by omega⟩
        rw [if_pos (by omega)]
        exact e4 _ f1
    · refine ⟨1, h, n7 d l5 l6 h i h2 hI _ ?_, hI, by omega⟩
      rw [if_neg (by omega)]
      exact fin _ _ _
/-! what the cells take -/
def lw_ssz (s : ty_X) : Nat := if ty_one s.1 then s.2.1 else (if Nat.beq s.1 35 then s.2.2.length else am_ns s.1)
theorem lw_csz {s : ty_X} {x : am_C} (hc : ty_cok s x) (h9 : Nat.beq s.1 99 = false ∧ Nat.beq s.1 98 = false) (hs : ty_one s.1 = true ∨ Nat.beq s.1 35 = true ∨ s.1 < 32) : am_csz x = lw_ssz s := by
  unfold lw_ssz am_csz
  cases ho : ty_one s.1 with
  | true =>
    have h2 := hc
    rw [ty_cok_arr ho] at h2
    rw [h2.1]
    rw [if_pos rfl]
    simp only [ty_one, Bool.or_eq_true] at ho
    rcases ho with ho | ho | ho <;> rw [Nat.eq_of_beq_eq_true ho] <;> exact h2.2.1
  | false =>
    have h2 := hc
    rw [ty_cok_obj ho h9] at h2
    rw [h2.1]
    rw [if_neg (by decide)]
    rcases hs with hs | hs | hs
    · rw [hs] at ho
      cases ho
    · rw [if_pos hs, Nat.eq_of_beq_eq_true hs]
      exact h2.2.1
    · have h35 : ¬ Nat.beq s.1 35 = true := fun e => by
        have := Nat.eq_of_beq_eq_true e
        omega
      rw [if_neg h35]
      have : am_aty s.1 = none := by
        unfold am_aty
        split <;> first | rfl | omega
      rw [this]
def lw_gz (s : ty_X) : Bool := !(Nat.beq s.1 99) && (!(Nat.beq s.1 98) && (ty_one s.1 || (Nat.beq s.1 35 || Nat.blt s.1 32)))
theorem lw_szs : ∀ (g : List ty_X) (h : am_H), g.all lw_gz = true → (∀ (k : Nat) (s : ty_X), g[k]? = some s → ∃ x : am_C, h[k]? = some x ∧ ty_cok s x) → am_sz h = (g.map lw_ssz).sum + am_sz (h.drop g.length)
  | [], h, _, _ => by simp
  | s :: g, h, ha, hk => by
    obtain ⟨x, e1, e2⟩ := hk 0 s rfl
    cases h with
    | nil => cases e1
    | cons y h =>
      cases e1
      simp only [List.all_cons, Bool.and_eq_true] at ha
      have hz := ha.1
      simp only [lw_gz, Bool.and_eq_true, Bool.or_eq_true, Bool.not_eq_true', Nat.blt_eq] at hz
      have := lw_csz e2 ⟨hz.1, hz.2.1⟩ hz.2.2
      have ih := lw_szs g h ha.2 (fun k s' hs' => hk (k + 1) s' (by rw [List.getElem?_cons_succ]; exact hs'))
      simp only [am_sz, List.map_cons, List.sum_cons, List.length_cons, List.drop_succ_cons]
      omega
theorem lw_ns (k : Nat) : am_ns k ≤ 40 := by
  unfold am_ns
  split
  · exact Nat.le_of_ble_eq_true (am_allT_get (f := fun n => Nat.ble n 40) 4 _ k (by decide +kernel))
  · exact Nat.zero_le _
theorem lw_tail : ∀ (h : am_H), (∀ p : Nat, p < h.length → ∃ X : Nat, h[p]? = some (X, [])) → am_sz h ≤ 40 * h.length
  | [], _ => Nat.zero_le _
  | x :: r, hp => by
    obtain ⟨X, hX⟩ := hp 0 (by simp)
    cases hX
    have h1 : am_csz (X, []) ≤ 40 := by
      unfold am_csz
      split
      · exact Nat.zero_le _
      · exact lw_ns X
    have ih := lw_tail r (fun p hp' => by
      have := hp (p + 1) (by simp; omega)
      rw [List.getElem?_cons_succ] at this
      exact this)
    simp only [am_sz, List.length_cons]
    omega
theorem lw_gsum : (tc_g.drop 1).all lw_gz = true ∧ ((tc_g.drop 1).map lw_ssz).sum ≤ 20000 ∧ (tc_g.drop 1).length = 93 := by decide +kernel
theorem lw_sz {xs : List Int32} {h : am_H} (hI : lw_I xs h) : am_sz h ≤ xs.length + 20000 + 40 * (h.length - 94) := by
  obtain ⟨hg, h0, hl, hp⟩ := hI
  cases h with
  | nil => simp at hl
  | cons x r =>
    cases h0
    have e := lw_szs (tc_g.drop 1) r lw_gsum.1 (fun k s hs => by
      rw [List.getElem?_drop] at hs
      obtain ⟨y, y1, y2⟩ := hg (1 + k) s hs
      rw [show 1 + k = k + 1 by omega, List.getElem?_cons_succ] at y1
      exact ⟨y, y1, y2⟩)
    rw [lw_gsum.2.2] at e
    have t := lw_tail (r.drop 93) (fun p hp' => by
      rw [List.length_drop] at hp'
      obtain ⟨X, hX⟩ := hp (p + 94) (by omega) (by rw [List.length_cons]; omega)
      rw [show p + 94 = (93 + p) + 1 by omega, List.getElem?_cons_succ] at hX
      exact ⟨X, by rw [List.getElem?_drop]; exact hX⟩)
    rw [List.length_drop] at t
    have g2 := lw_gsum.2.1
    have c0 : am_csz (32, xs.map Value.int) = xs.length := by
      show (xs.map Value.int).length = xs.length
      rw [List.length_map]
    simp only [am_sz, List.length_cons, c0]
    omega
/-! the cells of the start -/
def lw_vb (s : ty_V) (v : Value) : Bool := match s.1, v with
  | 0, .int x => ty_le s.2.1 x.toInt && ty_le x.toInt s.2.2
  | 1, .ref p => Nat.beq p s.2.1.toNat
  | 2, .long _ => true
  | _, _ => false
theorem lw_vb_ok {s : ty_V} {v : Value} (h : lw_vb s v = true) : ty_vok s v := by
  obtain ⟨k, a, b⟩ := s
  unfold lw_vb at h
  unfold ty_vok
  split at h
  · rename_i x hk
    have hk : k = 0 := hk
    subst hk
    simp only [Bool.and_eq_true, ty_leq] at h
    exact ⟨x, rfl, h.1, h.2⟩
  · rename_i p hk
    have hk : k = 1 := hk
    subst hk
    exact congrArg Value.ref (Nat.eq_of_beq_eq_true h)
  · rename_i x hk
    have hk : k = 2 := hk
    subst hk
    exact ⟨x, rfl⟩
  · cases h
def lw_vbs : List ty_V → List Value → Bool
  | [], [] => true
  | s :: r, v :: l => lw_vb s v && lw_vbs r l
  | _, _ => false
theorem lw_vbs_ok : ∀ {ss : List ty_V} {l : List Value}, lw_vbs ss l = true → l.length = ss.length ∧ ∀ (f : Nat) (k : ty_V), ss[f]? = some k → ∃ v, l[f]? = some v ∧ ty_vok k v
  | [], [], _ => ⟨rfl, fun f k hk => by simp at hk⟩
  | s :: r, v :: l, h => by
    simp only [lw_vbs, Bool.and_eq_true] at h
    obtain ⟨i1, i2⟩ := lw_vbs_ok h.2
    refine ⟨by rw [List.length_cons, List.length_cons, i1], fun f k hk => ?_⟩
    cases f with
    | zero =>
      simp only [List.getElem?_cons_zero, Option.some.injEq] at hk
      subst hk
      exact ⟨v, rfl, lw_vb_ok h.1⟩
    | succ f =>
      rw [List.getElem?_cons_succ] at hk ⊢
      exact i2 f k hk
def lw_zero : Value → Bool
  | .int x => decide (x = 0)
  | _ => false
def lw_cb (s : ty_X) (x : am_C) : Bool := Nat.beq x.1 s.1 && (if ty_one s.1 then Nat.beq x.2.length s.2.1 && (match s.2.2 with
  | [r] => x.2.all (lw_vb r)
  | [(0, a0, b0), (0, a1, b1), (0, a2, b2), (5, _, _)] => x.2.all lw_zero && (ty_le a0 0 && (ty_le 0 b0 && (ty_le a1 0 && (ty_le 0 b1 && (ty_le a2 0 && ty_le 0 b2)))))
  | _ => false) else (!(Nat.beq s.1 99) && (!(Nat.beq s.1 98) && lw_vbs s.2.2 x.2)))
theorem lw_cb_ok {s : ty_X} {x : am_C} (h : lw_cb s x = true) : ty_cok s x := by
  simp only [lw_cb, Bool.and_eq_true] at h
  obtain ⟨h1, h2⟩ := h
  have h1 := Nat.eq_of_beq_eq_true h1
  rcases ty_ite h2 with ⟨ho, h2⟩ | ⟨ho, h2⟩
  · rw [ty_cok_arr ho]
    simp only [Bool.and_eq_true] at h2
    obtain ⟨h3, h4⟩ := h2
    refine ⟨h1, Nat.eq_of_beq_eq_true h3, ?_⟩
    split at h4
    · rename_i r hr
      rw [hr]
      refine ⟨fun f k v hk hv => ?_, fun lo hi hq => by cases hq⟩
      have : k = r := by simpa [Nat.mod_one] using hk.symm
      rw [this]
      exact lw_vb_ok (List.all_eq_true.mp h4 v (List.mem_of_getElem? hv))
    · rename_i a0 b0 a1 b1 a2 b2 a3 b3 hr
      rw [hr]
      simp only [Bool.and_eq_true, ty_leq] at h4
      obtain ⟨z, c1, c2, c3, c4, c5, c6⟩ := h4
      have hz : ∀ (f : Nat) (v : Value), x.2[f]? = some v → v = .int 0 := by
        intro f v hv
        have := List.all_eq_true.mp z v (List.mem_of_getElem? hv)
        match v, this with
        | .int y, this => rw [of_decide_eq_true this]
      refine ⟨fun f k v hk hv => ?_, fun lo hi hq f v hf hv => ?_⟩
      · rw [hz f v hv]
        have hm : f % 4 = 0 ∨ f % 4 = 1 ∨ f % 4 = 2 ∨ f % 4 = 3 := by omega
        have hk : [((0, a0, b0) : ty_V), (0, a1, b1), (0, a2, b2), (5, a3, b3)][f % 4]? = some k := hk
        rcases hm with q | q | q | q <;> rw [q] at hk <;> cases hk
        · exact ⟨0, rfl, c1, c2⟩
        · exact ⟨0, rfl, c3, c4⟩
        · exact ⟨0, rfl, c5, c6⟩
        · exact ⟨0, rfl⟩
      · left
        have hl := (List.getElem?_eq_some_iff.mp hv).1
        have : x.2[f - 3]? = some x.2[f - 3] := List.getElem?_eq_getElem (by omega)
        rw [this, hz _ _ this]
    · cases h4
  · simp only [Bool.and_eq_true, Bool.not_eq_true'] at h2
    rw [ty_cok_obj ho ⟨h2.1, h2.2.1⟩]
    exact ⟨h1, lw_vbs_ok h2.2.2⟩
def lw_cbs : List ty_X → am_H → Bool
  | [], _ => true
  | s :: g, x :: h => lw_cb s x && lw_cbs g h
  | _ :: _, [] => false
theorem lw_cbs_ok : ∀ {g : List ty_X} {h : am_H}, lw_cbs g h = true → ty_gok g h
  | [], _, _, p, s, hs => by simp at hs
  | s1 :: g, x :: h, hc, p, s, hs => by
    simp only [lw_cbs, Bool.and_eq_true] at hc
    cases p with
    | zero =>
      simp only [List.getElem?_cons_zero, Option.some.injEq] at hs
      subst hs
      exact ⟨x, rfl, lw_cb_ok hc.1⟩
    | succ p =>
      rw [List.getElem?_cons_succ] at hs ⊢
      exact lw_cbs_ok hc.2 p s hs
theorem lw_rest_ok : lw_cbs (tc_g.drop 1) lw_rest = true ∧ lw_rest.length = 93 := by decide +kernel
theorem lw_I0 (xs : List Int32) : lw_I xs ((32, xs.map Value.int) :: lw_rest) := by
  refine ⟨fun p s hs => ?_, rfl, by rw [List.length_cons, lw_rest_ok.2]; decide, fun p p1 p2 => ?_⟩
  · cases p with
    | zero =>
      have hs : some _ = some s := hs
      cases hs
      exact ⟨_, rfl, rfl⟩
    | succ p =>
      rw [List.getElem?_cons_succ]
      exact lw_cbs_ok lw_rest_ok.1 p s (by rw [List.getElem?_drop, show 1 + p = p + 1 by omega]; exact hs)
  · rw [List.length_cons, lw_rest_ok.2] at p2
    omega
end LWC
