/-! check, by hand: never more than 13 pairs -/
section HKA
/-- not more than n different ones below n -/
theorem ph_ok : ∀ (n k : Nat) (f : Nat → Nat), (∀ i : Nat, i < k → f i < n) → (∀ i j : Nat, i < j → j < k → f i ≠ f j) → k ≤ n
  | 0, k, f, h1, _ => by
    by_cases q : k = 0
    · omega
    · have := h1 0 (by omega)
      omega
  | n + 1, k, f, h1, h2 => by
    by_cases q : ∃ i : Nat, i < k ∧ f i = n
    · obtain ⟨i0, i1, i2⟩ := q
      have := ph_ok n (k - 1) (fun i => if i < i0 then f i else f (i + 1)) (fun i hi => by
        split
        · have a := h1 i (by omega)
          have b := h2 i i0 (by omega) i1
          omega
        · have a := h1 (i + 1) (by omega)
          have b := h2 i0 (i + 1) (by omega) (by omega)
          omega) (fun i j hij hj => by
        split
        · split
          · exact h2 i j hij (by omega)
          · exact h2 i (j + 1) (by omega) (by omega)
        · rw [if_neg (by omega)]
          exact h2 (i + 1) (j + 1) (by omega) (by omega))
      omega
    · have := ph_ok n k f (fun i hi => by
        have a := h1 i hi
        have b : f i ≠ n := fun e => q ⟨i, hi, e⟩
        omega) h2
      omega
def ck_tail : ty_C := ((175, 119, [(1, 64, 0), od_I], (6, 120)), ([od_I], [], [64], [], []), [(0, 1)])
def ck_fail : ty_C := ((175, 93, [(1, 64, 0), (0, 0, 38)], (6, 120)), ([od_I], [], [64], [(64, 20, 1, 4)], []), [(0, 1)])
theorem ck_tail_ok : ty_ck tc_g [] 60 ck_tail = true := by decide +kernel
theorem ck_fail_ok : ty_ck tc_g [] 100 ck_fail = true := by decide +kernel
def ck_1C : ty_C := ((175, 0, [(1, 64, 0), (3, 0, 0)], (6, 120)), ([], [], [64, 85], [], [(0, 0, 2, 0)]), [])
def ck_1 : Bool := ty_sg tc_g [] ck_1C (ho_pc 34) (fun S => ho_fr 175 34 6 120 [[(1, 64, 0)], []] S && (lk_st [[(7, 0, 0)], [(7, 0, 0)], [(1, 64, 0)]] S && (match ty_Fget S.2.1 64 (ty_ix 25) with
  | some u => ty_fit S.1 (7, 0, 0) u
  | none => false))) 200 (ty_S0 ck_1C)
theorem ck_1_ok : ck_1 = true := by decide +kernel
def ck_2C (m : Nat) : ty_C := ((175, 37, [(1, 64, 0), (3, 0, 0)], (6, 120)), ([], [], [64], [(64, 25, m, m)], [(0, 0, 2, 0)]), [])
def ck_2 (m : Nat) : Bool := ty_sg tc_g [] (ck_2C m) (ho_pc 48) (fun S => ho_hd 175 48 6 120 [[(1, 64, 0)], [(7, 0, 0)]] S && ((match ty_Fget S.2.1 64 (ty_ix 25) with
  | some u => ty_fit S.1 (7, m, 0) u
  | none => false) && (match ty_Fget S.2.1 64 (ty_ix 20) with
  | some u => ty_fit S.1 (7, 0, 0) u
  | none => false))) 60 (ty_S0 (ck_2C m))
theorem ck_2_ok : (List.range 2).all (fun m => ck_2 m) = true := by decide +kernel
/-- an end by a contract of ints -/
theorem ck_by {C : ty_C} (h8 : C.2.2.length ≤ 8) (hck : ∃ n, ty_ck tc_g [] n C = true) (hret : C.2.1.1 = [od_I]) (hex : C.2.1.2.1 = []) (hhs : (am_hs C.1.1).isEmpty = true) {d : Nat × Nat} {L : List Value} {h : am_H} (ha : ty_ar0 tc_g C d L h) : ∃ (v : Int32) (h' : am_H), am_Ev ((d, C.1.1, C.1.2.1, L, []), h, []) (.inl (some (.int v)), h') ∧ ty_gok tc_g h' ∧ ty_un C.2.1.2.2.1 h h' ∧ h'.length = h.length := by
  obtain ⟨n, hck⟩ := hck
  obtain ⟨⟨o, h'⟩, r1, r2, r3, r4⟩ := ty_tabs (g := tc_g) (TT := [C]) (fun D hD => Or.inr (by
    rw [List.mem_singleton.mp hD]
    exact ⟨h8, [], n, fun D hD => absurd hD List.not_mem_nil, hck⟩)) _ (List.mem_singleton.mpr rfl) d L h ha
  cases o with
  | inr X =>
    have r5 := r4.1
    rw [hex] at r5
    exact absurd r5 List.not_mem_nil
  | inl v =>
    obtain ⟨y1, _, y3⟩ := r4
    have hl' : h'.length = h.length := by
      rcases y1 with y1 | ⟨_, y1⟩
      · exact y1
      · rw [hhs] at y1
        cases y1
    cases v with
    | none =>
      have y3 : C.2.1.1 = [] := y3
      rw [hret] at y3
      cases y3
    | some w =>
      obtain ⟨s, hs, hw⟩ := y3
      rw [hret] at hs
      rw [List.mem_singleton.mp hs] at hw
      obtain ⟨x, rfl, _⟩ := hw
      exact ⟨x, h', r1, r2, r3, hl'⟩
theorem ck_put {h : am_H} (hg : ty_gok tc_g h) {m : Nat} {ms PS PT PA : List Value} (hh : hm_h h m ms PS PT PA) (v : Int32) : ty_gok tc_g (h.set 64 (9, ms.set 20 (.int v))) ∧ hm_h (h.set 64 (9, ms.set 20 (.int v))) m (ms.set 20 (.int v)) PS PT PA ∧ (ms.set 20 (.int v))[20]? = some (.int v) ∧ 20 < ms.length := by
  obtain ⟨h64, m23, m24, m26, m25, h83, h84, h85, l1, l2, l3⟩ := hh
  have k64 : 64 < h.length := (List.getElem?_eq_some_iff.mp h64).1
  have km : 25 < ms.length := (List.getElem?_eq_some_iff.mp m25).1
  refine ⟨ty_gok_set hg (fun s' hs' => ?_), ⟨List.getElem?_set_self k64, by rw [List.getElem?_set_ne (by decide)]; exact m23, by rw [List.getElem?_set_ne (by decide)]; exact m24, by rw [List.getElem?_set_ne (by decide)]; exact m26, by rw [List.getElem?_set_ne (by decide)]; exact m25, by rw [List.getElem?_set_ne (by decide)]; exact h83, by rw [List.getElem?_set_ne (by decide)]; exact h84, by rw [List.getElem?_set_ne (by decide)]; exact h85, l1, l2, l3⟩, List.getElem?_set_self (by omega), by omega⟩
  have hs' : some _ = some s' := hs'
  cases hs'
  obtain ⟨x, e1, e2⟩ := hg 64 _ rfl
  rw [h64] at e1
  cases e1
  have nb := ty_nb_full (σ := fun _ => 0) 0 v
  exact ty_cok_ost (by decide) e2 (s := (0, -2147483648, 2147483647)) rfl ⟨v, rfl, nb.1, nb.2.1⟩
/-- the pairs that were looked at -/
def ck_S (k : Nat) (PS PT PA : List Value) : Prop := ∀ i : Nat, i < k → ∃ s t : Nat, s < 6 ∧ t < 6 ∧ PS[i]? = some (.int (Int32.ofNat s)) ∧ PT[i]? = some (.int (Int32.ofNat t)) ∧ PA[s]? = some (.int (Int32.ofNat t))
theorem ck_inj {a b : Nat} (ha : a < 6) (hb : b < 6) (h : Int32.ofNat a = Int32.ofNat b) : a = b := by
  have h1 := (ty_ixn (k := a) (by omega)).1
  have h2 := (ty_ixn (k := b) (by omega)).1
  rw [h] at h1
  omega
theorem ck_six {k m : Nat} {PS PT PA : List Value} (hk : k ≤ m) (hD : ps_D m PS PT) (hS : ck_S k PS PT PA) : k ≤ 6 := by
  have hf : ∃ f : Nat → Nat, ∀ i : Nat, i < k → f i < 6 ∧ PS[i]? = some (.int (Int32.ofNat (f i))) ∧ ∃ t : Nat, t < 6 ∧ PT[i]? = some (.int (Int32.ofNat t)) ∧ PA[f i]? = some (.int (Int32.ofNat t)) := by
    refine ⟨fun i => if h : i < k then Classical.choose (hS i h) else 0, fun i hi => ?_⟩
    have hc := Classical.choose_spec (hS i hi)
    dsimp only
    rw [dif_pos hi]
    obtain ⟨t, t1, t2, t3, t4, t5⟩ := hc
    exact ⟨t1, t3, t, t2, t4, t5⟩
  obtain ⟨f, hf⟩ := hf
  refine ph_ok 6 k f (fun i hi => (hf i hi).1) (fun i j hij hj e => ?_)
  obtain ⟨a1, a2, t, a3, a4, a5⟩ := hf i (by omega)
  obtain ⟨b1, b2, u, b3, b4, b5⟩ := hf j hj
  rw [e, b5] at a5
  refine hD i j hij (by omega) ⟨by rw [a2, b2, e], ?_⟩
  rw [a4, b4, ← a5]
theorem ck_loop : ∀ (j k : Nat), k + j = 7 → ∀ (d : Nat × Nat) (h : am_H) (m : Nat) (ms PS PT PA : List Value), mo_d (6, 120) d → ty_gok tc_g h → hm_h h m ms PS PT PA → ms[20]? = some (.int 0) → k ≤ m → m ≤ 1 + 2 * k → ps_D m PS PT → ck_S k PS PT PA →
    ∃ (v : Int32) (h' : am_H), am_Ev ((d, 175, 48, [.ref 64, .int (Int32.ofNat k)], []), h, []) (.inl (some (.int v)), h') ∧ ty_gok tc_g h' ∧ h'.length = h.length ∧ ty_un lk_mods h h' := by
  intro j
  induction j with
  | zero =>
    intro k hk d h m ms PS PT PA hd hg hh h20 hkm hm hD hS
    have := ck_six hkm hD hS
    omega
  | succ j ih =>
    intro k hk d h m ms PS PT PA hd hg hh h20 hkm hm hD hS
    have hh0 := hh
    obtain ⟨h64, m23, m24, m26, m25, h83, h84, h85, l1, l2, l3⟩ := hh0
    have hd1 := hd.1
    have hd2 := hd.2
    dsimp only at hd1 hd2
    have un0 : ∀ h' : am_H, ty_un [64] h h' → ty_un lk_mods h h' := fun h' hu => ty_un_tr (ms := lk_mods) (fun _ _ _ hx => hx) hu (by decide)
    by_cases hkm2 : k < m
    · obtain ⟨PS0, a1, a2, a3⟩ := ps_row hg (p := 83) rfl
      rw [h83] at a1
      cases a1
      obtain ⟨PT0, b1, b2, b3⟩ := ps_row hg (p := 84) rfl
      rw [h84] at b1
      cases b1
      obtain ⟨x, hx, x1, x2⟩ := a3 k (by omega)
      obtain ⟨y, hy, y1, y2⟩ := b3 k (by omega)
      obtain ⟨s, hs, rfl⟩ := lk_nat (hi := 5) x1 x2
      obtain ⟨t, ht, rfl⟩ := lk_nat (hi := 5) y1 y2
      obtain ⟨v, h1, m1, ms1, PS1, PT1, PA1, e1, e2, e3, e4, e5, e6, e7, e8⟩ := look_ok (d := (d.1 - 1, d.2 - (1 + (3 + 11)))) (s := s) (t := t) ⟨by show 5 ≤ d.1 - 1; omega, by show 100 ≤ d.2 - (1 + (3 + 11)); omega⟩ (by omega) (by omega) (by omega) hg hh
      obtain ⟨p1, p2, p3, p4⟩ := ck_put e2 e5 v
      have hpf : ∀ (L st : List Value), am_step 175 80 L (.int v :: .ref 64 :: st) h1 (.putfield 64) = some (83, L, st, h1.set 64 (9, ms1.set 20 (.int v))) := by
        intro L st
        have hp : am_pf (am_oc 175) 64 = some (9, 20) := rfl
        simp only [am_step, hp, e5.1]
        rw [if_pos]
        simp only [Bool.and_eq_true, Nat.blt_eq]
        exact ⟨rfl, rfl, p4, rfl, rfl⟩
      have run : ∀ R : am_O × am_H, am_Ev ((d, 175, 87, [.ref 64, .int (Int32.ofNat k)], [.int v]), h1.set 64 (9, ms1.set 20 (.int v)), []) R → am_Ev ((d, 175, 48, [.ref 64, .int (Int32.ofNat k)], []), h, []) R := by
        intro R hR
        refine am_sm_ev (sx_sm_step (i := .iload_n 1) rfl rfl) ?_
        refine am_sm_ev (sx_sm_step (i := .aload_n 0) rfl rfl) ?_
        refine am_sm_ev (sx_sm_step (i := .getfield 226) rfl (hm_gf rfl h64 m25)) ?_
        refine am_sm_ev (sx_sm_step (i := .if_icmp .ge 66) rfl (hm_ge (by omega) (by omega))) ?_
        rw [if_neg (by omega)]
        refine am_sm_ev (sx_sm_step (i := .aload_n 0) rfl rfl) ?_
        refine am_sm_ev (sx_sm_step (i := .getfield 64) rfl (hm_gf rfl h64 h20)) ?_
        refine am_sm_ev (sx_sm_step (i := .ifCond .ne 59) rfl rfl) ?_
        refine am_sm_ev (sx_sm_step (i := .aload_n 0) rfl rfl) ?_
        refine am_sm_ev (sx_sm_step (i := .aload_n 0) rfl rfl) ?_
        refine am_sm_ev (sx_sm_step (i := .aload_n 0) rfl rfl) ?_
        refine am_sm_ev (sx_sm_step (i := .getfield 74) rfl (hm_gf rfl h64 m23)) ?_
        refine am_sm_ev (sx_sm_step (i := .iload_n 1) rfl rfl) ?_
        refine am_sm_ev (sx_sm_step (i := .iaload) rfl (hm_ld (by omega) h83 hx)) ?_
        refine am_sm_ev (sx_sm_step (i := .aload_n 0) rfl rfl) ?_
        refine am_sm_ev (sx_sm_step (i := .getfield 77) rfl (hm_gf rfl h64 m24)) ?_
        refine am_sm_ev (sx_sm_step (i := .iload_n 1) rfl rfl) ?_
        refine am_sm_ev (sx_sm_step (i := .iaload) rfl (hm_ld (by omega) h84 hy)) ?_
        refine hk_r2 (k := 177) (x := 248) (na := 3) (ml := 3) (args := [.int (Int32.ofNat t), .int (Int32.ofNat s), .ref 64]) (rest := [.ref 64]) rfl rfl rfl rfl rfl rfl (by omega) (by show 1 + (3 + 11) ≤ _; omega) rfl (lk_rcv rfl rfl h64) e1 _ ?_
        refine am_sm_ev (sx_sm_step (i := .putfield 64) rfl (hpf _ _)) ?_
        refine am_sm_ev (sx_sm_step (i := .aload_n 0) rfl rfl) ?_
        refine am_sm_ev (sx_sm_step (i := .getfield 64) rfl (hm_gf rfl p2.1 p3)) ?_
        exact hR
      have hlen1 : (h1.set 64 (9, ms1.set 20 (.int v))).length = h.length := by rw [List.length_set, e3]
      have hun1 : ty_un lk_mods h (h1.set 64 (9, ms1.set 20 (.int v))) := ty_un_set e4 (by decide) _
      rcases e8 with ⟨v1, _⟩ | ⟨rfl, hPA, hrel⟩
      · -- it failed
        have hv0 : ¬ v = 0 := fun e => by rw [e] at v1; exact absurd v1 (by decide)
        have hx20 := ty_ixn (k := 20) (by omega)
        obtain ⟨w, h2, f1, f2, f3, f4⟩ := ck_by (C := ck_fail) (by decide) ⟨100, ck_fail_ok⟩ rfl rfl rfl (d := d) (L := [.ref 64, .int (Int32.ofNat k)]) (h := h1.set 64 (9, ms1.set 20 (.int v))) ⟨hd, rfl, (fun n q hn hkd => by
          match n, hn with
          | 0, hn => cases hn; exact ⟨_, rfl, rfl⟩
          | 1, hn => cases hn; exact ⟨_, rfl, ps_on (by omega) (by omega) (by omega)⟩
          | n + 2, hn => cases hn), p1, (fun q hq => by
          rw [List.mem_singleton.mp hq]
          exact ⟨_, v, p2.1, hx20.2, by show (ms1.set 20 (.int v))[(Int32.ofNat 20).toNatClampNeg]? = _; rw [hx20.1]; exact p3, v1, e7⟩)⟩
        refine ⟨w, h2, run _ ?_, f2, by rw [f4, hlen1], ty_un_tr hun1 f3 (by decide)⟩
        refine am_sm_ev (sx_sm_step (i := .ifCond .ne 6) rfl (by simp only [am_step]; rw [if_neg hv0])) ?_
        exact f1
      · -- it went well
        have hS1 : ck_S (k + 1) PS1 PT1 PA1 := by
          intro i hi
          have hneg : ∀ n : Nat, n < 6 → Int32.ofNat n ≠ -1 := fun n hn e => by
            have := Int32.toInt_ofNat_of_lt (n := n) (by omega)
            rw [e] at this
            have h2 : (-1 : Int32).toInt = -1 := rfl
            omega
          by_cases q : i = k
          · subst q
            have := hrel.2.2.2.1 i hkm2
            exact ⟨s, t, by omega, by omega, by rw [this.1]; exact hx, by rw [this.2]; exact hy, hrel.2.2.2.2 s _ hPA (hneg t (by omega))⟩
          · obtain ⟨s', t', c1, c2, c3, c4, c5⟩ := hS i (by omega)
            have := hrel.2.2.2.1 i (by omega)
            exact ⟨s', t', c1, c2, by rw [this.1]; exact c3, by rw [this.2]; exact c4, hrel.2.2.2.2 s' _ c5 (hneg t' c2)⟩
        have hr1 := hrel.1
        have hr2 := hrel.2.1
        obtain ⟨w, h2, f1, f2, f3, f4⟩ := ih (k + 1) (by omega) d (h1.set 64 (9, ms1.set 20 (.int 0))) m1 (ms1.set 20 (.int 0)) PS1 PT1 PA1 hd p1 p2 p3 (by omega) (by omega) (hrel.2.2.1 hD) hS1
        refine ⟨w, h2, run _ ?_, f2, by rw [f3, hlen1], ty_un_tr hun1 f4 (fun _ hp => hp)⟩
        have c3 : Int32.ofNat k + Int32.ofInt 1 = Int32.ofNat (k + 1) := by
          have c3 : Int32.ofInt 1 = Int32.ofNat 1 := rfl
          rw [c3, od_on]
        refine am_sm_ev (sx_sm_step (i := .ifCond .ne 6) rfl rfl) ?_
        refine am_sm_ev (sx_sm_step (i := .goto 23) rfl rfl) ?_
        refine am_sm_ev (sx_sm_step (i := .iinc 1 1) rfl rfl) ?_
        refine am_sm_ev (sx_sm_step (i := .goto (-68)) rfl rfl) ?_
        show am_Ev ((d, 175, 48, [.ref 64, .int (Int32.ofNat k + Int32.ofInt 1)], []), h1.set 64 (9, ms1.set 20 (.int 0)), []) _
        rw [c3]
        exact f1
    · -- no pair is left
      obtain ⟨w, h2, f1, f2, f3, f4⟩ := ck_by (C := ck_tail) (by decide) ⟨60, ck_tail_ok⟩ rfl rfl rfl (d := d) (L := [.ref 64, .int (Int32.ofNat k)]) (h := h) ⟨hd, rfl, (fun n q hn hkd => by
        match n, hn with
        | 0, hn => cases hn; exact ⟨_, rfl, rfl⟩
        | 1, hn => cases hn; exact ⟨_, rfl, ps_on (by omega) (by omega) (by omega)⟩
        | n + 2, hn => cases hn), hg, (fun q hq => absurd hq List.not_mem_nil)⟩
      refine ⟨w, h2, ?_, f2, f4, un0 _ f3⟩
      refine am_sm_ev (sx_sm_step (i := .iload_n 1) rfl rfl) ?_
      refine am_sm_ev (sx_sm_step (i := .aload_n 0) rfl rfl) ?_
      refine am_sm_ev (sx_sm_step (i := .getfield 226) rfl (hm_gf rfl h64 m25)) ?_
      refine am_sm_ev (sx_sm_step (i := .if_icmp .ge 66) rfl (hm_ge (by omega) (by omega))) ?_
      rw [if_pos (by omega)]
      exact f1
def ck_C : ty_C := ((175, 0, [(1, 64, 0), (3, 0, 0)], (6, 120)), ([od_I], [], lk_mods, [], []), [(0, 1)])
theorem ck_ok (d : Nat × Nat) (L : List Value) (h : am_H) (ha : ty_ar0 tc_g ck_C d L h) : ty_vd tc_g ck_C d L h := by
  obtain ⟨a1, a2, a3, a4, a5⟩ := ha
  have a2 : L.length = 2 := a2
  obtain ⟨v0, b1, b2⟩ := a3 0 (1, 64, 0) rfl rfl
  have b2 : v0 = .ref 64 := b2
  subst b2
  have ci : ∀ n : Nat, Int32.ofInt (n : Int) = Int32.ofNat n := fun n => Int32.ofInt_eq_ofNat
  obtain ⟨S', σ', c', g1, g2, g3, g4⟩ := od_run (T := []) od_vnil rfl List.mem_cons_self ck_1_ok (C := ck_1C) (d := d) (L := L) (h := h) ⟨a1, a2, (fun n q hn hkd => by
    match n, hn with
    | 0, hn => cases hn; exact ⟨_, b1, rfl⟩
    | 1, hn => cases hn; cases hkd
    | n + 2, hn => cases hn), a4, (fun q hq => absurd hq List.not_mem_nil)⟩
  simp only [Bool.and_eq_true] at g2
  obtain ⟨g2, g5, g6⟩ := g2
  have hl : c'.2.1.length = h.length := ho_len g3 (by rw [ho_fr_mid g2]; rfl)
  have hun : ty_un [64, 85] h c'.2.1 := g3.2.2.2.2.2.1
  have hg1 : ty_gok tc_g c'.2.1 := g3.2.1
  obtain ⟨m, ms, PS, PT, PA, hh, _⟩ := ps_of hg1
  have hm0 : m = 0 := by
    split at g6
    · rename_i u hu
      have := od_fc g3 hu (z := Int32.ofNat 25) rfl g6 hh.1
      rw [(ty_ixn (k := 25) (by omega)).1, hh.2.2.2.2.1] at this
      have h0 : Int32.ofNat m = Int32.ofInt 0 := Value.int.inj (Option.some.inj this)
      have h1 : (Int32.ofNat m).toInt = 0 := by rw [h0]; rfl
      rw [Int32.toInt_ofNat_of_lt (by omega)] at h1
      omega
    · cases g6
  subst hm0
  obtain ⟨s1, s2⟩ := lk_st_ok g3 g5
  obtain ⟨d', L', st', H, e1, e2, e3, e4, e5⟩ := ho_fr_ok g3 g2
  subst e1
  have hd1 := e2.1
  have hd2 := e2.2
  dsimp only at hd1 hd2 hl hun hg1 hh
  have s1 : st'.length = 3 := s1
  have s2 : ∀ (k : Nat) (qs : List ty_V), [[((7, 0, 0) : ty_V)], [(7, 0, 0)], [(1, 64, 0)]][k]? = some qs → ∀ q ∈ qs, ∃ w : Value, st'[k]? = some w ∧ ho_sem σ' q w := s2
  obtain ⟨w0, p1, p2⟩ := s2 0 _ rfl _ List.mem_cons_self
  obtain ⟨w1, p3, p4⟩ := s2 1 _ rfl _ List.mem_cons_self
  obtain ⟨w2, p5, p6⟩ := s2 2 _ rfl _ List.mem_cons_self
  have p2 := ho_sem_c p2
  have p4 := ho_sem_c p4
  have p6 := ho_sem_ref p6
  subst p2 p4 p6
  have hst : st' = [.int (Int32.ofNat 0), .int (Int32.ofNat 0), .ref 64] := by
    match st', s1, p1, p3, p5 with
    | [a, b, c], _, p1, p3, p5 =>
      cases p1
      cases p3
      cases p5
      rfl
  obtain ⟨l0, q1, q2⟩ := e5 0 _ rfl _ List.mem_cons_self
  have q2 := ho_sem_ref q2
  subst q2
  have hL' : ∃ l1, L' = [.ref 64, l1] := by
    have e4 : L'.length = 2 := e4
    match L', e4, q1 with
    | [a, b], _, q1 =>
      cases q1
      exact ⟨b, rfl⟩
  obtain ⟨l1, rfl⟩ := hL'
  subst hst
  obtain ⟨h2, m2, ms2, PS2, PT2, PA2, r1, r2, r3, r4, r5, r6⟩ := me_ok (d := (d'.1 - 1, d'.2 - (0 + (4 + 11)))) (s := 0) (t := 0) (by omega) (by omega) (by omega) hg1 hh (v3 := .retAddr 0)
  have hm2 : m2 ≤ 1 := by have := r6.2.1; omega
  have hck2 : ck_2 m2 = true := List.all_eq_true.mp ck_2_ok m2 (List.mem_range.mpr (by omega))
  have hx25 := ty_ixn (k := 25) (by omega)
  obtain ⟨S2, σ2, c2, f1, f2, f3, f4⟩ := od_run (T := []) od_vnil rfl List.mem_cons_self hck2 (C := ck_2C m2) (d := d') (L := [.ref 64, l1]) (h := h2) ⟨e2, rfl, (fun n q hn hkd => by
    match n, hn with
    | 0, hn => cases hn; exact ⟨_, rfl, rfl⟩
    | 1, hn => cases hn; cases hkd
    | n + 2, hn => cases hn), r2, (fun q hq => by
    rw [List.mem_singleton.mp hq]
    exact ⟨_, Int32.ofNat m2, r5.1, hx25.2, by show ms2[(Int32.ofNat 25).toNatClampNeg]? = _; rw [hx25.1]; exact r5.2.2.2.2.1, by show (m2 : Int) ≤ _; rw [Int32.toInt_ofNat_of_lt (by omega)]; omega, by show _ ≤ (m2 : Int); rw [Int32.toInt_ofNat_of_lt (by omega)]; omega⟩)⟩
  simp only [Bool.and_eq_true] at f2
  obtain ⟨f2, f5, f6⟩ := f2
  have hl2 : c2.2.1.length = h2.length := ho_len f3 (by rw [ho_hd_mid f2]; rfl)
  have hun2 : ty_un [64] h2 c2.2.1 := f3.2.2.2.2.2.1
  have hg2 : ty_gok tc_g c2.2.1 := f3.2.1
  obtain ⟨ms3, x3, n1, n2, n3, n4, n5, n6, n7⟩ := ps_fld hg2
  have n25 : ms3[25]? = some (.int (Int32.ofNat m2)) := by
    split at f5
    · rename_i u hu
      have := od_fc f3 hu (z := Int32.ofNat 25) rfl f5 n1
      rw [hx25.1, ci] at this
      exact this
    · cases f5
  have n20 : ms3[20]? = some (.int 0) := by
    split at f6
    · rename_i u hu
      have := od_fc f3 hu (z := Int32.ofNat 20) rfl f6 n1
      rw [(ty_ixn (k := 20) (by omega)).1] at this
      exact this
    · cases f6
  have hh3 : hm_h c2.2.1 m2 ms3 PS2 PT2 PA2 := by
    obtain ⟨_, _, _, _, _, t83, t84, t85, t1, t2, t3⟩ := r5
    exact ⟨n1, n2, n3, n4, n25, hun2 83 (by decide) _ t83, hun2 84 (by decide) _ t84, hun2 85 (by decide) _ t85, t1, t2, t3⟩
  obtain ⟨d3, L3, H3, k1, k2, k3, k4⟩ := ho_hd_ok f3 f2
  subst k1
  obtain ⟨z0, i1, i2⟩ := k4 0 _ rfl _ List.mem_cons_self
  obtain ⟨z1, i3, i4⟩ := k4 1 _ rfl _ List.mem_cons_self
  have i2 := ho_sem_ref i2
  have i4 := ho_sem_c i4
  subst i2 i4
  have hL3 : L3 = [.ref 64, .int (Int32.ofNat 0)] := by
    have k3 : L3.length = 2 := k3
    match L3, k3, i1, i3 with
    | [a, b], _, i1, i3 =>
      cases i1
      cases i3
      rfl
  subst hL3
  obtain ⟨v, h4, o1, o2, o3, o4⟩ := ck_loop 7 0 rfl d3 H3 m2 ms3 PS2 PT2 PA2 k2 hg2 hh3 n20 (by omega) (by omega) (fun i j hij hj => by omega) (fun i hi => absurd hi (Nat.not_lt_zero _))
  have hE : am_Ev ((d, 175, 0, L, []), h, []) (.inl (some (.int v)), h4) := by
    refine g4 _ ?_
    refine hk_r2 (k := 176) (x := 245) (na := 3) (ml := 4) (args := [.int (Int32.ofNat 0), .int (Int32.ofNat 0), .ref 64]) (rest := []) rfl rfl rfl rfl rfl rfl (by omega) (by show 0 + (4 + 11) ≤ _; omega) rfl (lk_rcv rfl rfl hh.1) r1 _ ?_
    exact f4 _ o1
  have t0 : ty_un lk_mods h h := fun _ _ _ hx => hx
  have nb := ty_nb_full (σ := fun _ => 0) 0 v
  refine ⟨_, hE, o2, ty_un_tr (ty_un_tr (ty_un_tr (ty_un_tr t0 hun (by decide)) r4 (by decide)) hun2 (by decide)) o4 (fun _ hp => hp), Or.inl ?_, fun q hq => absurd hq List.not_mem_nil, od_I, List.mem_singleton.mpr rfl, v, rfl, nb.1, nb.2.1⟩
  show h4.length = h.length
  rw [o3]
  show H3.length = h.length
  rw [hl2, r3, hl]
end HKA
