/-! look, by hand -/
section HLB
theorem lk_st_ok {g : List ty_X} {C0 : ty_C} {l0 : Nat → Int32} {H0 : am_H} {σ : Nat → Int32} {fss : List (List ty_V)} {S : ty_S} {c : am_G} (ho : ty_ho g C0 l0 H0 σ S c) (hs : lk_st fss S = true) : c.1.2.2.2.2.length = fss.length ∧ ∀ (k : Nat) (qs : List ty_V), fss[k]? = some qs → ∀ q ∈ qs, ∃ w : Value, c.1.2.2.2.2[k]? = some w ∧ ho_sem σ q w := by
  obtain ⟨i1, i2⟩ := ho_ls_ok ho.1 hs
  have e := ho.2.2.2.1.2.2.2.2
  refine ⟨by rw [e, List.length_map, i1], fun k qs hk q hq => ?_⟩
  obtain ⟨v, v1, v2, _⟩ := i2 k qs hk q hq
  exact ⟨sx_v σ v, by rw [e, List.getElem?_map, v1]; rfl, v2⟩
theorem hk_r2 {d : Nat × Nat} {mid pc : Nat} {L : List Value} {h h' : am_H} {K : List am_K} {x k na ml : Nat} {v : Option Value} {args rest : List Value} (hi : am_code mid pc = some (.invokevirtual x)) (hpm : am_pm (am_oc mid) x = some (0, k)) (hkd : Nat.beq (am_kd k) 0 = true) (hna : am_na k = na) (hml : am_ml k = ml) (hal : args.length = na) (hd1 : 1 ≤ d.1) (hd2 : am_wt rest + (ml + 11) ≤ d.2) (hkn : am_kns args = true) (hrc : am_rcv k args.reverse h = true)
    (he : am_Ev (((d.1 - 1, d.2 - (am_wt rest + (ml + 11))), k, 0, args.reverse ++ List.replicate (ml - na) (.retAddr 0), []), h, []) (.inl v, h')) (R : am_O × am_H) (hR : am_Ev ((d, mid, pc + 3, L, v.toList ++ rest), h', K) R) : am_Ev ((d, mid, pc, L, args ++ rest), h, K) R := by
  have t1 : (args ++ rest).take (am_na k) = args := by rw [hna]; exact List.take_left' hal
  have t2 : (args ++ rest).drop (am_na k) = rest := by rw [hna]; exact List.drop_left' hal
  refine hk_real hi hpm hkd (by rw [hna, List.length_append]; omega) hd1 (by rw [t2, hml]; exact hd2) (by rw [t1]; exact hkn) (by rw [t1]; exact hrc) (v := v) (h' := h') ?_ R (by rw [t2]; exact hR)
  rw [t1, t2, hml, hna]
  exact he
theorem lk_rcv {k : Nat} {r : List Value} {h : am_H} {ms : List Value} (hk : am_kd k = 0) (ho : am_oc k = 9) (h64 : h[64]? = some (9, ms)) : am_rcv k (.ref 64 :: r) h = true := by
  unfold am_rcv
  rw [hk]
  simp only [h64, ho]
  rfl
def lk_mods : List Nat := [64, 69, 70, 71, 72, 73, 74, 75, 76, 77, 78, 79, 80, 81, 82, 83, 84, 85, 92]
theorem lk_ret {d : Nat × Nat} {pc : Nat} {L : List Value} {v : Int32} {h : am_H} (hi : am_code 177 pc = some .ireturn) : am_Ev ((d, 177, pc, L, [.int v]), h, []) (.inl (some (.int v)), h) := am_ev_ret hi rfl
/-- an end of look: heap as it was -/
theorem lk_re_ok {C0 : ty_C} {l0 : Nat → Int32} {H0 : am_H} {σ : Nat → Int32} {pc : Nat} {lo hi : Int} {S : ty_S} {c : am_G} (ho : ty_ho tc_g C0 l0 H0 σ S c) (hm : C0.2.1.2.2.1 = []) (hs : lk_re pc (0, lo, hi) S = true) (hi' : am_code 177 pc = some .ireturn) : ∃ v : Int32, am_Ev c (.inl (some (.int v)), H0) ∧ lo ≤ v.toInt ∧ v.toInt ≤ hi := by
  simp only [lk_re, Bool.and_eq_true] at hs
  have hh : c.2.1 = H0 := hc_none ho hm (by rw [ho_fr_mid hs.1]; rfl)
  obtain ⟨s1, s2⟩ := lk_st_ok ho hs.2
  obtain ⟨d', L', st', H, e1, e2, e3, e4, e5⟩ := ho_fr_ok ho hs.1
  subst e1
  have hh : H = H0 := hh
  subst hh
  obtain ⟨w, w1, w2⟩ := s2 0 _ rfl _ List.mem_cons_self
  obtain ⟨x, rfl, x1, x2⟩ := ho_sem_in w2
  have s1 : st'.length = 1 := s1
  have w1 : st'[0]? = some (.int x) := w1
  match st', s1, w1 with
  | [y], _, w1 =>
    cases w1
    exact ⟨x, lk_ret hi', x1, x2⟩
theorem lk_re0_ok {C0 : ty_C} {l0 : Nat → Int32} {H0 : am_H} {σ : Nat → Int32} {pc : Nat} {S : ty_S} {c : am_G} (ho : ty_ho tc_g C0 l0 H0 σ S c) (hm : C0.2.1.2.2.1 = []) (hs : lk_re pc (7, 0, 0) S = true) (hi' : am_code 177 pc = some .ireturn) : am_Ev c (.inl (some (.int 0)), H0) := by
  simp only [lk_re, Bool.and_eq_true] at hs
  have hh : c.2.1 = H0 := hc_none ho hm (by rw [ho_fr_mid hs.1]; rfl)
  obtain ⟨s1, s2⟩ := lk_st_ok ho hs.2
  obtain ⟨d', L', st', H, e1, e2, e3, e4, e5⟩ := ho_fr_ok ho hs.1
  subst e1
  have hh : H = H0 := hh
  subst hh
  obtain ⟨w, w1, w2⟩ := s2 0 _ rfl _ List.mem_cons_self
  have w2 := ho_sem_c w2
  subst w2
  have s1 : st'.length = 1 := s1
  have w1 : st'[0]? = some (.int (Int32.ofInt 0)) := w1
  match st', s1, w1 with
  | [y], _, w1 =>
    cases w1
    exact lk_ret hi'
theorem lk_nat {x : Int32} {hi : Nat} (h1 : 0 ≤ x.toInt) (h2 : x.toInt ≤ (hi : Int)) : ∃ n : Nat, n ≤ hi ∧ x = Int32.ofNat n := ⟨x.toInt.toNat, by omega, by rw [← Int32.ofInt_eq_ofNat, show ((x.toInt.toNat : Nat) : Int) = x.toInt by omega, Int32.ofInt_toInt]⟩
/-- a call of meet from look -/
theorem lk_me_ok {C0 : ty_C} {H0 : am_H} {P : List ty_P} {L0 : List Value} {σ : Nat → Int32} {pc s t m : Nat} {S : ty_S} {c : am_G} (ho : ty_ho tc_g C0 (ty_l00 3 L0 H0 P) H0 σ S c) (hn : 3 ≤ ty_n0 C0) (hm : C0.2.1.2.2.1 = []) (hL1 : L0[1]? = some (.int (Int32.ofNat s))) (hL2 : L0[2]? = some (.int (Int32.ofNat t))) (hs : s < 6) (ht : t < 6) (hck : lk_me pc S = true) (hi : am_code 177 pc = some (.invokevirtual 245)) (hmm : m ≤ 38) {ms PS PT PA : List Value} (hg : ty_gok tc_g H0) (hh : hm_h H0 m ms PS PT PA) :
    ∃ (d' : Nat × Nat) (h' : am_H) (m' : Nat) (ms' PS' PT' PA' : List Value), mo_d (5, 100) d' ∧ ty_gok tc_g h' ∧ h'.length = H0.length ∧ ty_un [64, 83, 84, 85] H0 h' ∧ hm_h h' m' ms' PS' PT' PA' ∧ ps_rel 1 m PS PT PA m' PS' PT' PA' ∧ ∀ R : am_O × am_H, am_Ev ((d', 177, pc + 3, [.ref 64, .int (Int32.ofNat s), .int (Int32.ofNat t)], []), h', []) R → am_Ev c R := by
  simp only [lk_me, Bool.and_eq_true] at hck
  have hh0 : c.2.1 = H0 := hc_none ho hm (by rw [ho_fr_mid hck.1]; rfl)
  obtain ⟨s1, s2⟩ := lk_st_ok ho hck.2
  obtain ⟨d', L', st', H, e1, e2, e3, e4, e5⟩ := ho_fr_ok ho hck.1
  subst e1
  have hh0 : H = H0 := hh0
  subst hh0
  have s1 : st'.length = 3 := s1
  have s2 : ∀ (k : Nat) (qs : List ty_V), [[((0, 0, 5) : ty_V)], [(0, 0, 5)], [(1, 64, 0)]][k]? = some qs → ∀ q ∈ qs, ∃ w : Value, st'[k]? = some w ∧ ho_sem σ q w := s2
  obtain ⟨w0, p1, p2⟩ := s2 0 _ rfl _ List.mem_cons_self
  obtain ⟨w1, p3, p4⟩ := s2 1 _ rfl _ List.mem_cons_self
  obtain ⟨w2, p5, p6⟩ := s2 2 _ rfl _ List.mem_cons_self
  obtain ⟨y, rfl, y1, y2⟩ := ho_sem_in p2
  obtain ⟨x, rfl, x1, x2⟩ := ho_sem_in p4
  have p6 := ho_sem_ref p6
  subst p6
  obtain ⟨ny, n1, rfl⟩ := lk_nat (hi := 5) y1 y2
  obtain ⟨nx, n2, rfl⟩ := lk_nat (hi := 5) x1 x2
  have hst : st' = [.int (Int32.ofNat ny), .int (Int32.ofNat nx), .ref 64] := by
    match st', s1, p1, p3, p5 with
    | [a, b, c], _, p1, p3, p5 =>
      cases p1
      cases p3
      cases p5
      rfl
  obtain ⟨l0, q1, q2⟩ := e5 0 _ rfl _ List.mem_cons_self
  obtain ⟨l1, q3, q4⟩ := e5 1 _ rfl _ List.mem_cons_self
  obtain ⟨l2, q5, q6⟩ := e5 2 _ rfl _ List.mem_cons_self
  have q2 := ho_sem_ref q2
  subst q2
  have hσ1 : σ 1 = Int32.ofNat s := by
    rw [ho.1.2.2.2 1 (by omega)]
    unfold ty_l00
    rw [if_pos (by omega)]
    simp only [ty_lv, hL1]
  have hσ2 : σ 2 = Int32.ofNat t := by
    rw [ho.1.2.2.2 2 (by omega)]
    unfold ty_l00
    rw [if_pos (by omega)]
    simp only [ty_lv, hL2]
  have hl1 : l1 = .int (Int32.ofNat s) := by
    obtain ⟨z, rfl, z1⟩ := ho_sem_or q4
    have z1 : z.toInt = (σ 1).toInt + 0 := z1
    rw [hσ1, Int.add_zero] at z1
    rw [Int32.toInt_inj.mp z1]
  have hl2 : l2 = .int (Int32.ofNat t) := by
    obtain ⟨z, rfl, z1⟩ := ho_sem_or q6
    have z1 : z.toInt = (σ 2).toInt + 0 := z1
    rw [hσ2, Int.add_zero] at z1
    rw [Int32.toInt_inj.mp z1]
  have hL' : L' = [.ref 64, .int (Int32.ofNat s), .int (Int32.ofNat t)] := by
    have e4 : L'.length = 3 := e4
    match L', e4, q1, q3, q5 with
    | [a, b, c], _, q1, q3, q5 =>
      cases q1
      cases q3
      cases q5
      rw [hl1, hl2]
      rfl
  subst hst hL'
  obtain ⟨h', m', ms', PS', PT', PA', r1, r2, r3, r4, r5, r6⟩ := me_ok (d := (d'.1 - 1, d'.2 - (0 + (4 + 11)))) (s := nx) (t := ny) (by omega) (by omega) hmm hg hh (v3 := .retAddr 0)
  refine ⟨d', h', m', ms', PS', PT', PA', e2, r2, r3, r4, r5, r6, fun R hR => ?_⟩
  have hd := e2.1
  have hd2 := e2.2
  dsimp only at hd hd2
  exact hk_r2 (k := 176) (na := 3) (ml := 4) (args := [.int (Int32.ofNat ny), .int (Int32.ofNat nx), .ref 64]) (rest := []) hi rfl rfl rfl rfl rfl (by omega) (by show 0 + (4 + 11) ≤ _; omega) rfl (lk_rcv rfl rfl hh.1) r1 R hR
/-- from the comparisons on -/
theorem lk_tail {d : Nat × Nat} {s t m : Nat} (hd : mo_d (5, 100) d) (hs : s < 6) (ht : t < 6) (hmm : m ≤ 36) {h : am_H} {ms PS PT PA : List Value} (hg : ty_gok tc_g h) (hh : hm_h h m ms PS PT PA) :
    ∃ (v : Int32) (h' : am_H) (m' : Nat) (ms' PS' PT' PA' : List Value), am_Ev ((d, 177, 30, [.ref 64, .int (Int32.ofNat s), .int (Int32.ofNat t)], []), h, []) (.inl (some (.int v)), h') ∧ ty_gok tc_g h' ∧ h'.length = h.length ∧ ty_un [64, 83, 84, 85] h h' ∧ hm_h h' m' ms' PS' PT' PA' ∧ 0 ≤ v.toInt ∧ v.toInt ≤ 4 ∧ ((1 ≤ v.toInt ∧ ps_rel 0 m PS PT PA m' PS' PT' PA') ∨ (v = 0 ∧ ps_rel 2 m PS PT PA m' PS' PT' PA')) := by
  have hT : ty_vT tc_g lk_T := fun C hC => by
    simp only [lk_T, List.mem_cons, List.not_mem_nil, or_false] at hC
    rcases hC with rfl | rfl | rfl
    · exact tm_ok _ tm_m265
    · exact tm_ok _ tm_m269
    · exact tm_ok _ tm_m270
  have ar : ∀ (pc : Nat) (d : Nat × Nat) (h : am_H), mo_d (5, 100) d → ty_gok tc_g h → ty_ar0 tc_g (lk_D pc) d [.ref 64, .int (Int32.ofNat s), .int (Int32.ofNat t)] h := by
    intro pc d h hd hg
    refine ⟨hd, rfl, fun k q hk hkd => ?_, hg, fun q hq => absurd hq List.not_mem_nil⟩
    match k, hk with
    | 0, hk => cases hk; exact ⟨_, rfl, rfl⟩
    | 1, hk => cases hk; exact ⟨_, rfl, ps_on (by omega) (by omega) (by omega)⟩
    | 2, hk => cases hk; exact ⟨_, rfl, ps_on (by omega) (by omega) (by omega)⟩
    | k + 3, hk => cases hk
  have rel0 := ps_rel.rf 0 m PS PT PA
  obtain ⟨S', σ', c', b1, b2, b3, b4⟩ := od_run hT rfl List.mem_cons_self lk4_ok (ar 30 d h hd hg)
  rcases ty_ite b2 with ⟨_, b2⟩ | ⟨_, b2⟩
  · obtain ⟨v, v1, v2, v3⟩ := lk_re_ok b3 rfl b2 rfl
    exact ⟨v, h, m, ms, PS, PT, PA, b4 _ v1, hg, rfl, fun _ _ _ hx => hx, hh, by omega, v3, Or.inl ⟨v2, rel0⟩⟩
  rcases ty_ite b2 with ⟨_, b2⟩ | ⟨_, b2⟩
  · obtain ⟨v, v1, v2, v3⟩ := lk_re_ok b3 rfl b2 rfl
    exact ⟨v, h, m, ms, PS, PT, PA, b4 _ v1, hg, rfl, fun _ _ _ hx => hx, hh, by omega, v3, Or.inl ⟨v2, rel0⟩⟩
  rcases ty_ite b2 with ⟨_, b2⟩ | ⟨_, b2⟩
  · obtain ⟨v, v1, v2, v3⟩ := lk_re_ok b3 rfl b2 rfl
    exact ⟨v, h, m, ms, PS, PT, PA, b4 _ v1, hg, rfl, fun _ _ _ hx => hx, hh, by omega, v3, Or.inl ⟨v2, rel0⟩⟩
  rcases ty_ite b2 with ⟨_, b2⟩ | ⟨_, b2⟩
  · obtain ⟨d1, h1, m1, ms1, PS1, PT1, PA1, e1, e2, e3, e4, e5, e6, e7⟩ := lk_me_ok b3 (by show 3 ≤ 3; omega) rfl rfl rfl hs ht b2 rfl (by omega) hg hh
    obtain ⟨S2, σ2, c2, f1, f2, f3, f4⟩ := od_run od_vnil rfl List.mem_cons_self lk5_ok (ar 93 d1 h1 e1 e2)
    rcases ty_ite f2 with ⟨_, f2⟩ | ⟨_, f2⟩
    · obtain ⟨d2, h2, m2, ms2, PS2, PT2, PA2, g1, g2, g3, g4, g5, g6, g7⟩ := lk_me_ok f3 (by show 3 ≤ 3; omega) rfl rfl rfl hs ht f2 rfl (by have := e6.2.1; omega) e2 e5
      refine ⟨0, h2, m2, ms2, PS2, PT2, PA2, b4 _ (e7 _ (f4 _ (g7 _ ?_))), g2, by rw [g3, e3], ty_un_tr e4 g4 (fun _ hp => hp), g5, by decide, by decide, Or.inr ⟨rfl, e6.tr g6⟩⟩
      refine am_sm_ev (sx_sm_step (i := .iconst 0) rfl rfl) ?_
      exact lk_ret rfl
    · exact ⟨0, h1, m1, ms1, PS1, PT1, PA1, b4 _ (e7 _ (f4 _ (lk_re0_ok f3 rfl f2 rfl))), e2, e3, e4, e5, by decide, by decide, Or.inr ⟨rfl, e6.wd (by omega)⟩⟩
  · exact ⟨0, h, m, ms, PS, PT, PA, b4 _ (lk_re0_ok b3 rfl b2 rfl), hg, rfl, fun _ _ _ hx => hx, hh, by decide, by decide, Or.inr ⟨rfl, ps_rel.rf _ _ _ _ _⟩⟩
theorem look_ok {d : Nat × Nat} {s t m : Nat} (hd : mo_d (5, 100) d) (hs : s < 6) (ht : t < 6) (hmm : m ≤ 36) {h : am_H} {ms PS PT PA : List Value} (hg : ty_gok tc_g h) (hh : hm_h h m ms PS PT PA) :
    ∃ (v : Int32) (h' : am_H) (m' : Nat) (ms' PS' PT' PA' : List Value), am_Ev ((d, 177, 0, [.ref 64, .int (Int32.ofNat s), .int (Int32.ofNat t)], []), h, []) (.inl (some (.int v)), h') ∧ ty_gok tc_g h' ∧ h'.length = h.length ∧ ty_un lk_mods h h' ∧ hm_h h' m' ms' PS' PT' PA' ∧ 0 ≤ v.toInt ∧ v.toInt ≤ 4 ∧ ((1 ≤ v.toInt ∧ ps_rel 0 m PS PT PA m' PS' PT' PA') ∨ (v = 0 ∧ PA[s]? = some (.int (Int32.ofNat t)) ∧ ps_rel 2 m PS PT PA m' PS' PT' PA')) := by
  have hck : lk1 s t = true := od_all2 lk1_ok hs ht
  have ci : ∀ n : Nat, Int32.ofInt (n : Int) = Int32.ofNat n := fun n => Int32.ofInt_eq_ofNat
  have ha : ty_ar0 tc_g (lk_C s t 0) d [.ref 64, .int (Int32.ofNat s), .int (Int32.ofNat t)] h := by
    refine ⟨hd, rfl, fun k q hk hkd => ?_, hg, fun q hq => absurd hq List.not_mem_nil⟩
    match k, hk with
    | 0, hk => cases hk; exact ⟨_, rfl, rfl⟩
    | 1, hk => cases hk; exact ⟨_, rfl, by show Value.int _ = .int _; rw [ci]⟩
    | 2, hk => cases hk; exact ⟨_, rfl, by show Value.int _ = .int _; rw [ci]⟩
    | k + 3, hk => cases hk
  obtain ⟨S', σ', c', b1, b2, b3, b4⟩ := od_run od_vnil rfl List.mem_cons_self hck ha
  rcases ty_ite b2 with ⟨_, b2⟩ | ⟨_, b2⟩
  · simp only [Bool.and_eq_true] at b2
    obtain ⟨b2, b5, b6⟩ := b2
    have hh0 : c'.2.1 = h := hc_none b3 rfl (by rw [ho_fr_mid b2]; rfl)
    have hPA : PA[s]? = some (.int (Int32.ofNat t)) := by
      split at b6
      · rename_i u hu
        have h85 : c'.2.1[85]? = some (32, PA) := by rw [hh0]; exact hh.2.2.2.2.2.2.2.1
        have := od_fc b3 hu (z := Int32.ofNat s) rfl b6 h85
        rw [(ty_ixn (k := s) (by omega)).1, ci] at this
        exact this
      · cases b6
    obtain ⟨s1, s2⟩ := lk_st_ok b3 b5
    obtain ⟨d', L', st', H, e1, e2, e3, e4, e5⟩ := ho_fr_ok b3 b2
    subst e1
    have hh0 : H = h := hh0
    subst hh0
    have s1 : st'.length = 1 := s1
    obtain ⟨w0, p1, p2⟩ := s2 0 _ rfl _ List.mem_cons_self
    have p2 := ho_sem_ref p2
    subst p2
    have p1 : st'[0]? = some (.ref 64) := p1
    have hst : st' = [.ref 64] := by
      match st', s1, p1 with
      | [a], _, p1 =>
        cases p1
        rfl
    obtain ⟨l0, q1, q2⟩ := e5 0 _ rfl _ List.mem_cons_self
    obtain ⟨l1, q3, q4⟩ := e5 1 _ rfl _ List.mem_cons_self
    obtain ⟨l2, q5, q6⟩ := e5 2 _ rfl _ List.mem_cons_self
    have q2 := ho_sem_ref q2
    have q4 := ho_sem_c q4
    have q6 := ho_sem_c q6
    rw [ci] at q4 q6
    have hL' : L' = [.ref 64, .int (Int32.ofNat s), .int (Int32.ofNat t)] := by
      have e4 : L'.length = 3 := e4
      match L', e4, q1, q3, q5 with
      | [a, b, c], _, q1, q3, q5 =>
        cases q1
        cases q3
        cases q5
        rw [q2, q4, q6]
        rfl
    subst hst hL'
    have hd1 := e2.1
    have hd2 := e2.2
    dsimp only at hd1 hd2
    -- begin
    obtain ⟨h1, g1, g2, g3, g4, g5, g6⟩ := lk_con (C := tc_275) tm_m275 rfl rfl rfl (by decide) (d := (d'.1 - 1, d'.2 - (0 + (4 + 11)))) (L := [.ref 64, .retAddr 0, .retAddr 0, .retAddr 0]) (h := H) ⟨⟨by show 1 ≤ d'.1 - 1; omega, by show 15 ≤ d'.2 - (0 + (4 + 11)); omega⟩, rfl, (fun k q hk hkd => by
      match k, hk with
      | 0, hk => cases hk; exact ⟨_, rfl, rfl⟩
      | 1, hk => cases hk; cases hkd
      | 2, hk => cases hk; cases hkd
      | 3, hk => cases hk; cases hkd
      | k + 4, hk => cases hk), hg, fun q hq => absurd hq List.not_mem_nil⟩
    obtain ⟨ms1, hh1⟩ := lk_keep g2 g3 (by decide) g6 hh
    -- the source
    obtain ⟨h2, i1, i2, i3, i4, i5, i6⟩ := lk_con (C := tc_426) tm_m426 rfl rfl rfl (by decide) (d := (d'.1 - 1, d'.2 - (0 + (7 + 11)))) (L := [.ref 64, .int (Int32.ofInt 0), .int (Int32.ofInt 0), .int (Int32.ofNat s), .retAddr 0, .retAddr 0, .retAddr 0]) (h := h1) ⟨⟨by show 4 ≤ d'.1 - 1; omega, by show 76 ≤ d'.2 - (0 + (7 + 11)); omega⟩, rfl, (fun k q hk hkd => by
      match k, hk with
      | 0, hk => cases hk; exact ⟨_, rfl, rfl⟩
      | 1, hk => cases hk; exact ⟨_, rfl, rfl⟩
      | 2, hk => cases hk; exact ⟨_, rfl, _, rfl, by decide, by decide⟩
      | 3, hk => cases hk; exact ⟨_, rfl, ps_on (by omega) (by omega) (by omega)⟩
      | 4, hk => cases hk; cases hkd
      | 5, hk => cases hk; cases hkd
      | 6, hk => cases hk; cases hkd
      | k + 7, hk => cases hk), g2, g5⟩
    obtain ⟨ms2, hh2⟩ := lk_keep i2 i3 (by decide) i6 hh1
    -- the target
    obtain ⟨h3, j1, j2, j3, j4, j5, j6⟩ := lk_con (C := tc_541) tm_m541 rfl rfl rfl (by decide) (d := (d'.1 - 1, d'.2 - (0 + (7 + 11)))) (L := [.ref 64, .int (Int32.ofInt 1), .int (Int32.ofInt 1), .int (Int32.ofNat t), .retAddr 0, .retAddr 0, .retAddr 0]) (h := h2) ⟨⟨by show 4 ≤ d'.1 - 1; omega, by show 76 ≤ d'.2 - (0 + (7 + 11)); omega⟩, rfl, (fun k q hk hkd => by
      match k, hk with
      | 0, hk => cases hk; exact ⟨_, rfl, rfl⟩
      | 1, hk => cases hk; exact ⟨_, rfl, rfl⟩
      | 2, hk => cases hk; exact ⟨_, rfl, _, rfl, by decide, by decide⟩
      | 3, hk => cases hk; exact ⟨_, rfl, ps_on (by omega) (by omega) (by omega)⟩
      | 4, hk => cases hk; cases hkd
      | 5, hk => cases hk; cases hkd
      | 6, hk => cases hk; cases hkd
      | k + 7, hk => cases hk), i2, i5⟩
    obtain ⟨ms3, hh3⟩ := lk_keep j2 j3 (by decide) j6 hh2
    obtain ⟨v, h4, m4, ms4, PS4, PT4, PA4, k1, k2, k3, k4, k5, k6, k7, k8⟩ := lk_tail (d := d') e2 hs ht hmm j2 hh3
    refine ⟨v, h4, m4, ms4, PS4, PT4, PA4, b4 _ ?_, k2, by rw [k3, j4, i4, g4], ?_, k5, k6, k7, ?_⟩
    · refine hk_r2 (k := 178) (x := 229) (na := 1) (ml := 4) (args := [.ref 64]) (rest := []) rfl rfl rfl rfl rfl rfl (by omega) (by show 0 + (4 + 11) ≤ _; omega) rfl (lk_rcv rfl rfl hh.1) g1 _ ?_
      refine am_sm_ev (sx_sm_step (i := .aload_n 0) rfl rfl) ?_
      refine am_sm_ev (sx_sm_step (i := .iconst 0) rfl rfl) ?_
      refine am_sm_ev (sx_sm_step (i := .iconst 0) rfl rfl) ?_
      refine am_sm_ev (sx_sm_step (i := .iload_n 1) rfl rfl) ?_
      refine hk_r2 (k := 180) (x := 232) (na := 4) (ml := 7) (args := [.int (Int32.ofNat s), .int (Int32.ofInt 0), .int (Int32.ofInt 0), .ref 64]) (rest := []) rfl rfl rfl rfl rfl rfl (by omega) (by show 0 + (7 + 11) ≤ _; omega) rfl (lk_rcv rfl rfl hh1.1) i1 _ ?_
      refine am_sm_ev (sx_sm_step (i := .aload_n 0) rfl rfl) ?_
      refine am_sm_ev (sx_sm_step (i := .iconst 1) rfl rfl) ?_
      refine am_sm_ev (sx_sm_step (i := .iconst 1) rfl rfl) ?_
      refine am_sm_ev (sx_sm_step (i := .iload_n 2) rfl rfl) ?_
      refine hk_r2 (k := 180) (x := 232) (na := 4) (ml := 7) (args := [.int (Int32.ofNat t), .int (Int32.ofInt 1), .int (Int32.ofInt 1), .ref 64]) (rest := []) rfl rfl rfl rfl rfl rfl (by omega) (by show 0 + (7 + 11) ≤ _; omega) rfl (lk_rcv rfl rfl hh2.1) j1 _ ?_
      exact k1
    · have t0 : ty_un lk_mods H H := fun _ _ _ hx => hx
      exact ty_un_tr (ty_un_tr (ty_un_tr (ty_un_tr t0 g3 (by decide)) i3 (by decide)) j3 (by decide)) k4 (by decide)
    · rcases k8 with k8 | k8
      · exact Or.inl k8
      · exact Or.inr ⟨k8.1, hPA, k8.2⟩
  · simp only [Bool.and_eq_true] at b2
    obtain ⟨v, v1, v2, v3⟩ := lk_re_ok (lo := 1) (hi := 4) b3 rfl (by simp only [lk_re, Bool.and_eq_true]; exact b2) rfl
    exact ⟨v, h, m, ms, PS, PT, PA, b4 _ v1, hg, rfl, fun _ _ _ hx => hx, hh, by omega, v3, Or.inl ⟨v2, ps_rel.rf _ _ _ _ _⟩⟩
end HLB
