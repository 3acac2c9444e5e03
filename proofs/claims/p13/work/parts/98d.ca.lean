/-! ENDS, THROWS, CALLS -/
section TYG
variable {σ : Nat → Int32} {g : List ty_X} {T : List ty_C} {C0 : ty_C} {l0 : Nat → Int32} {H0 : am_H}
theorem ty_ret_ok {iv : List ty_B} {F : ty_F} {d : Nat × Nat} {mid pc : Nat} {L st : List Value} {K : List am_K} {c : am_G} {Ss : List ty_S} {v : Option Value}
    (ho : ty_ho g C0 l0 H0 σ (iv, F, (d, mid, pc, L, st), K) c) (hmid : K = [] → mid = C0.1.1)
    (hE : ∀ r : am_O × am_H, am_end c.2.2 (.inl (v.map (sx_v σ)), c.2.1) r → am_Ev c r) (hr : ty_ret g C0 iv F v K = some Ss) : ty_go g C0 l0 H0 c Ss := by
  obtain ⟨⟨d', mid', pc', L', st'⟩, H, K'⟩ := c
  obtain ⟨a1, a2, a3, a4, a5, a6⟩ := ho
  dsimp only at a1 a2 a3 a5 a6 hE
  cases K with
  | nil =>
    cases K' with
    | cons q' K' => exact a5.elim
    | nil =>
      simp only [ty_ret] at hr
      split at hr
      · rename_i hpre
        have hposts := ty_pre_ok a1.1 a2 a3 hpre
        have hgr : H.length = H0.length ∨ (ty_gr H0 H ∧ (am_hs C0.1.1).isEmpty = false) := by
          rcases a6.2 with q | ⟨q1, _, _, q2⟩
          · exact Or.inl q
          · exact Or.inr ⟨q1, by rw [← hmid rfl]; exact q2⟩
        refine Or.inl ⟨(.inl (v.map (sx_v σ)), H), hE _ rfl, a2, a6.1, hgr, hposts, ?_⟩
        cases v with
        | none =>
          dsimp only at hr
          split at hr
          · rename_i hz
            exact List.isEmpty_iff.mp hz
          · cases hr
        | some w =>
          dsimp only at hr
          split at hr
          · rename_i hz
            obtain ⟨s, hs1, hs2⟩ := List.any_eq_true.mp hz
            exact ⟨s, hs1, ty_fit_ok a1.1 hs2⟩
          · cases hr
      · cases hr
  | cons q K =>
    cases K' with
    | nil => exact a5.elim
    | cons q' K' =>
      obtain ⟨⟨b1, b2, b3, b4, b5⟩, hK⟩ := a5
      simp only [ty_ret, Option.some.injEq] at hr
      subst hr
      refine Or.inr ⟨_, List.mem_singleton.mpr rfl, σ, ((q'.1, q'.2.1, q'.2.2.1 + 3, q'.2.2.2.1, (v.map (sx_v σ)).toList ++ q'.2.2.2.2), H, K'), ⟨a1, a2, a3, ⟨b1, b2, ?_, b4, ?_⟩, hK, a6.1, ?_⟩, fun r hr => hE r (am_pop_end _ _ _ _ _ rfl hr)⟩
      · show q'.2.2.1 + 3 = q.2.2.1 + 3
        rw [b3]
      · show _ ++ q'.2.2.2.2 = _
        rw [b5]
        cases v <;> simp
      · rcases a6.2 with q1 | ⟨_, _, q1, _⟩
        · exact Or.inl q1
        · cases q1
theorem ty_thr_ok {ex : List Nat} {iv : List ty_B} {F : ty_F} {X : Nat} {h : am_H} (a1 : ty_iw (ty_n0 C0) l0 iv σ) (a2 : ty_gok g h) (a3 : ty_Fok F σ h) (hu : ty_un C0.2.1.2.2.1 H0 h) (hgr : ty_gr H0 h) : ∀ (K K' : List am_K) (q q' : am_K) (Ss : List ty_S), ty_thr ex iv F X q K = some Ss → ty_kr σ q q' → ty_Kr σ K K' →
    (∃ S ∈ Ss, ∃ c' : am_G, ty_ho g C0 l0 H0 σ S c' ∧ ∀ r : am_O × am_H, am_Ev c' r → am_end (q' :: K') (.inr X, h) r) ∨ (X ∈ ex ∧ am_end (q' :: K') (.inr X, h) (.inr X, h)) := by
  intro K
  induction K with
  | nil =>
    intro K' q q' Ss ht hk hK
    cases K' with
    | cons _ _ => exact hK.elim
    | nil =>
      obtain ⟨b1, b2, b3, b4, b5⟩ := hk
      unfold ty_thr at ht
      cases hq : am_hdl (am_hs q.2.1) q.2.2.1 X with
      | some z =>
        rw [hq] at ht
        dsimp only at ht
        have hne : (am_hs q.2.1).isEmpty = false := by
          cases he : am_hs q.2.1 with
          | nil => rw [he] at hq; cases hq
          | cons _ _ => rfl
        have hlen := b4.1
        rw [List.length_map] at hlen
        split at ht
        · rename_i k hcd
          split at ht
          · rename_i hkl
            simp only [Bool.and_eq_true, Nat.blt_eq] at hkl
            cases ht
            refine Or.inl ⟨_, List.mem_singleton.mpr rfl, ((q'.1, q'.2.1, z + 1, q'.2.2.2.1.set (k : Nat) (.ref (h.length - 1)), []), h, []), ⟨a1, a2, a3, ⟨⟨Nat.zero_le _, Nat.zero_le _⟩, b2, rfl, ?_, rfl⟩, trivial, hu, Or.inr ⟨hgr, rfl, rfl, hne⟩⟩, fun r hr => ?_⟩
            · show mo_j ((q.2.2.2.1.set (k : Nat) (.retAddr 0)).map (sx_v σ)) _
              rw [List.map_set]
              exact b4.jk _ rfl _
            · refine am_pop_end _ _ _ ((q'.1, q'.2.1, z, q'.2.2.2.1, [.ref (h.length - 1)]), h, []) _ (by simp only [am_pop, b2, b3, hq]) (am_sm_ev ?_ hr)
              refine sx_sm_step (i := .astore_n k) (by rw [b2]; exact hcd) ?_
              simp only [am_step]
              rw [if_pos (by rw [Nat.blt_eq, ← hlen]; exact hkl.2)]
          · cases ht
        · rename_i k hcd
          split at ht
          · rename_i hkl
            simp only [Bool.and_eq_true, Nat.blt_eq] at hkl
            cases ht
            refine Or.inl ⟨_, List.mem_singleton.mpr rfl, ((q'.1, q'.2.1, z + 2, q'.2.2.2.1.set k (.ref (h.length - 1)), []), h, []), ⟨a1, a2, a3, ⟨⟨Nat.zero_le _, Nat.zero_le _⟩, b2, rfl, ?_, rfl⟩, trivial, hu, Or.inr ⟨hgr, rfl, rfl, hne⟩⟩, fun r hr => ?_⟩
            · show mo_j ((q.2.2.2.1.set k (.retAddr 0)).map (sx_v σ)) _
              rw [List.map_set]
              exact b4.jk _ rfl _
            · refine am_pop_end _ _ _ ((q'.1, q'.2.1, z, q'.2.2.2.1, [.ref (h.length - 1)]), h, []) _ (by simp only [am_pop, b2, b3, hq]) (am_sm_ev ?_ hr)
              refine sx_sm_step (i := .astore k) (by rw [b2]; exact hcd) ?_
              simp only [am_step]
              rw [if_pos (by rw [Nat.blt_eq, ← hlen]; exact hkl.2)]
          · cases ht
        · cases ht
      | none =>
        rw [hq] at ht
        dsimp only at ht
        split at ht
        · cases ht
        · rename_i hc
          split at ht
          · rename_i hx
            refine Or.inr ⟨by simpa using hx, 0, (.inr X, h), ?_, rfl⟩
            simp only [am_back, b2, b3, hq]
            exact if_neg hc
          · cases ht
  | cons q2 K2 ih =>
    intro K' q q' Ss ht hk hK
    cases K' with
    | nil => exact hK.elim
    | cons q2' K2' =>
      obtain ⟨b1, b2, b3, b4, b5⟩ := hk
      unfold ty_thr at ht
      cases hq : am_hdl (am_hs q.2.1) q.2.2.1 X with
      | some z =>
        rw [hq] at ht
        dsimp only at ht
        split at ht
        · split at ht
          · rename_i hkl
            simp at hkl
          · cases ht
        · split at ht
          · rename_i hkl
            simp at hkl
          · cases ht
        · cases ht
      | none =>
        rw [hq] at ht
        dsimp only at ht
        split at ht
        · cases ht
        · rename_i hc
          have hb : am_back (am_run 0) q'.1 q'.2.1 q'.2.2.1 q'.2.2.2.1 q'.2.2.2.2 (some (.inr X, h)) = some (.inr X, h) := by
            simp only [am_back, b2, b3, hq]
            exact if_neg hc
          rcases ih K2' q2 q2' Ss ht hK.1 hK.2 with ⟨S, s1, c', s2, s3⟩ | ⟨s1, s2⟩
          · exact Or.inl ⟨S, s1, c', s2, fun r hr => ⟨0, _, hb, s3 r hr⟩⟩
          · exact Or.inr ⟨s1, 0, _, hb, s2⟩
theorem ty_thrs_mem {ex : List Nat} {iv : List ty_B} {F : ty_F} {q : am_K} {K : List am_K} : ∀ {Xs : List Nat} {Ss : List ty_S}, ty_thrs ex iv F q K Xs = some Ss → ∀ X ∈ Xs, ∃ Sa : List ty_S, ty_thr ex iv F X q K = some Sa ∧ ∀ S ∈ Sa, S ∈ Ss
  | [], _, _, X, hX => absurd hX List.not_mem_nil
  | Y :: Xs, Ss, h, X, hX => by
    simp only [ty_thrs] at h
    split at h
    · rename_i a b h1 h2
      cases h
      rcases List.mem_cons.mp hX with rfl | hX
      · exact ⟨a, h1, fun S hS => List.mem_append_left _ hS⟩
      · obtain ⟨Sa, e1, e2⟩ := ty_thrs_mem h2 X hX
        exact ⟨Sa, e1, fun S hS => List.mem_append_right _ (e2 S hS)⟩
    · cases h
theorem ty_rets_ok {iv : List ty_B} {F : ty_F} {d : Nat × Nat} {mid pc : Nat} {L r : List Value} {K K' : List am_K} {h : am_H} {d' : Nat × Nat} {L' : List Value} (a1 : ty_iw (ty_n0 C0) l0 iv σ) (a2 : ty_gok g h) (a3 : ty_Fok F σ h) (hd : mo_d d d') (hL : mo_j (L.map (sx_v σ)) L') (hK : ty_Kr σ K K') (hh : ty_hh C0.2.1.2.2.1 H0 h d mid K) {s : ty_V} {w : Value} (hw : ty_vok s w) : ∀ {ss : List ty_V} {Ss : List ty_S}, ty_rets iv F d mid pc L r K ss = some Ss → s ∈ ss → ∃ S ∈ Ss, ∃ σ' : Nat → Int32, ty_ho g C0 l0 H0 σ' S ((d', mid, pc, L', w :: r.map (sx_v σ)), h, K')
  | [], _, _, hs => absurd hs List.not_mem_nil
  | s1 :: ss, Ss, hr, hs => by
    simp only [ty_rets] at hr
    split at hr
    · rename_i a b h1 h2
      cases hr
      rcases List.mem_cons.mp hs with rfl | hs
      · split at h1
        · rename_i h0
          unfold ty_vok at hw
          rw [h0] at hw
          obtain ⟨x, rfl, w1, w2⟩ := hw
          unfold ty_push at h1
          split at h1
          · rename_i hws
            cases h1
            simp only [ty_ws, ty_wk, Bool.and_eq_true] at hws
            obtain ⟨v1, ⟨v2, v3⟩, v4⟩ := hws
            have ag := ty_up_ag (σ := σ) iv.length x
            refine ⟨_, List.mem_append_left _ (List.mem_singleton.mpr rfl), ty_up σ iv.length x, ty_iw_push a1 (ty_nb_bd _ w1 w2), a2, ty_wF_ag ag v1 a3, ⟨hd, rfl, rfl, ?_, ?_⟩, ty_Kr_ag ag v4 hK, hh⟩
            · show mo_j (L.map (sx_v (ty_up σ iv.length x))) L'
              rw [ty_wl_ag ag _ v2]
              exact hL
            · show _ = List.map _ (_ :: r)
              simp only [List.map_cons, sx_v, ty_up_at, ty_wl_ag ag _ v3]
          · cases h1
        · rename_i h0
          unfold ty_vok at hw
          rw [h0] at hw
          cases h1
          exact ⟨_, List.mem_append_left _ (List.mem_singleton.mpr rfl), σ, a1, a2, a3, ⟨hd, rfl, rfl, hL, by rw [hw]; rfl⟩, hK, hh⟩
        · cases h1
      · obtain ⟨S, e1, e2⟩ := ty_rets_ok a1 a2 a3 hd hL hK hh hw h2 hs
        exact ⟨S, List.mem_append_right _ e1, e2⟩
    · cases hr
theorem ty_fits_ok {iv : List ty_B} (hiv : ty_ivok iv σ) : ∀ {ss : List ty_V} {vs : List Value}, ty_fits iv ss vs = true → ∀ (k : Nat) (s : ty_V), ss[k]? = some s → ty_kd s.1 = true → ∃ v : Value, vs[k]? = some v ∧ ty_vok s (sx_v σ v)
  | [], _, _, k, s, hk, _ => by simp at hk
  | s1 :: ss, [], h, k, s, hk, hs => by
    simp only [ty_fits, Bool.and_eq_true] at h
    cases k with
    | zero =>
      simp only [List.getElem?_cons_zero, Option.some.injEq] at hk
      subst hk
      rw [Nat.eq_of_beq_eq_true h.1] at hs
      cases hs
    | succ k =>
      rw [List.getElem?_cons_succ] at hk
      obtain ⟨v, e, _⟩ := ty_fits_ok hiv h.2 k s hk hs
      simp at e
  | s1 :: ss, v :: vs, h, k, s, hk, hs => by
    simp only [ty_fits, Bool.and_eq_true] at h
    cases k with
    | zero =>
      simp only [List.getElem?_cons_zero, Option.some.injEq] at hk
      subst hk
      exact ⟨v, rfl, ty_fit_ok hiv h.1⟩
    | succ k =>
      rw [List.getElem?_cons_succ] at hk ⊢
      exact ty_fits_ok hiv h.2 k s hk hs
theorem ty_ite {b : Bool} {α : Type} {x y z : α} (h : (if b = true then x else y) = z) : (b = true ∧ x = z) ∨ (b = false ∧ y = z) := by
  cases b with
  | true => exact Or.inl ⟨rfl, h⟩
  | false => exact Or.inr ⟨rfl, h⟩
theorem ty_find_ok {iv : List ty_B} {F : ty_F} {k rank : Nat} {d : Nat × Nat} {as : List Value} {C : ty_C} : ∀ {T : List ty_C}, ty_find g iv F k rank d as T = some C → C ∈ T ∧ C.1.1 = k ∧ C.1.2.1 = 0 ∧ C.1.2.2.1.length = am_na k + (am_ml k - am_na k) ∧ ty_fits iv C.1.2.2.1 as = true ∧ mo_d C.1.2.2.2 d ∧ ∃ (n : Nat) (r : List (Nat × Nat)), C.2.2 = (0, n) :: r ∧ n < rank
  | [], h => by cases h
  | C1 :: T, h => by
    simp only [ty_find] at h
    rcases ty_ite h with ⟨hq, h⟩ | ⟨_, h⟩
    · cases h
      simp only [Bool.and_eq_true] at hq
      obtain ⟨h1, h2, h3, h4, h5, h6, _, h7⟩ := hq
      refine ⟨List.mem_cons_self, Nat.eq_of_beq_eq_true h1, Nat.eq_of_beq_eq_true h2, Nat.eq_of_beq_eq_true h3, h4, ⟨Nat.le_of_ble_eq_true h5, Nat.le_of_ble_eq_true h6⟩, ?_⟩
      split at h7
      · rename_i n r hn
        exact ⟨n, r, hn, by simpa [Nat.blt_eq] using h7⟩
      · cases h7
    · obtain ⟨e1, e2⟩ := ty_find_ok h
      exact ⟨List.mem_cons_of_mem _ e1, e2⟩
theorem ty_rcv_ok {k : Nat} {as : List Value} {h : am_H} (hg : ty_gok g h) (hr : ty_rcv g k as = true) : am_rcv k (as.map (sx_v σ)) h = true := by
  unfold ty_rcv at hr
  unfold am_rcv
  split at hr
  · rename_i he
    simp [he]
  · rename_i he
    split at hr
    · rename_i a r
      split at hr
      · rename_i tg len ss hq
        simp only [Bool.and_eq_true, Nat.blt_eq] at hr
        obtain ⟨x, h1, h2⟩ := hg a _ hq
        have hz := ty_lt_one hr.2
        rw [ty_cok_obj hz.1 hz.2] at h2
        have h3 : x.1 = tg := h2.1
        simp [sx_v, h1, h3, hr.1]
      · cases hr
    · cases hr
theorem ty_wF_cuts {n : Nat} {m : List Nat} : ∀ {F : ty_F}, ty_wF n F = true → ty_wF n (ty_Fcuts F m) = true
  | [], _ => rfl
  | q :: r, h => by
    simp only [ty_wF, Bool.and_eq_true] at h
    simp only [ty_Fcuts]
    split
    · exact ty_wF_cuts h.2.2
    · simp only [ty_wF, Bool.and_eq_true]
      exact ⟨h.1, h.2.1, ty_wF_cuts h.2.2⟩
end TYG
