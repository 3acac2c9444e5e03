/-! WRAPPERS OF THE LAW: what comes back, with asked and left indices -/
section LWD
def lw_ms : List Nat := (List.range 94).drop 2
/-- a wrapper is called: what comes back -/
def lw_use (C : ty_C) (S : ty_S) : Option (List ty_S) := match S with
  | (iv, F, (d, mid, pc, L, st), K) => match am_code mid pc with
    | some (.invokestatic x) => match am_pm (am_oc mid) x with
      | some (0, k) => if Nat.beq C.1.1 k && (Nat.beq C.1.2.1 0 && (Nat.beq (am_kd k) 2 && (Nat.ble (am_na k) st.length && (Nat.ble 1 d.1 && (Nat.ble (am_wt (st.drop (am_na k)) + (am_ml k + 11)) d.2 && (sx_kvs (st.take (am_na k)) && (Nat.beq C.1.2.2.1.length (am_na k + (am_ml k - am_na k)) && (ty_fits iv C.1.2.2.1 (st.take (am_na k)).reverse && (Nat.ble C.1.2.2.2.1 (d.1 - 1) && (Nat.ble C.1.2.2.2.2 (d.2 - (am_wt (st.drop (am_na k)) + (am_ml k + 11))) && (C.2.1.2.1.isEmpty && (ty_pre tc_g iv F C.2.1.2.2.2.1 && (ty_ws (iv, F, (d, mid, pc, L, st.drop (am_na k)), K) && (!C.2.1.1.isEmpty && (K.isEmpty && ty_sub C.2.1.2.2.1 lw_ms))))))))))))))) then
          ty_rets (ty_posts C.2.1.2.2.2.2 iv (ty_Fcuts F C.2.1.2.2.1)).1 (ty_posts C.2.1.2.2.2.2 iv (ty_Fcuts F C.2.1.2.2.1)).2 d mid (pc + 3) L (st.drop (am_na k)) K C.2.1.1 else none
      | _ => none
    | _ => none
theorem lw_use_ok {C C0 : ty_C} {l0 : Nat → Int32} {H0 : am_H} {σ : Nat → Int32} {S : ty_S} {c : am_G} {Ss : List ty_S} (hv : ∀ (d : Nat × Nat) (L : List Value) (h : am_H), ty_ar0 tc_g C d L h → ty_vd tc_g C d L h) (ho : ty_ho tc_g C0 l0 H0 σ S c) (hu : lw_use C S = some Ss) : ∃ S2 ∈ Ss, ∃ (σ2 : Nat → Int32) (c2 : am_G), ty_ho tc_g C0 l0 c2.2.1 σ2 S2 c2 ∧ ty_un lw_ms c.2.1 c2.2.1 ∧ (c2.2.1.length = c.2.1.length ∨ ty_gr c.2.1 c2.2.1) ∧ ∀ R : am_O × am_H, am_Ev c2 R → am_Ev c R := by
  obtain ⟨iv, F, ⟨d, mid, pc, L, st⟩, K⟩ := S
  obtain ⟨⟨d', mid', pc', L', st'⟩, H, K'⟩ := c
  obtain ⟨a1, a2, a3, ⟨k1, k2, k3, k4, k5⟩, a5, a6⟩ := ho
  dsimp only at a1 a2 a3 k1 k2 k3 k4 k5 a5 a6
  subst k2 k3 k5
  simp only [lw_use] at hu
  split at hu
  · rename_i x hi
    split at hu
    · rename_i k hpm
      rcases ty_ite hu with ⟨hq, hu⟩ | ⟨_, hu⟩
      · simp only [Bool.and_eq_true] at hq
        obtain ⟨q1, q2, q3, q4, q5, q6, q7, q8, q9, q10, q11, q12, q13, q14, q15, q16, q17⟩ := hq
        have e1 := Nat.eq_of_beq_eq_true q1
        have e2 := Nat.eq_of_beq_eq_true q2
        have e3 := Nat.eq_of_beq_eq_true q3
        have e8 := Nat.eq_of_beq_eq_true q8
        simp only [ty_ws, ty_wk, Bool.and_eq_true] at q14
        obtain ⟨v1, ⟨v2, v3⟩, v4⟩ := q14
        obtain rfl := List.isEmpty_iff.mp q16
        have hK : K' = [] := by
          cases K' with
          | nil => rfl
          | cons _ _ => exact a5.elim
        subst hK
        have e5 := sx_kvs_kns (σ := σ) _ q7
        have e6 : am_rcv k (((st.take (am_na k)).reverse).map (sx_v σ)) H = true := by
          unfold am_rcv
          rw [e3]
          rfl
        have hsmc : am_smc 2 d' mid' pc' L' (st.map (sx_v σ)) H [] (some (0, k)) = some (((d'.1 - 1, d'.2 - (am_wt (st.drop (am_na k)) + (am_ml k + 11))), k, 0, ((st.take (am_na k)).reverse ++ List.replicate (am_ml k - am_na k) (Value.retAddr 0)).map (sx_v σ), []), H, (d', mid', pc', L', (st.drop (am_na k)).map (sx_v σ)) :: []) := by
          simp only [am_smc, ← List.map_drop, ← List.map_take, ← List.map_reverse, sx_wt, List.length_map, q3, q4, mo_ble q5 k1.1, mo_ble q6 k1.2, e5, e6, Bool.and_true, if_true]
          simp [sx_v]
        have hd2 : mo_d (d.1 - 1, d.2 - (am_wt (st.drop (am_na k)) + (am_ml k + 11))) (d'.1 - 1, d'.2 - (am_wt (st.drop (am_na k)) + (am_ml k + 11))) := ⟨Nat.sub_le_sub_right k1.1 _, Nat.sub_le_sub_right k1.2 _⟩
        obtain ⟨⟨o, h'⟩, ⟨n, z, f1, f2⟩, g1, g2, g3⟩ := hv (d'.1 - 1, d'.2 - (am_wt (st.drop (am_na k)) + (am_ml k + 11))) (((st.take (am_na k)).reverse ++ List.replicate (am_ml k - am_na k) (Value.retAddr 0)).map (sx_v σ)) H ⟨⟨Nat.le_trans (Nat.le_of_ble_eq_true q10) hd2.1, Nat.le_trans (Nat.le_of_ble_eq_true q11) hd2.2⟩, by
          rw [e8, List.length_map, List.length_append, List.length_reverse, List.length_replicate, List.length_take, Nat.min_eq_left (Nat.le_of_ble_eq_true q4)], (fun m s hm hs => by
          obtain ⟨v, v1, v2⟩ := ty_fits_ok a1.1 q9 m s hm hs
          refine ⟨sx_v σ v, ?_, v2⟩
          rw [List.getElem?_map, List.getElem?_append_left (List.getElem?_eq_some_iff.mp v1).1, v1]
          rfl), a2, ty_pre_ok a1.1 a2 a3 q13⟩
        have f2 : z = (o, h') := f2
        subst f2
        cases o with
        | inr X =>
          have g4 := g3.1
          rw [List.isEmpty_iff.mp q12] at g4
          exact absurd g4 List.not_mem_nil
        | inl v =>
          obtain ⟨y1, y2, y3⟩ := g3
          cases v with
          | none =>
            have y3 : C.2.1.1 = [] := y3
            rw [y3] at q15
            cases q15
          | some w =>
            obtain ⟨s, s1, s2⟩ := y3
            have hFc : ty_Fok (ty_Fcuts F C.2.1.2.2.1) σ h' := ty_Fok_cuts a3 g2
            obtain ⟨σ1, t1, t2, t3, t4⟩ := ty_posts_ok (h := h') C.2.1.2.2.2.2 iv (ty_Fcuts F C.2.1.2.2.1) σ a1 hFc (ty_wF_cuts v1) y2
            have hL1 : mo_j (L.map (sx_v σ1)) L' := by rw [ty_wl_ag t1 _ v2]; exact k4
            have er : (st.drop (am_na k)).map (sx_v σ1) = (st.drop (am_na k)).map (sx_v σ) := ty_wl_ag t1 _ v3
            obtain ⟨S2, u1, σ2, u2⟩ := ty_rets_ok (C0 := C0) (H0 := h') (K' := []) (d' := d') (L' := L') t2 g1 t3 k1 hL1 (show ty_Kr σ1 [] [] from trivial) ⟨fun _ _ _ hx => hx, Or.inl rfl⟩ s2 hu s1
            rw [er] at u2
            refine ⟨S2, u1, σ2, _, u2, ty_un_tr (ms := lw_ms) (fun _ _ _ hx => hx) g2 (ty_sub_ok q17), ?_, fun R hR => ?_⟩
            · rcases y1 with y1 | ⟨y1, _⟩
              · exact Or.inl y1
              · exact Or.inr y1
            · refine am_sm_ev (sx_sm_ctl hi rfl (by simp only [am_smt, hpm]; exact hsmc)) ⟨n, _, ?_, am_pop_end _ (.inl (some w)) h' _ _ rfl hR⟩
              rw [e1, e2] at f1
              exact f1
      · cases hu
    · cases hu
  · cases hu
def lw_find (S : ty_S) : List (Nat × ty_C) → Option (List ty_S)
  | [] => none
  | q :: r => if Nat.beq q.1 S.2.2.1.2.2.1 then (match lw_use q.2 S with
    | some Ss => some Ss
    | none => lw_find S r) else lw_find S r
theorem lw_find_ok {S : ty_S} {Ss : List ty_S} : ∀ {l : List (Nat × ty_C)}, lw_find S l = some Ss → ∃ q ∈ l, lw_use q.2 S = some Ss
  | [], h => by cases h
  | q :: r, h => by
    simp only [lw_find] at h
    rcases ty_ite h with ⟨_, h⟩ | ⟨_, h⟩
    · split at h
      · rename_i Sa ha
        cases h
        exact ⟨q, List.mem_cons_self, ha⟩
      · obtain ⟨p, p1, p2⟩ := lw_find_ok h
        exact ⟨p, List.mem_cons_of_mem _ p1, p2⟩
    · obtain ⟨p, p1, p2⟩ := lw_find_ok h
      exact ⟨p, List.mem_cons_of_mem _ p1, p2⟩
end LWD
