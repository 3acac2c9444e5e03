/-! THE LAW: one call of the script, all roads -/
section LWB
def lw_ms : List Nat := (List.range 94).drop 2
def lw_C : ty_C := ((0, 33, [(1, 0, 0), (1, 2, 0), (1, 64, 0), (1, 93, 0), (0, 0, 2147483640), od_J, od_J], (9, 200)), ([(0, 0, 1)], [], lw_ms, [], []), [])
def lw_T : List ty_C := [tc_1, tc_3, tc_5, tc_221, tc_227, tc_228, tc_553, tc_555, tc_557, tc_256, tc_231, tc_232, tc_233, tc_272, tc_543, tc_544, tc_546, tc_550, tc_551, tc_552, ck_C]
theorem lw_vT : ty_vT tc_g lw_T := by
  intro C hC
  simp only [lw_T, List.mem_cons, List.not_mem_nil, or_false] at hC
  rcases hC with rfl | rfl | rfl | rfl | rfl | rfl | rfl | rfl | rfl | rfl | rfl | rfl | rfl | rfl | rfl | rfl | rfl | rfl | rfl | rfl | rfl
  · exact tm_ok _ tm_m1
  · exact tm_ok _ tm_m3
  · exact tm_ok _ tm_m5
  · exact tm_ok _ tm_m221
  · exact tm_ok _ tm_m227
  · exact tm_ok _ tm_m228
  · exact tm_ok _ tm_m553
  · exact tm_ok _ tm_m555
  · exact tm_ok _ tm_m557
  · exact tm_ok _ tm_m256
  · exact tm_ok _ tm_m231
  · exact tm_ok _ tm_m232
  · exact tm_ok _ tm_m233
  · exact tm_ok _ tm_m272
  · exact tm_ok _ tm_m543
  · exact tm_ok _ tm_m544
  · exact tm_ok _ tm_m546
  · exact tm_ok _ tm_m550
  · exact tm_ok _ tm_m551
  · exact tm_ok _ tm_m552
  · exact ck_ok
def lw_b (k : Int) : ty_B := (0, 2147483647, 5, k, 4)
def lw_iv : List ty_B := [ty_full, ty_full, ty_full, ty_full, (0, 2147483640, 0, 0, 4), ty_full, ty_full, lw_b 1, lw_b 2, lw_b 3, lw_b 4, lw_b 5, lw_b 6, ty_full, ty_full, ty_full, ty_full, ty_full, ty_full, ty_full]
def lw_F : ty_F := [(0, .retAddr 5, .retAddr 14), (0, .retAddr 8, .retAddr 15), (0, .retAddr 9, .retAddr 16), (0, .retAddr 10, .retAddr 17), (0, .retAddr 11, .retAddr 18), (0, .retAddr 12, .retAddr 19), (0, .retAddr 13, .retAddr 20)]
def lw_S : ty_S := (lw_iv, lw_F, ((9, 200), 0, 33, [.ref 0, .ref 2, .ref 64, .ref 93, .retAddr 5, .retAddr 0, .retAddr 0], []), [])
def lw_W : List (Nat × ty_C) := [(128, tc_559), (187, tc_560), (276, tc_561), (332, tc_554), (332, tc_556), (332, tc_558), (358, tc_562), (415, tc_563), (473, tc_564), (507, tc_565), (529, tc_566), (575, tc_567), (627, tc_568), (707, tc_569), (766, tc_570)]
theorem lw_vW : ∀ q ∈ lw_W, ∀ (d : Nat × Nat) (L : List Value) (h : am_H), ty_ar0 tc_g q.2 d L h → ty_vd tc_g q.2 d L h := by
  intro q hq
  simp only [lw_W, List.mem_cons, List.not_mem_nil, or_false] at hq
  rcases hq with rfl | rfl | rfl | rfl | rfl | rfl | rfl | rfl | rfl | rfl | rfl | rfl | rfl | rfl | rfl
  · exact tm_ok _ tm_m559
  · exact tm_ok _ tm_m560
  · exact tm_ok _ tm_m561
  · exact tm_ok _ tm_m554
  · exact tm_ok _ tm_m556
  · exact tm_ok _ tm_m558
  · exact tm_ok _ tm_m562
  · exact tm_ok _ tm_m563
  · exact tm_ok _ tm_m564
  · exact tm_ok _ tm_m565
  · exact tm_ok _ tm_m566
  · exact tm_ok _ tm_m567
  · exact tm_ok _ tm_m568
  · exact tm_ok _ tm_m569
  · exact tm_ok _ tm_m570
/-- a wrapper is called: what comes back -/
def lw_use (C : ty_C) (S : ty_S) : Option (List ty_S) := match S with
  | (iv, F, (d, mid, pc, L, st), K) => match am_code mid pc with
    | some (.invokestatic x) => match am_pm (am_oc mid) x with
      | some (0, k) => if Nat.beq C.1.1 k && (Nat.beq C.1.2.1 0 && (Nat.beq (am_kd k) 2 && (Nat.ble (am_na k) st.length && (Nat.ble 1 d.1 && (Nat.ble (am_wt (st.drop (am_na k)) + (am_ml k + 11)) d.2 && (sx_kvs (st.take (am_na k)) && (Nat.beq C.1.2.2.1.length (am_na k + (am_ml k - am_na k)) && (ty_fits iv C.1.2.2.1 (st.take (am_na k)).reverse && (Nat.ble C.1.2.2.2.1 (d.1 - 1) && (Nat.ble C.1.2.2.2.2 (d.2 - (am_wt (st.drop (am_na k)) + (am_ml k + 11))) && (C.2.1.2.1.isEmpty && (C.2.1.2.2.2.1.isEmpty && (C.2.1.2.2.2.2.isEmpty && (!C.2.1.1.isEmpty && (K.isEmpty && ty_sub C.2.1.2.2.1 lw_ms))))))))))))))) then
          ty_rets iv (ty_Fcuts F C.2.1.2.2.1) d mid (pc + 3) L (st.drop (am_na k)) K C.2.1.1 else none
      | _ => none
    | _ => none
theorem lw_use_ok {C C0 : ty_C} {l0 : Nat → Int32} {H0 : am_H} {σ : Nat → Int32} {S : ty_S} {c : am_G} {Ss : List ty_S} (hv : ∀ (d : Nat × Nat) (L : List Value) (h : am_H), ty_ar0 tc_g C d L h → ty_vd tc_g C d L h) (ho : ty_ho tc_g C0 l0 H0 σ S c) (hu : lw_use C S = some Ss) : ∃ S2 ∈ Ss, ∃ (σ2 : Nat → Int32) (c2 : am_G), ty_ho tc_g C0 l0 c2.2.1 σ2 S2 c2 ∧ ty_un lw_ms c.2.1 c2.2.1 ∧ (c2.2.1.length = c.2.1.length ∨ ty_gr c.2.1 c2.2.1) ∧ ∀ R : am_O × am_H, am_Ev c2 R → am_Ev c R := by
  obtain ⟨iv, F, ⟨d, mid, pc, L, st⟩, K⟩ := S
  obtain ⟨⟨d', mid', pc', L', st'⟩, H, K'⟩ := c
  obtain ⟨a1, a2, a3, ⟨k1, k2, k3, k4, k5⟩, a5, a6⟩ := ho
  dsimp only at a1 a2 a3 k1 k2 k3 k4 k5 a5 a6
  subst k2 k3 k5
  simp only [lw_use] at hu
  split at hu
  · rename_i x hi
    split at hu
    · rename_i k hpm
      rcases ty_ite hu with ⟨hq, hu⟩ | ⟨_, hu⟩
      · simp only [Bool.and_eq_true] at hq
        obtain ⟨q1, q2, q3, q4, q5, q6, q7, q8, q9, q10, q11, q12, q13, q14, q15, q16, q17⟩ := hq
        have e1 := Nat.eq_of_beq_eq_true q1
        have e2 := Nat.eq_of_beq_eq_true q2
        have e3 := Nat.eq_of_beq_eq_true q3
        have e8 := Nat.eq_of_beq_eq_true q8
        obtain rfl := List.isEmpty_iff.mp q16
        have hK : K' = [] := by
          cases K' with
          | nil => rfl
          | cons _ _ => exact a5.elim
        subst hK
        have e5 := sx_kvs_kns (σ := σ) _ q7
        have e6 : am_rcv k (((st.take (am_na k)).reverse).map (sx_v σ)) H = true := by
          unfold am_rcv
          rw [e3]
          rfl
        have hsmc : am_smc 2 d' mid' pc' L' (st.map (sx_v σ)) H [] (some (0, k)) = some (((d'.1 - 1, d'.2 - (am_wt (st.drop (am_na k)) + (am_ml k + 11))), k, 0, ((st.take (am_na k)).reverse ++ List.replicate (am_ml k - am_na k) (Value.retAddr 0)).map (sx_v σ), []), H, (d', mid', pc', L', (st.drop (am_na k)).map (sx_v σ)) :: []) := by
          simp only [am_smc, ← List.map_drop, ← List.map_take, ← List.map_reverse, sx_wt, List.length_map, q3, q4, mo_ble q5 k1.1, mo_ble q6 k1.2, e5, e6, Bool.and_true, if_true]
          simp [sx_v]
        have hd2 : mo_d (d.1 - 1, d.2 - (am_wt (st.drop (am_na k)) + (am_ml k + 11))) (d'.1 - 1, d'.2 - (am_wt (st.drop (am_na k)) + (am_ml k + 11))) := ⟨Nat.sub_le_sub_right k1.1 _, Nat.sub_le_sub_right k1.2 _⟩
        obtain ⟨⟨o, h'⟩, ⟨n, z, f1, f2⟩, g1, g2, g3⟩ := hv (d'.1 - 1, d'.2 - (am_wt (st.drop (am_na k)) + (am_ml k + 11))) (((st.take (am_na k)).reverse ++ List.replicate (am_ml k - am_na k) (Value.retAddr 0)).map (sx_v σ)) H ⟨⟨Nat.le_trans (Nat.le_of_ble_eq_true q10) hd2.1, Nat.le_trans (Nat.le_of_ble_eq_true q11) hd2.2⟩, by
          rw [e8, List.length_map, List.length_append, List.length_reverse, List.length_replicate, List.length_take, Nat.min_eq_left (Nat.le_of_ble_eq_true q4)], fun m s hm hs => by
          obtain ⟨v, v1, v2⟩ := ty_fits_ok a1.1 q9 m s hm hs
          refine ⟨sx_v σ v, ?_, v2⟩
          rw [List.getElem?_map, List.getElem?_append_left (List.getElem?_eq_some_iff.mp v1).1, v1]
          rfl, a2, fun q hq => by
          rw [List.isEmpty_iff.mp q13] at hq
          exact absurd hq List.not_mem_nil⟩
        have f2 : z = (o, h') := f2
        subst f2
        cases o with
        | inr X =>
          have g4 := g3.1
          rw [List.isEmpty_iff.mp q12] at g4
          exact absurd g4 List.not_mem_nil
        | inl v =>
          obtain ⟨y1, _, y3⟩ := g3
          cases v with
          | none =>
            have y3 : C.2.1.1 = [] := y3
            rw [y3] at q15
            cases q15
          | some w =>
            obtain ⟨s, s1, s2⟩ := y3
            have hFc : ty_Fok (ty_Fcuts F C.2.1.2.2.1) σ h' := ty_Fok_cuts a3 g2
            obtain ⟨S2, u1, σ2, u2⟩ := ty_rets_ok (C0 := C0) (H0 := h') (K' := []) (d' := d') (L' := L') a1 g1 hFc k1 k4 (show ty_Kr σ [] [] from trivial) ⟨fun _ _ _ hx => hx, Or.inl rfl⟩ s2 hu s1
            refine ⟨S2, u1, σ2, _, u2, ty_un_tr (ms := lw_ms) (fun _ _ _ hx => hx) g2 (ty_sub_ok q17), ?_, fun R hR => ?_⟩
            · rcases y1 with y1 | ⟨y1, _⟩
              · exact Or.inl y1
              · exact Or.inr y1
            · refine am_sm_ev (sx_sm_ctl hi rfl (by simp only [am_smt, hpm]; exact hsmc)) ⟨n, _, ?_, am_pop_end _ (.inl (some w)) h' _ _ rfl hR⟩
              rw [e1, e2] at f1
              exact f1
      · cases hu
    · cases hu
  · cases hu
def lw_find (S : ty_S) : List (Nat × ty_C) → Option (List ty_S)
  | [] => none
  | q :: r => if Nat.beq q.1 S.2.2.1.2.2.1 then (match lw_use q.2 S with
    | some Ss => some Ss
    | none => lw_find S r) else lw_find S r
theorem lw_find_ok {S : ty_S} {Ss : List ty_S} : ∀ {l : List (Nat × ty_C)}, lw_find S l = some Ss → ∃ q ∈ l, lw_use q.2 S = some Ss
  | [], h => by cases h
  | q :: r, h => by
    simp only [lw_find] at h
    rcases ty_ite h with ⟨_, h⟩ | ⟨_, h⟩
    · split at h
      · rename_i Sa ha
        cases h
        exact ⟨q, List.mem_cons_self, ha⟩
      · obtain ⟨p, p1, p2⟩ := lw_find_ok h
        exact ⟨p, List.mem_cons_of_mem _ p1, p2⟩
    · obtain ⟨p, p1, p2⟩ := lw_find_ok h
      exact ⟨p, List.mem_cons_of_mem _ p1, p2⟩
def lw_isW (S : ty_S) : Bool := S.2.2.2.isEmpty && (Nat.beq S.2.2.1.2.1 0 && lw_W.any (fun q => Nat.beq q.1 S.2.2.1.2.2.1))
def lw_hd : ty_S → Bool := ho_hd 0 23 9 200 [[(1, 0, 0)], [(1, 2, 0)], [(1, 64, 0)], [(1, 93, 0)], [(8, 5, 7)], [], []]
/-- wipe: below 0, 0 or 1, above -/
def lw_split (S : ty_S) : List ty_S := if Nat.beq S.2.2.1.2.2.1 332 then (match S.2.2.1.2.2.2.2 with
  | v :: _ => if (ty_bd S.1 v).isSome then ((ty_rf S.1 .lt v (.int 0)) ++ ((ty_rf S.1 .ge v (.int 0)).flatMap (fun w => ty_rf w .lt v (.int 2)) ++ ty_rf S.1 .ge v (.int 2))).map (fun w => (w, S.2)) else [S]
  | [] => [S]) else [S]
theorem lw_split_ok {C0 : ty_C} {l0 : Nat → Int32} {H0 : am_H} {σ : Nat → Int32} {S : ty_S} {c : am_G} (ho : ty_ho tc_g C0 l0 H0 σ S c) : ∃ S1 ∈ lw_split S, ty_ho tc_g C0 l0 H0 σ S1 c := by
  unfold lw_split
  split
  · split
    · rename_i v r hst
      split
      · rename_i hb
        obtain ⟨x, hx⟩ := ty_bs_ok ho.1.1 hb
        by_cases h1 : x < 0
        · obtain ⟨iv', m1, m2⟩ := ty_rf_iw (c := .lt) (w := .int 0) ho.1 hx rfl h1
          exact ⟨(iv', S.2), List.mem_map.mpr ⟨iv', List.mem_append_left _ m1, rfl⟩, m2, ho.2⟩
        · have h1' : (0 : Int32) ≤ x := Int32.not_lt.mp h1
          by_cases h2 : x < 2
          · obtain ⟨iv1, m1, m2⟩ := ty_rf_iw (c := .ge) (w := .int 0) ho.1 hx rfl h1'
            obtain ⟨iv2, m3, m4⟩ := ty_rf_iw (c := .lt) (w := .int 2) m2 hx rfl h2
            exact ⟨(iv2, S.2), List.mem_map.mpr ⟨iv2, List.mem_append_right _ (List.mem_append_left _ (List.mem_flatMap.mpr ⟨iv1, m1, m3⟩)), rfl⟩, m4, ho.2⟩
          · obtain ⟨iv', m1, m2⟩ := ty_rf_iw (c := .ge) (w := .int 2) ho.1 hx rfl (Int32.not_lt.mp h2)
            exact ⟨(iv', S.2), List.mem_map.mpr ⟨iv', List.mem_append_right _ (List.mem_append_right _ m1), rfl⟩, m2, ho.2⟩
      · exact ⟨S, List.mem_singleton.mpr rfl, ho⟩
    · exact ⟨S, List.mem_singleton.mpr rfl, ho⟩
  · exact ⟨S, List.mem_singleton.mpr rfl, ho⟩
def lw_cm : ty_S → Bool := ho_hd 0 666 9 200 [[(1, 0, 0)], [(1, 2, 0)], [(1, 64, 0)], [(1, 93, 0)], [(8, 5, 0)], [(0, (-2147483648), 2147483647)], [(0, (-2147483648), 2147483647)]]
def lw_st : ty_S → Bool := fun S => ho_pc 23 S || ho_pc 666 S
def lw_ch : ty_S → Bool := fun S => if ho_pc 23 S then lw_hd S else lw_cm S
def lw_go (S : ty_S) : Bool := (lw_split S).all (fun S1 => match lw_find S1 lw_W with
  | some Ss => Ss.all (fun S2 => ty_sg tc_g lw_T lw_C lw_st lw_ch 150 S2)
  | none => false)
def lw_all : Bool := ty_sg tc_g lw_T lw_C (fun S => lw_st S || lw_isW S) (fun S => if lw_st S then lw_ch S else lw_go S) 150 lw_S
set_option maxRecDepth 100000 in
theorem lw_all_ok : lw_all = true := by decide +kernel
end LWB
