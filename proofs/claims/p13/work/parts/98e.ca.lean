/-! CALLS: by contract, walked, and arraycopy -/
section TYH
variable {σ : Nat → Int32} {g : List ty_X} {T : List ty_C} {C0 : ty_C} {l0 : Nat → Int32} {H0 : am_H}
/-- what is known of the contracts below a rank -/
def ty_IH (g : List ty_X) (T : List ty_C) (rank : Nat) : Prop := ∀ C ∈ T, (∃ (n : Nat) (r : List (Nat × Nat)), C.2.2 = (0, n) :: r ∧ n < rank) → ∀ (d : Nat × Nat) (L : List Value) (h : am_H), ty_ar0 g C d L h → ty_vd g C d L h
theorem ty_use_ok {iv : List ty_B} {F : ty_F} {d d' : Nat × Nat} {mid pc : Nat} {L L' r : List Value} {K K' : List am_K} {H : am_H} {C : ty_C} {c : am_G} {Ss : List ty_S}
    (a1 : ty_iw (ty_n0 C0) l0 iv σ) (a3 : ty_Fok F σ H) (hd : mo_d d d') (hL : mo_j (L.map (sx_v σ)) L') (hK : ty_Kr σ K K') (hu : ty_un C0.2.1.2.2.1 H0 H) (hlen : H.length = H0.length)
    (hu2 : ty_use g C0 C iv F d mid pc L r K = some Ss) {x : am_O × am_H} (hx : ty_rs g C H x) (hE : ∀ R : am_O × am_H, am_end ((d', mid, pc, L', r.map (sx_v σ)) :: K') x R → am_Ev c R) : ty_go g C0 l0 H0 c Ss := by
  unfold ty_use at hu2
  rcases ty_ite hu2 with ⟨hq, hu2⟩ | ⟨_, hu2⟩
  · simp only [Bool.and_eq_true] at hq
    obtain ⟨q1, q2, q3, q4⟩ := hq
    have hsub := ty_sub_ok q2
    simp only [ty_ws, ty_wk, Bool.and_eq_true] at q4
    obtain ⟨v1, ⟨v2, v3⟩, v4⟩ := q4
    obtain ⟨o, h'⟩ := x
    obtain ⟨x1, x2, x3⟩ := hx
    dsimp only at x1 x2 x3
    have hFc : ty_Fok (ty_Fcuts F C.2.1.2.2.1) σ h' := ty_Fok_cuts a3 x2
    have hun : ty_un C0.2.1.2.2.1 H0 h' := ty_un_tr hu x2 hsub
    split at hu2
    · rename_i a b hA hB
      cases hu2
      cases o with
      | inl v =>
        obtain ⟨y1, y2, y3⟩ := x3
        have hl' : h'.length = H0.length := by
          rcases y1 with y1 | y1
          · rw [y1, hlen]
          · rw [q1] at y1; exact absurd y1.2 (by decide)
        obtain ⟨σ1, s1, s2, s3, s4⟩ := ty_posts_ok (h := h') C.2.1.2.2.2.2 iv (ty_Fcuts F C.2.1.2.2.1) σ a1 hFc (ty_wF_cuts v1) y2
        have hL1 : mo_j (L.map (sx_v σ1)) L' := by rw [ty_wl_ag s1 _ v2]; exact hL
        have er : r.map (sx_v σ1) = r.map (sx_v σ) := ty_wl_ag s1 _ v3
        have hK1 := ty_Kr_ag s1 v4 hK
        cases v with
        | none =>
          dsimp only at y3
          rw [y3] at hA
          cases hA
          refine Or.inr ⟨_, List.mem_append_left _ (List.mem_singleton.mpr rfl), σ1, ((d', mid, pc + 3, L', r.map (sx_v σ)), h', K'), ⟨s2, x1, s3, ⟨hd, rfl, rfl, hL1, er.symm⟩, hK1, hun, Or.inl hl'⟩, fun R hR => hE R (am_pop_end _ _ _ _ _ rfl hR)⟩
        | some w =>
          obtain ⟨s, t1, t2⟩ := y3
          split at hA
          · rename_i he
            rw [he] at t1
            exact absurd t1 List.not_mem_nil
          · obtain ⟨S, u1, σ2, u2⟩ := ty_rets_ok (r := r) (pc := pc + 3) s2 x1 s3 hd hL1 hK1 ⟨hun, Or.inl hl'⟩ t2 hA t1
            rw [er] at u2
            exact Or.inr ⟨S, List.mem_append_left _ u1, σ2, _, u2, fun R hR => hE R (am_pop_end _ _ _ _ _ rfl hR)⟩
      | inr X =>
        obtain ⟨y1, y2⟩ := x3
        obtain ⟨Sa, z1, z2⟩ := ty_thrs_mem hB X y1
        have hgr : ty_gr H0 h' := by
          unfold ty_gr at y2 ⊢
          rw [← hlen]
          exact y2
        rcases ty_thr_ok a1 x1 hFc hun hgr K K' (d, mid, pc, L, r) (d', mid, pc, L', r.map (sx_v σ)) Sa z1 ⟨hd, rfl, rfl, hL, rfl⟩ hK with ⟨S, u1, c', u2, u3⟩ | ⟨u1, u2⟩
        · exact Or.inr ⟨S, List.mem_append_right _ (z2 S u1), σ, c', u2, fun R hR => hE R (u3 R hR)⟩
        · exact Or.inl ⟨_, hE _ u2, x1, hun, u1, hgr⟩
    · cases hu2
  · cases hu2
theorem ty_cok_mem {len : Nat} {s : ty_V} {x : am_C} : ty_cok (32, len, [s]) x ↔ (x.1 = 32 ∧ x.2.length = len ∧ ∀ v ∈ x.2, ty_vok s v) := by
  rw [ty_cok_arr rfl]
  constructor
  · rintro ⟨h1, h2, h3, h4⟩
    refine ⟨h1, h2, fun v hv => ?_⟩
    obtain ⟨n, hn, e⟩ := List.mem_iff_getElem.mp hv
    exact h3 n s v (by simp [Nat.mod_one]) (by rw [List.getElem?_eq_getElem hn, e])
  · rintro ⟨h1, h2, h3⟩
    refine ⟨h1, h2, fun f k v hk hv => ?_, fun lo hi hq => by cases hq⟩
    have : k = s := by simpa [Nat.mod_one] using hk.symm
    rw [this]
    exact h3 v (List.mem_of_getElem? hv)
theorem ty_call_ok {iv : List ty_B} {F : ty_F} {d : Nat × Nat} {mid pc rank kd : Nat} {L st : List Value} {K : List am_K} {c : am_G} {i : Jvm.ClassFile.Instr} {Ss : List ty_S} {x : Option (Nat × Nat)}
    (hg0 : ty_gok g H0) (IH : ty_IH g T rank) (ho : ty_ho g C0 l0 H0 σ (iv, F, (d, mid, pc, L, st), K) c) (hi : am_code mid pc = some i)
    (hst : ∀ (L' st' : List Value) (h' : am_H), am_step mid pc L' st' h' i = none)
    (hsm : ∀ (d' : Nat × Nat) (L' st' : List Value) (h' : am_H) (K' : List am_K), am_smt d' mid pc L' st' h' K' i = am_smc kd d' mid pc L' st' h' K' x)
    (hc : ty_call g T C0 rank kd iv F d mid pc L st K x = some Ss) : ty_go g C0 l0 H0 c Ss := by
  obtain ⟨⟨d', mid', pc', L', st'⟩, H, K'⟩ := c
  obtain ⟨a1, a2, a3, ⟨k1, k2, k3, k4, k5⟩, a5, a6⟩ := ho
  dsimp only at a1 a2 a3 k1 k2 k3 k4 k5 a5 a6
  subst k2 k3 k5
  have hsm2 : ∀ c2 : am_G, am_smc kd d' mid' pc' L' (st.map (sx_v σ)) H K' x = some c2 → ∀ r : am_O × am_H, am_Ev c2 r → am_Ev ((d', mid', pc', L', st.map (sx_v σ)), H, K') r := fun c2 hc2 r hr => am_sm_ev (sx_sm_ctl hi (hst _ _ _) (by rw [hsm]; exact hc2)) hr
  unfold ty_call at hc
  split at hc
  · rename_i k
    rcases ty_ite hc with ⟨hq, hc⟩ | ⟨_, hc⟩
    · simp only [Bool.and_eq_true] at hq
      obtain ⟨b1, b2, b3, b4, b5, b6⟩ := hq
      have hlen : H.length = H0.length := by
        rcases a6.2 with q | ⟨_, q, _⟩
        · exact q
        · have := Nat.le_of_ble_eq_true b3
          omega
      have e5 := sx_kvs_kns (σ := σ) _ b5
      have e6 := ty_rcv_ok (σ := σ) a2 b6
      have hsmc : am_smc kd d' mid' pc' L' (st.map (sx_v σ)) H K' (some (0, k)) = some (((d'.1 - 1, d'.2 - (am_wt (st.drop (am_na k)) + (am_ml k + 11))), k, 0, ((st.take (am_na k)).reverse ++ List.replicate (am_ml k - am_na k) (Value.retAddr 0)).map (sx_v σ), []), H, (d', mid', pc', L', (st.drop (am_na k)).map (sx_v σ)) :: K') := by
        simp only [am_smc, ← List.map_drop, ← List.map_take, ← List.map_reverse, sx_wt, List.length_map, b1, b2, mo_ble b3 k1.1, mo_ble b4 k1.2, e5, e6, Bool.and_true, if_true]
        simp [sx_v]
      have hd2 : mo_d (d.1 - 1, d.2 - (am_wt (st.drop (am_na k)) + (am_ml k + 11))) (d'.1 - 1, d'.2 - (am_wt (st.drop (am_na k)) + (am_ml k + 11))) := ⟨Nat.sub_le_sub_right k1.1 _, Nat.sub_le_sub_right k1.2 _⟩
      split at hc
      · rename_i C hC
        obtain ⟨f1, f2, f3, f4, f5, f6, f7⟩ := ty_find_ok hC
        have hv : ty_vd g C (d'.1 - 1, d'.2 - (am_wt (st.drop (am_na k)) + (am_ml k + 11))) (((st.take (am_na k)).reverse ++ List.replicate (am_ml k - am_na k) (Value.retAddr 0)).map (sx_v σ)) H := by
          refine IH C f1 f7 _ _ _ ⟨⟨Nat.le_trans f6.1 hd2.1, Nat.le_trans f6.2 hd2.2⟩, ?_, fun n s hn hs => ?_, a2, ?_⟩
          · rw [f4, List.length_map, List.length_append, List.length_reverse, List.length_replicate, List.length_take, Nat.min_eq_left (Nat.le_of_ble_eq_true b2)]
          · obtain ⟨v, e1, e2⟩ := ty_fits_ok a1.1 f5 n s hn hs
            refine ⟨sx_v σ v, ?_, e2⟩
            rw [List.getElem?_map, List.getElem?_append_left (List.getElem?_eq_some_iff.mp e1).1, e1]
            rfl
          · unfold ty_use at hc
            rcases ty_ite hc with ⟨hq, _⟩ | ⟨_, hc⟩
            · simp only [Bool.and_eq_true] at hq
              exact ty_pre_ok a1.1 a2 a3 hq.2.2.1
            · cases hc
        obtain ⟨y, ⟨n, z, e1, e2⟩, e3⟩ := hv
        have e2 : z = y := e2
        subst e2
        refine ty_use_ok a1 a3 k1 k4 a5 a6.1 hlen hc e3 (fun R hR => hsm2 _ hsmc R ⟨n, z, ?_, hR⟩)
        rw [f2, f3] at e1
        exact e1
      · cases hc
        exact Or.inr ⟨_, List.mem_singleton.mpr rfl, σ, (((d'.1 - 1, d'.2 - (am_wt (st.drop (am_na k)) + (am_ml k + 11))), k, 0, ((st.take (am_na k)).reverse ++ List.replicate (am_ml k - am_na k) (Value.retAddr 0)).map (sx_v σ), []), H, (d', mid', pc', L', (st.drop (am_na k)).map (sx_v σ)) :: K'), ⟨a1, a2, a3, ⟨hd2, rfl, rfl, mo_j.rf _, rfl⟩, ⟨⟨k1, rfl, rfl, k4, rfl⟩, a5⟩, a6.1, Or.inl hlen⟩, fun R hR => hsm2 _ hsmc R hR⟩
    · cases hc
  · rename_i k
    split at hc
    · rename_i n dp b sp a r
      rcases ty_ite hc with ⟨hq, hc⟩ | ⟨_, hc⟩
      · simp only [Bool.and_eq_true] at hq
        obtain ⟨b1, b2, b3, b4, b5⟩ := hq
        split at hc
        · rename_i ta la lo hi tb lb lo2 hi2 hga hgb
          rcases ty_ite hc with ⟨hq, hc⟩ | ⟨_, hc⟩
          · simp only [Bool.and_eq_true, ty_leq] at hq
            obtain ⟨c1, c2, c3, c4, c5, c6, c7, c8, c9⟩ := hq
            cases hc
            obtain rfl := Nat.eq_of_beq_eq_true c1
            obtain rfl := Nat.eq_of_beq_eq_true c2
            obtain ⟨⟨t1, fs⟩, g1, g2⟩ := a2 a _ hga
            obtain ⟨⟨t2, gs⟩, g3, g4⟩ := a2 b _ hgb
            rw [ty_cok_mem] at g2 g4
            obtain ⟨p1, p2, p3⟩ := g2
            obtain ⟨p4, p5, p6⟩ := g4
            dsimp only at p1 p2 p3 p4 p5 p6
            subst p1 p4
            have m1 := ty_cl c3
            have m2 := ty_cl c4
            have m3 := ty_cl c5
            have hcp : am_copy H n dp b sp a = some (H.set b (32, gs.take dp.toNatClampNeg ++ (fs.drop sp.toNatClampNeg).take n.toNatClampNeg ++ gs.drop (dp.toNatClampNeg + n.toNatClampNeg))) := by
              simp only [am_copy, g1, g3]
              rw [if_pos (by simp only [Bool.and_eq_true]; exact ⟨rfl, rfl, b4⟩), if_neg (ty_nn c3), if_neg (ty_nn c4), if_neg (ty_nn c5), if_pos]
              simp only [Bool.and_eq_true]
              exact ⟨Nat.ble_eq_true_of_le (by omega), Nat.ble_eq_true_of_le (by omega)⟩
            have hsmc : am_smc kd d' mid' pc' L' ((Value.int n :: .int dp :: .ref b :: .int sp :: .ref a :: r).map (sx_v σ)) H K' (some (2, k)) = some ((d', mid', pc' + 3, L', r.map (sx_v σ)), H.set b (32, gs.take dp.toNatClampNeg ++ (fs.drop sp.toNatClampNeg).take n.toNatClampNeg ++ gs.drop (dp.toNatClampNeg + n.toNatClampNeg)), K') := by
              simp only [List.map_cons, sx_vint, sx_vref, am_smc, sx_wt]
              rw [if_pos (by simp only [Bool.and_eq_true]; exact ⟨b1, mo_ble b2 k1.1, mo_ble b3 k1.2⟩), hcp]
            have hb5 := ty_in_ok.mp b5
            have hbl : b < H0.length := by
              obtain ⟨y, hy, _⟩ := hg0 b _ hgb
              exact (List.getElem?_eq_some_iff.mp hy).1
            refine Or.inr ⟨_, List.mem_singleton.mpr rfl, σ, _, ⟨a1, ?_, ?_, ⟨k1, rfl, rfl, k4, rfl⟩, a5, ty_hh_set a6 hb5 hbl _⟩, fun R hR => hsm2 _ hsmc R hR⟩
            · refine ty_gok_set a2 (fun s hs => ?_)
              rw [hgb] at hs
              cases hs
              rw [ty_cok_mem]
              refine ⟨rfl, ?_, fun v hv => ?_⟩
              · simp only [List.length_append, List.length_take, List.length_drop]
                omega
              · have wide : ∀ u : Value, ty_vok (0, lo, hi) u → ty_vok (0, lo2, hi2) u := by
                  rintro u ⟨w, e, e1, e2⟩
                  dsimp only at e1 e2
                  exact ⟨w, e, by show lo2 ≤ _; omega, by show _ ≤ hi2; omega⟩
                rcases List.mem_append.mp hv with hv | hv
                · rcases List.mem_append.mp hv with hv | hv
                  · exact p6 v (List.mem_of_mem_take hv)
                  · exact wide v (p3 v (List.mem_of_mem_drop (List.mem_of_mem_take hv)))
                · exact p6 v (List.mem_of_mem_drop hv)
            · refine ty_Fok_cuts a3 (fun p hp y hy => ?_)
              rw [List.getElem?_set_ne (fun q => hp (by rw [q]; exact List.mem_singleton.mpr rfl))]
              exact hy
          · cases hc
        · cases hc
      · cases hc
    · cases hc
  · cases hc
end TYH
