/-! EVERY INSTRUCTION -/
section TYJ
variable {σ : Nat → Int32} {g : List ty_X} {T : List ty_C} {C0 : ty_C} {l0 : Nat → Int32} {H0 : am_H}
theorem ty_kvk : ∀ {v : Value}, sx_kv v = true → am_kn (sx_v σ v) = true
  | .int _, _ => rfl
  | .ref _, _ => rfl
  | .retAddr (_ + 1), _ => rfl
/-- a store into a cell that may be written -/
theorem ty_go_sto {iv : List ty_B} {F F1 : ty_F} {d : Nat × Nat} {mid pc pc1 : Nat} {L st r : List Value} {K : List am_K} {c : am_G} {i : Jvm.ClassFile.Instr} {Ss : List ty_S} {a : Nat} {s : ty_X} {y : am_C}
    (hg0 : ty_gok g H0) (ho : ty_ho g C0 l0 H0 σ (iv, F, (d, mid, pc, L, st), K) c) (hi : am_code mid pc = some i)
    (hs : am_step mid pc (L.map (sx_v σ)) (st.map (sx_v σ)) c.2.1 i = some (pc1, L.map (sx_v σ), r.map (sx_v σ), c.2.1.set a y))
    (ha : g[a]? = some s) (hm : ty_in a C0.2.1.2.2.1 = true) (hy : ty_cok s y) (hF : ty_Fok F1 σ (c.2.1.set a y)) (hmem : (iv, F1, (d, mid, pc1, L, r), K) ∈ Ss) : ty_go g C0 l0 H0 c Ss := by
  have hl : a < H0.length := by
    obtain ⟨z, hz, _⟩ := hg0 a _ ha
    exact (List.getElem?_eq_some_iff.mp hz).1
  refine ty_go_st ho hi hs hmem rfl rfl ho.1 (ty_gok_set ho.2.1 (fun s' hs' => ?_)) hF ho.2.2.2.2.1 (ty_hh_set ho.2.2.2.2.2 (ty_in_ok.mp hm) hl _)
  rw [ha] at hs'
  cases hs'
  exact hy
theorem ty_Fok_cut1 {F : ty_F} {a : Nat} {h : am_H} {y : am_C} (hF : ty_Fok F σ h) : ty_Fok (ty_Fcuts F [a]) σ (h.set a y) := by
  refine ty_Fok_cuts hF (fun p hp z hz => ?_)
  rw [List.getElem?_set_ne (fun q => hp (by rw [q]; exact List.mem_singleton.mpr rfl))]
  exact hz
theorem ty_ast_ok {iv : List ty_B} {F : ty_F} {d : Nat × Nat} {mid pc t a : Nat} {L r : List Value} {j v : Value} {K : List am_K} {c : am_G} {i : Jvm.ClassFile.Instr} {Ss : List ty_S}
    (hg0 : ty_gok g H0) (ho : ty_ho g C0 l0 H0 σ (iv, F, (d, mid, pc, L, v :: j :: .ref a :: r), K) c) (hi : am_code mid pc = some i) (ht : ty_one (32 + t) = true)
    (hs : ∀ w : Int32, sx_v σ j = .int w → am_step mid pc (L.map (sx_v σ)) ((v :: j :: .ref a :: r).map (sx_v σ)) c.2.1 i = am_ast pc (L.map (sx_v σ)) (r.map (sx_v σ)) c.2.1 t a w (sx_v σ v))
    (hb : ty_ast g C0.2.1.2.2.1 iv F d mid (pc + 1) L r K (32 + t) a j v = some Ss) : ty_go g C0 l0 H0 c Ss := by
  unfold ty_ast at hb
  split at hb
  · rename_i tg len s hga
    have hb2 := ty_ite hb
    clear hb
    rcases hb2 with ⟨hq, hb⟩ | ⟨_, hb⟩
    · cases hb
      simp only [Bool.and_eq_true] at hq
      obtain ⟨q1, q2, q3, q4, q5⟩ := hq
      have hiw : ty_iw (ty_n0 C0) l0 iv σ := ho.1
      obtain rfl := Nat.eq_of_beq_eq_true q1
      obtain ⟨w, e1, e2, e3⟩ := ty_idx_ok hiw.1 q4
      obtain ⟨⟨tx, fs⟩, g1, g2⟩ := ho.2.1 a _ hga
      have g3 := g2
      rw [ty_cok_arr ht] at g3
      obtain ⟨p1, p2, _⟩ := g3
      dsimp only at p1 p2
      subst p1
      have hl : w.toNatClampNeg < fs.length := by rw [p2]; exact e3
      refine ty_go_sto hg0 ho hi (y := (32 + t, fs.set w.toNatClampNeg (sx_v σ v))) ?_ hga q3 (ty_cok_st ht g2 (ty_fit_ok hiw.1 q5)) (ty_Fok_st (x := (32 + t, fs)) ho.2.2.1 g1 e1 e2 hl) (List.mem_singleton.mpr rfl)
      rw [hs w e1]
      simp only [am_ast, g1]
      rw [if_pos (by simp only [Bool.and_eq_true]; exact ⟨Nat.beq_refl _, q2⟩), if_neg (ty_nn e2), if_pos (by rw [Nat.blt_eq]; exact hl)]
    · cases hb
  · cases hb
theorem ty_pf_ok {iv : List ty_B} (hiv : ty_ivok iv σ) {t : FieldType} {v : Value} (h : ty_pf iv t v = true) : am_fit t (sx_v σ v) = true := by
  unfold ty_pf at h
  split at h
  · obtain ⟨x, e⟩ := ty_isi_ok (σ := σ) h
    rw [e]
    rfl
  · simp only [Bool.and_eq_true] at h
    obtain ⟨x, e1, e2, e3⟩ := ty_fit_ok hiv h.2
    dsimp only at e2 e3
    rw [e1]
    simp only [am_fit, Bool.or_eq_true, beq_iff_eq]
    by_cases q : x.toInt = 0
    · exact Or.inl (Int32.toInt_inj.mp q)
    · exact Or.inr (Int32.toInt_inj.mp (show x.toInt = 1 by omega))
  · split at h
    · rfl
    · cases h
  · split at h
    · rfl
    · cases h
  · cases h
theorem ty_go_ar {iv : List ty_B} {F : ty_F} {d : Nat × Nat} {mid pc : Nat} {L r : List Value} {x y : Value} {K : List am_K} {c : am_G} {i : Jvm.ClassFile.Instr} {Ss : List ty_S} {b : ty_B}
    (ho : ty_ho g C0 l0 H0 σ (iv, F, (d, mid, pc, L, y :: x :: r), K) c) (hi : am_code mid pc = some i)
    (hs : ∀ (L' r' : List Value) (h' : am_H) (vx vy w : Int32), ty_arv i vx vy = some w → am_step mid pc L' (.int vy :: .int vx :: r') h' i = some (pc + 1, L', .int w :: r', h'))
    (hb : ty_ar iv i x y = some b) (hp : ty_push iv b F d mid (pc + 1) L r K = some Ss) : ty_go g C0 l0 H0 c Ss := by
  have hiw : ty_iw (ty_n0 C0) l0 iv σ := ho.1
  obtain ⟨vx, vy, w, e1, e2, e3, e4⟩ := ty_ar_ok hiw hb
  refine ty_go_push ho hi ?_ e4 hp
  simp only [List.map_cons, e1, e2]
  exact hs _ _ _ _ _ _ e3
theorem ty_i_ok {iv : List ty_B} {F : ty_F} {d : Nat × Nat} {mid pc rank : Nat} {L st : List Value} {K : List am_K} {c : am_G} {i : Jvm.ClassFile.Instr} {Ss : List ty_S}
    (hg0 : ty_gok g H0) (IH : ty_IH g T rank) (ho : ty_ho g C0 l0 H0 σ (iv, F, (d, mid, pc, L, st), K) c) (hi : am_code mid pc = some i) (hmid : K = [] → mid = C0.1.1)
    (hc : ty_i g T C0 rank iv F d mid pc L st K i = some Ss) : ty_go g C0 l0 H0 c Ss := by
  have hiw : ty_iw (ty_n0 C0) l0 iv σ := ho.1
  have hE : ∀ rv : Option Value, (∀ (d' : Nat × Nat) (L' : List Value) (h' : am_H), am_step mid pc L' (st.map (sx_v σ)) h' i = none ∧ am_ctl (am_run 0) d' mid pc L' (st.map (sx_v σ)) h' i = some (.inl rv, h')) → ∀ r : am_O × am_H, am_end c.2.2 (.inl rv, c.2.1) r → am_Ev c r := by
    intro rv hrv r hr
    obtain ⟨⟨d', mid', pc', L', st'⟩, H, K'⟩ := c
    obtain ⟨a1, a2, a3, ⟨k1, k2, k3, k4, k5⟩, a5, a6⟩ := ho
    dsimp only at k1 k2 k3 k4 k5 hr
    subst k2 k3 k5
    refine ⟨1, (.inl rv, H), ?_, hr⟩
    show am_body (am_run 0) d' mid' pc' L' (st.map (sx_v σ)) H = _
    unfold am_body
    rw [hi]
    dsimp only
    rw [(hrv d' L' H).1]
    exact (hrv d' L' H).2
  unfold ty_i at hc
  split at hc
  · -- iload_n
    split at hc
    · rename_i j hq
      cases hc
      exact ty_go_same ho hi (by simp [am_step, hq, sx_v]) (List.mem_singleton.mpr rfl) hiw
    · cases hc
  · -- iload
    split at hc
    · rename_i j hq
      cases hc
      exact ty_go_same ho hi (by simp [am_step, hq, sx_v]) (List.mem_singleton.mpr rfl) hiw
    · cases hc
  · -- istore_n
    split at hc
    · split at hc
      · rename_i hq
        cases hc
        exact ty_go_same ho hi (by simp [am_step, hq, sx_v, List.map_set]) (List.mem_singleton.mpr rfl) hiw
      · cases hc
    · cases hc
  · -- istore
    split at hc
    · split at hc
      · rename_i hq
        cases hc
        exact ty_go_same ho hi (by simp [am_step, hq, sx_v, List.map_set]) (List.mem_singleton.mpr rfl) hiw
      · cases hc
    · cases hc
  · -- iinc
    rename_i k n
    split at hc
    · rename_i j hq
      split at hc
      · rename_i b hb
        rcases ty_ite hc with ⟨hw, hc⟩ | ⟨_, hc⟩
        · cases hc
          obtain ⟨vx, vy, w, e1, e2, e3, e4⟩ := ty_ar_ok hiw hb
          cases e2
          cases e1
          cases e3
          simp only [ty_ws, ty_wk, Bool.and_eq_true] at hw
          obtain ⟨w1, ⟨w2, w3⟩, w4⟩ := hw
          have ag := ty_up_ag (σ := σ) iv.length (σ j + Int32.ofInt n)
          refine ty_go_st (σ' := ty_up σ iv.length (σ j + Int32.ofInt n)) (La := (L.map (sx_v σ)).set k (.int (σ j + Int32.ofInt n))) (sa := st.map (sx_v σ)) ho hi (by simp [am_step, hq, sx_v]) (List.mem_singleton.mpr rfl) ?_ (ty_wl_ag ag _ w3).symm (ty_iw_push hiw e4) ho.2.1 (ty_wF_ag ag w1 ho.2.2.1) (ty_Kr_ag ag w4 ho.2.2.2.2.1) ho.2.2.2.2.2
          rw [List.map_set, ty_wl_ag ag _ w2]
          simp only [sx_v, ty_up_at]
        · cases hc
      · cases hc
    · cases hc
  · -- pop
    split at hc
    · cases hc
      exact ty_go_same ho hi (by simp [am_step, sx_v, am_kn]) (List.mem_singleton.mpr rfl) hiw
    · cases hc
  · -- dup
    split at hc
    · cases hc
      exact ty_go_same ho hi (by simp [am_step, sx_v, am_kn]) (List.mem_singleton.mpr rfl) hiw
    · cases hc
  · -- dup2
    split at hc
    · split at hc
      · rename_i hq
        cases hc
        simp only [Bool.and_eq_true] at hq
        exact ty_go_same ho hi (by simp [am_step, ty_kvk hq.1, ty_kvk hq.2]) (List.mem_singleton.mpr rfl) hiw
      · cases hc
    · cases hc
  · -- dup_x1
    split at hc
    · split at hc
      · rename_i hq
        cases hc
        simp only [Bool.and_eq_true] at hq
        exact ty_go_same ho hi (by simp [am_step, ty_kvk hq.1, ty_kvk hq.2]) (List.mem_singleton.mpr rfl) hiw
      · cases hc
    · cases hc
  · -- dup_x2
    split at hc
    · split at hc
      · rename_i hq
        cases hc
        simp only [Bool.and_eq_true] at hq
        exact ty_go_same ho hi (by simp [am_step, ty_kvk hq.1, ty_kvk hq.2.1, ty_kvk hq.2.2]) (List.mem_singleton.mpr rfl) hiw
      · cases hc
    · cases hc
  · -- iadd
    split at hc
    · split at hc
      · rename_i b hb
        exact ty_go_ar ho hi (fun _ _ _ _ _ _ h => by cases h; rfl) hb hc
      · cases hc
    · cases hc
  · -- isub
    split at hc
    · split at hc
      · rename_i b hb
        exact ty_go_ar ho hi (fun _ _ _ _ _ _ h => by cases h; rfl) hb hc
      · cases hc
    · cases hc
  · -- imul
    split at hc
    · split at hc
      · rename_i b hb
        exact ty_go_ar ho hi (fun _ _ _ _ _ _ h => by cases h; rfl) hb hc
      · cases hc
    · cases hc
  · -- iand
    split at hc
    · split at hc
      · rename_i b hb
        exact ty_go_ar ho hi (fun _ _ _ _ _ _ h => by cases h; rfl) hb hc
      · cases hc
    · cases hc
  · -- idiv
    split at hc
    · split at hc
      · rename_i b hb
        refine ty_go_ar ho hi (fun _ _ _ vx vy w h => ?_) hb hc
        simp only [ty_arv] at h
        split at h
        · cases h
        · rename_i hz
          cases h
          simp only [am_step]
          rw [if_neg hz]
      · cases hc
    · cases hc
  · -- ifCond
    split at hc
    · refine ty_br_ok ho hi (fun vx vy e1 e2 => ?_) hc
      cases e2
      simp only [List.map_cons, e1]
      exact sx_ifc
    · cases hc
  · -- if_icmp
    split at hc
    · refine ty_br_ok ho hi (fun vx vy e1 e2 => ?_) hc
      simp only [List.map_cons, e1, e2]
      exact sx_ific
    · cases hc
  · -- tableswitch
    rename_i q lo hi' os
    split at hc
    · rename_i x r
      rcases ty_ite hc with ⟨hq, hc⟩ | ⟨_, hc⟩
      · cases hc
        simp only [Bool.and_eq_true, ty_leq, decide_eq_true_eq] at hq
        obtain ⟨q1, q2, q3, q4⟩ := hq
        have hb := ty_32_ok q2
        obtain ⟨vx, e1⟩ := ty_bs_ok hiw.1 q1
        by_cases h1 : vx.toInt < lo
        · obtain ⟨iv', m1, m2⟩ := ty_rf_iw (c := .lt) (w := .int (Int32.ofInt lo)) hiw e1 rfl (by
            show vx < Int32.ofInt lo
            rw [Int32.lt_iff_toInt_lt, ty_ofi (by omega) (by omega)]
            exact h1)
          refine ty_go_same ho hi ?_ (List.mem_append_left _ (List.mem_map.mpr ⟨iv', m1, rfl⟩)) m2
          simp only [List.map_cons, e1, am_step]
          rw [if_pos h1]
        · by_cases h2 : hi' < vx.toInt
          · obtain ⟨iv', m1, m2⟩ := ty_rf_iw (c := .gt) (w := .int (Int32.ofInt hi')) hiw e1 rfl (by
              show Int32.ofInt hi' < vx
              rw [Int32.lt_iff_toInt_lt, ty_ofi (by omega) (by omega)]
              exact h2)
            refine ty_go_same ho hi ?_ (List.mem_append_right _ (List.mem_append_left _ (List.mem_map.mpr ⟨iv', m1, rfl⟩))) m2
            simp only [List.map_cons, e1, am_step]
            rw [if_neg h1, if_pos h2]
          · have hn : (vx.toInt - lo).toNat < os.size := by omega
            obtain ⟨o, hoo⟩ : ∃ o : Int, os[(vx.toInt - lo).toNat]? = some o := ⟨_, Array.getElem?_eq_getElem hn⟩
            obtain ⟨iv', m1, m2⟩ := ty_sw_mem hiw (F := F) (d := d) (mid := mid) (pc := pc) (L := L) (r := r) (K := K) e1 os.toList lo (vx.toInt - lo).toNat o (by rw [Array.getElem?_toList]; exact hoo) (by omega)
            refine ty_go_same ho hi ?_ (List.mem_append_right _ (List.mem_append_right _ m2)) m1
            simp only [List.map_cons, e1, am_step]
            rw [if_neg h1, if_neg h2, hoo]
      · cases hc
    · cases hc
  · -- arraylength
    split at hc
    · rename_i a r
      split at hc
      · rename_i tg len ss hga
        rcases ty_ite hc with ⟨hq, hc⟩ | ⟨_, hc⟩
        · cases hc
          obtain ⟨⟨tx, fs⟩, g1, g2⟩ := ho.2.1 a _ hga
          rw [ty_cok_arr hq] at g2
          obtain ⟨p1, p2, _⟩ := g2
          dsimp only at p1 p2
          subst p1
          refine ty_go_same ho hi ?_ (List.mem_singleton.mpr rfl) hiw
          have hat : ∃ t, am_aty tx = some t := by
            simp only [ty_one, Bool.or_eq_true] at hq
            rcases hq with hq | hq | hq <;> rw [Nat.eq_of_beq_eq_true hq] <;> exact ⟨_, rfl⟩
          obtain ⟨t, hat⟩ := hat
          simp only [List.map_cons, sx_vref, sx_vint, am_step, g1, hat, p2]
        · cases hc
      · cases hc
    · cases hc
  · exact ty_ald_ok (t := 0) ho hi rfl (fun _ _ _ => rfl) hc
  · exact ty_ald_ok (t := 2) ho hi rfl (fun _ _ _ => rfl) hc
  · -- aaload
    split at hc
    · rename_i j a r
      split at hc
      · rename_i tg len ss hga
        rcases ty_ite hc with ⟨hq, hc⟩ | ⟨_, hc⟩
        · cases hc
          simp only [Bool.and_eq_true] at hq
          obtain ⟨q1, q2, q3⟩ := hq
          have q1 := Nat.eq_of_beq_eq_true q1
          subst q1
          obtain ⟨w, e1, e2, e3⟩ := ty_idx_ok hiw.1 q2
          obtain ⟨⟨tx, fs⟩, g1, g2⟩ := ho.2.1 a _ hga
          rw [ty_cok_obj rfl ⟨rfl, rfl⟩] at g2
          obtain ⟨p1, p2, p3⟩ := g2
          dsimp only at p1 p2 p3
          subst p1
          obtain ⟨s, hs⟩ : ∃ s : ty_V, ss[w.toNatClampNeg]? = some s := ⟨_, List.getElem?_eq_getElem e3⟩
          obtain ⟨v, v1, v2⟩ := p3 _ _ hs
          have hs1 := ty_refs_ok q3 _ _ hs
          unfold ty_vok at v2
          rw [hs1] at v2
          have hcl := ty_cl e2
          obtain ⟨iv', m1, m2⟩ := ty_aa_mem hiw (F := F) (d := d) (mid := mid) (pc := pc) (L := L) (r := r) (K := K) e1 ss 0 w.toNatClampNeg s hs (by omega)
          refine ty_go_same ho hi ?_ m2 m1
          simp only [List.map_cons, e1, sx_vref, am_step, am_ald, g1]
          have v2 : v = .ref s.2.1.toNat := v2
          rw [if_pos (show Nat.beq 35 (32 + 3) = true from rfl), if_neg (ty_nn e2), v1, v2]
        · cases hc
      · cases hc
    · cases hc
  · -- iastore
    split at hc
    · rcases ty_ite hc with ⟨hq, hc⟩ | ⟨_, hc⟩
      · obtain ⟨x, hx⟩ := ty_isi_ok (σ := σ) hq
        refine ty_ast_ok (t := 0) hg0 ho hi rfl (fun w hw => ?_) hc
        simp only [List.map_cons, hx, hw, sx_vref, am_step]
      · cases hc
    · cases hc
  · -- bastore
    split at hc
    · rename_i v j a r
      rcases ty_ite hc with ⟨hq, hc⟩ | ⟨_, hc⟩
      · obtain ⟨x, hx⟩ := ty_isi_ok (σ := σ) hq
        split at hc
        · rename_i tg len lo hi' hga
          have hb2 := ty_ite hc
          clear hc
          rcases hb2 with ⟨hq, hc⟩ | ⟨_, hc⟩
          · cases hc
            simp only [Bool.and_eq_true, ty_leq] at hq
            obtain ⟨q1, q2, q3, q4, q5, q6⟩ := hq
            obtain rfl := Nat.eq_of_beq_eq_true q1
            obtain ⟨w, e1, e2, e3⟩ := ty_idx_ok hiw.1 q4
            obtain ⟨⟨tx, fs⟩, g1, g2⟩ := ho.2.1 a _ hga
            have g3 := g2
            rw [ty_cok_arr rfl] at g3
            obtain ⟨p1, p2, _⟩ := g3
            dsimp only at p1 p2
            subst p1
            have hl : w.toNatClampNeg < fs.length := by rw [p2]; exact e3
            have h1 := ty_and1 x
            refine ty_go_sto hg0 ho hi (y := (34, fs.set w.toNatClampNeg (.int (x &&& 1)))) ?_ hga q3 (ty_cok_st rfl g2 ⟨x &&& 1, rfl, by show lo ≤ _; omega, by show _ ≤ hi'; omega⟩) (ty_Fok_cut1 ho.2.2.1) (List.mem_singleton.mpr rfl)
            simp only [List.map_cons, hx, e1, sx_vref, am_step, am_ast, g1]
            rw [if_pos (by simp only [Bool.and_eq_true]; exact ⟨rfl, q2⟩), if_neg (ty_nn e2), if_pos (by rw [Nat.blt_eq]; exact hl)]
          · cases hc
        · cases hc
      · cases hc
    · cases hc
  · -- i2l, lastore
    split at hc
    · rename_i v j a r
      split at hc
      · rename_i hcd
        rcases ty_ite hc with ⟨hq, hc⟩ | ⟨_, hc⟩
        · obtain ⟨x, hx⟩ := ty_isi_ok (σ := σ) hq
          split at hc
          · rename_i tg len u1 u2 hga
            have hb2 := ty_ite hc
            clear hc
            rcases hb2 with ⟨hq, hc⟩ | ⟨_, hc⟩
            · cases hc
              simp only [Bool.and_eq_true] at hq
              obtain ⟨q1, q2, q3, q4⟩ := hq
              obtain rfl := Nat.eq_of_beq_eq_true q1
              obtain ⟨w, e1, e2, e3⟩ := ty_idx_ok hiw.1 q4
              obtain ⟨⟨d', mid', pc', L', st'⟩, H, K'⟩ := c
              obtain ⟨a1, a2, a3, ⟨k1, k2, k3, k4, k5⟩, a5, a6⟩ := ho
              dsimp only at a1 a2 a3 k1 k2 k3 k4 k5 a5 a6
              subst k2 k3 k5
              obtain ⟨⟨tx, fs⟩, g1, g2⟩ := a2 a _ hga
              have g3 := g2
              rw [ty_cok_arr rfl] at g3
              obtain ⟨p1, p2, _⟩ := g3
              dsimp only at p1 p2
              subst p1
              have hl : w.toNatClampNeg < fs.length := by rw [p2]; exact e3
              have hl0 : a < H0.length := by
                obtain ⟨z, hz, _⟩ := hg0 a _ hga
                exact (List.getElem?_eq_some_iff.mp hz).1
              have s1 : am_sm ((d', mid', pc', L', (v :: j :: .ref a :: r).map (sx_v σ)), H, K') = some ((d', mid', pc' + 1, L', .long x.toInt64 :: .int w :: .ref a :: r.map (sx_v σ)), H, K') := by
                refine sx_sm_step hi ?_
                simp only [List.map_cons, hx, e1, sx_vref, am_step]
              have s2 : am_sm ((d', mid', pc' + 1, L', .long x.toInt64 :: .int w :: .ref a :: r.map (sx_v σ)), H, K') = some ((d', mid', pc' + 2, L', r.map (sx_v σ)), H.set a (33, fs.set w.toNatClampNeg (.long x.toInt64)), K') := by
                refine sx_sm_step hcd ?_
                simp only [am_step, am_ast, g1]
                rw [if_pos (by simp only [Bool.and_eq_true]; exact ⟨rfl, q2⟩), if_neg (ty_nn e2), if_pos (by rw [Nat.blt_eq]; exact hl)]
              refine Or.inr ⟨_, List.mem_singleton.mpr rfl, σ, ((d', mid', pc' + 2, L', r.map (sx_v σ)), H.set a (33, fs.set w.toNatClampNeg (.long x.toInt64)), K'), ⟨a1, ty_gok_set a2 (fun s' hs' => ?_), ty_Fok_cut1 a3, ⟨k1, rfl, rfl, k4, rfl⟩, a5, ty_hh_set a6 (ty_in_ok.mp q3) hl0 _⟩, fun R hR => am_sm_ev s1 (am_sm_ev s2 hR)⟩
              rw [hga] at hs'
              cases hs'
              exact ty_cok_st rfl g2 ⟨x.toInt64, rfl⟩
            · cases hc
          · cases hc
        · cases hc
      · cases hc
    · cases hc
  · -- lastore
    split at hc
    · rename_i x j a r
      split at hc
      · rename_i tg len u1 u2 hga
        have hb2 := ty_ite hc
        clear hc
        rcases hb2 with ⟨hq, hc⟩ | ⟨_, hc⟩
        · cases hc
          simp only [Bool.and_eq_true] at hq
          obtain ⟨q1, q2, q3, q4⟩ := hq
          obtain rfl := Nat.eq_of_beq_eq_true q1
          obtain ⟨w, e1, e2, e3⟩ := ty_idx_ok hiw.1 q4
          obtain ⟨⟨tx, fs⟩, g1, g2⟩ := ho.2.1 a _ hga
          have g3 := g2
          rw [ty_cok_arr rfl] at g3
          obtain ⟨p1, p2, _⟩ := g3
          dsimp only at p1 p2
          subst p1
          have hl : w.toNatClampNeg < fs.length := by rw [p2]; exact e3
          refine ty_go_sto hg0 ho hi (y := (33, fs.set w.toNatClampNeg (.long x))) ?_ hga q3 (ty_cok_st rfl g2 ⟨x, rfl⟩) (ty_Fok_cut1 ho.2.2.1) (List.mem_singleton.mpr rfl)
          have sl : sx_v σ (.long x) = .long x := rfl
          simp only [List.map_cons, sl, e1, sx_vref, am_step, am_ast, g1]
          rw [if_pos (by simp only [Bool.and_eq_true]; exact ⟨rfl, q2⟩), if_neg (ty_nn e2), if_pos (by rw [Nat.blt_eq]; exact hl)]
        · cases hc
      · cases hc
    · cases hc
  · -- getfield
    rename_i xf
    split at hc
    · rename_i ci k hpf
      split at hc
      · rename_i a r
        split at hc
        · rename_i tg len ss hga
          have hb2 := ty_ite hc
          clear hc
          rcases hb2 with ⟨hq, hc⟩ | ⟨_, hc⟩
          · simp only [Bool.and_eq_true, Nat.blt_eq] at hq
            obtain ⟨q1, q2, q3⟩ := hq
            obtain rfl := Nat.eq_of_beq_eq_true q1
            obtain ⟨⟨tx, fs⟩, g1, g2⟩ := ho.2.1 a _ hga
            have hz := ty_lt_one q2
            rw [ty_cok_obj hz.1 hz.2] at g2
            obtain ⟨p1, p2, p3⟩ := g2
            dsimp only at p1 p2 p3
            subst p1
            have rd : ∀ u : Value, fs[k]? = some u → am_step mid pc (L.map (sx_v σ)) ((Value.ref a :: r).map (sx_v σ)) c.2.1 (.getfield xf) = some (pc + 3, L.map (sx_v σ), u :: r.map (sx_v σ), c.2.1) := by
              intro u hu
              simp only [List.map_cons, sx_vref, am_step, hpf, g1]
              rw [if_pos (Nat.beq_refl _), hu]
            have hix := ty_ixn (k := k) (by omega)
            split at hc
            · rename_i v hv
              cases hc
              obtain ⟨y, j', f1, f2, f3, f4⟩ := ho.2.2.1 _ _ _ (ty_Fget_mem hv)
              rw [g1] at f1
              cases f1
              cases f2
              rw [hix.1] at f4
              exact ty_go_same ho hi (st1 := v :: r) (rd _ f4) (List.mem_singleton.mpr rfl) hiw
            · split at hc
              · rename_i lo hi' hs
                obtain ⟨v, v1, x, v2, v3, v4⟩ := p3 _ _ hs
                rw [v2] at v1
                exact ty_go_pushF ho hi (rd _ v1) (ty_nb_bd _ v3 v4) g1 rfl hix.2 (by rw [hix.1]; exact v1) hc
              · rename_i p u hs
                cases hc
                obtain ⟨v, v1, v2⟩ := p3 _ _ hs
                have v2 : v = .ref p.toNat := v2
                rw [v2] at v1
                exact ty_go_same ho hi (st1 := .ref p.toNat :: r) (rd _ v1) (List.mem_singleton.mpr rfl) hiw
              · cases hc
          · cases hc
        · cases hc
      · cases hc
    · cases hc
  · -- putfield
    split at hc
    · rename_i ci k hpf
      split at hc
      · rename_i v a r
        split at hc
        · rename_i tg len ss hga
          split at hc
          · rename_i s hs
            have hb2 := ty_ite hc
            clear hc
            rcases hb2 with ⟨hq, hc⟩ | ⟨_, hc⟩
            · cases hc
              simp only [Bool.and_eq_true, Nat.blt_eq] at hq
              obtain ⟨q1, q2, q3, q4, q5, q6, q7, q8⟩ := hq
              obtain rfl := Nat.eq_of_beq_eq_true q1
              obtain ⟨⟨tx, fs⟩, g1, g2⟩ := ho.2.1 a _ hga
              have hz := ty_lt_one q2
              have g3 := g2
              rw [ty_cok_obj hz.1 hz.2] at g3
              obtain ⟨p1, p2, p3⟩ := g3
              dsimp only at p1 p2 p3
              subst p1
              have hix := ty_ixn (k := k) (by omega)
              have hl : k < fs.length := by rw [p2]; exact (List.getElem?_eq_some_iff.mp hs).1
              have hF := ty_Fok_st (j := ty_ix k) (v := v) (x := (tx, fs)) ho.2.2.1 g1 rfl hix.2 (by rw [hix.1]; exact hl)
              rw [hix.1] at hF
              refine ty_go_sto hg0 ho hi (y := (tx, fs.set k (sx_v σ v))) ?_ hga q5 (ty_cok_ost q2 g2 hs (ty_fit_ok hiw.1 q6)) hF (List.mem_singleton.mpr rfl)
              simp only [List.map_cons, sx_vref, am_step, hpf, g1]
              rw [if_pos]
              simp only [Bool.and_eq_true, Nat.blt_eq]
              exact ⟨Nat.beq_refl _, q4, hl, ty_pf_ok hiw.1 q7, q8⟩
            · cases hc
          · cases hc
        · cases hc
      · cases hc
    · cases hc
  · -- ireturn
    split at hc
    · rename_i v
      have hb2 := ty_ite hc
      clear hc
      rcases hb2 with ⟨hq, hc⟩ | ⟨_, hc⟩
      · simp only [Bool.and_eq_true] at hq
        obtain ⟨x, hx⟩ := ty_isi_ok (σ := σ) hq.1
        have hnw : am_nw (am_rt mid) x = true := by
          have h2 := hq.2
          split at h2
          · rename_i he
            rw [he]
            rfl
          · rename_i he
            rw [he]
            obtain ⟨y, e1, e2, e3⟩ := ty_fit_ok hiw.1 h2
            rw [hx] at e1
            cases e1
            dsimp only at e2 e3
            simp only [am_nw, Bool.or_eq_true, beq_iff_eq]
            by_cases q : x.toInt = 0
            · exact Or.inl (Int32.toInt_inj.mp q)
            · exact Or.inr (Int32.toInt_inj.mp (show x.toInt = 1 by omega))
          · cases h2
        refine ty_ret_ok ho hmid (hE _ (fun d' L' h' => ⟨rfl, ?_⟩)) hc
        simp only [List.map_cons, List.map_nil, hx, am_ctl, Option.map_some]
        rw [if_pos hnw]
      · cases hc
    · cases hc
  · -- return
    split at hc
    · have hb2 := ty_ite hc
      clear hc
      rcases hb2 with ⟨hq, hc⟩ | ⟨_, hc⟩
      · refine ty_ret_ok ho hmid (hE _ (fun d' L' h' => ⟨rfl, ?_⟩)) hc
        simp only [List.map_nil, am_ctl, Option.map_none]
        rw [if_pos hq]
      · cases hc
    · cases hc
  · -- areturn
    split at hc
    · rename_i a
      have hb2 := ty_ite hc
      clear hc
      rcases hb2 with ⟨hq, hc⟩ | ⟨_, hc⟩
      · refine ty_ret_ok ho hmid (hE _ (fun d' L' h' => ⟨rfl, ?_⟩)) hc
        simp only [List.map_cons, List.map_nil, sx_vref, am_ctl, Option.map_some]
        rw [if_pos hq]
      · cases hc
    · cases hc
  · -- new: a throw
    rename_i x
    split at hc
    · cases hc
    · rename_i hpc
      split at hc
      · rename_i X hX
        have hb2 := ty_ite hc
        clear hc
        rcases hb2 with ⟨hq, hc⟩ | ⟨_, hc⟩
        · simp only [Bool.and_eq_true] at hq
          obtain ⟨q1, q2, q3, q4⟩ := hq
          obtain ⟨⟨d', mid', pc', L', st'⟩, H, K'⟩ := c
          obtain ⟨a1, a2, a3, ⟨k1, k2, k3, k4, k5⟩, a5, a6⟩ := ho
          dsimp only at a1 a2 a3 k1 k2 k3 k4 k5 a5 a6
          subst k2 k3 k5
          have hlen : H.length = H0.length := by
            rcases a6.2 with q | ⟨_, q, _⟩
            · exact q
            · have := Nat.le_of_ble_eq_true q1
              omega
          have hrun : ∀ R : am_O × am_H, am_end K' (.inr X, H ++ [(X, [])]) R → am_Ev ((d', mid', pc', L', st.map (sx_v σ)), H, K') R := by
            intro R hR
            refine ⟨1, (.inr X, H ++ [(X, [])]), ?_, hR⟩
            show am_body (am_run 0) d' mid' pc' L' (st.map (sx_v σ)) H = _
            unfold am_body
            rw [hi]
            simp only [am_step, hpc, am_ctl, hX, sx_wt]
            rw [if_pos]
            simp only [Bool.and_eq_true]
            exact ⟨mo_ble q1 k1.1, mo_ble q2 k1.2, q3, q4⟩
          have hun : ty_un C0.2.1.2.2.1 H0 (H ++ [(X, [])]) := fun p hp y hy => by
            have := a6.1 p hp y hy
            rw [List.getElem?_append_left (List.getElem?_eq_some_iff.mp this).1]
            exact this
          have hgr : ty_gr H0 (H ++ [(X, [])]) := by
            refine ⟨by rw [List.length_append, hlen]; rfl, X, ?_⟩
            rw [← hlen, List.getElem?_append_right (Nat.le_refl _), Nat.sub_self]
            rfl
          have hg1 : ty_gok g (H ++ [(X, [])]) := ty_gok_app a2 _
          have hF1 : ty_Fok F σ (H ++ [(X, [])]) := ty_Fok_app a3 _
          split at hc
          · cases K' with
            | cons _ _ => exact a5.elim
            | nil =>
              rcases ty_ite hc with ⟨hq, hc⟩ | ⟨_, hc⟩
              · exact Or.inl ⟨_, hrun _ rfl, hg1, hun, by simpa using hq, hgr⟩
              · cases hc
          · rename_i q K2
            cases K' with
            | nil => exact a5.elim
            | cons q' K2' =>
              rcases ty_thr_ok a1 hg1 hF1 hun hgr K2 K2' q q' Ss hc a5.1 a5.2 with ⟨S, u1, c', u2, u3⟩ | ⟨u1, u2⟩
              · exact Or.inr ⟨S, u1, σ, c', u2, fun R hR => hrun R (u3 R hR)⟩
              · exact Or.inl ⟨_, hrun _ u2, hg1, hun, u1, hgr⟩
        · cases hc
      · cases hc
  · exact ty_call_ok hg0 IH ho hi (fun _ _ _ => rfl) (fun _ _ _ _ _ => rfl) hc
  · exact ty_call_ok hg0 IH ho hi (fun _ _ _ => rfl) (fun _ _ _ _ _ => rfl) hc
  · exact ty_call_ok hg0 IH ho hi (fun _ _ _ => rfl) (fun _ _ _ _ _ => rfl) hc
  · cases hc
theorem ty_1_ok {rank : Nat} {S : ty_S} {c : am_G} {Ss : List ty_S} (hg0 : ty_gok g H0) (IH : ty_IH g T rank) (ho : ty_ho g C0 l0 H0 σ S c) (hc : ty_1 g T C0 rank S = some Ss) : ty_go g C0 l0 H0 c Ss := by
  obtain ⟨iv, F, ⟨d, mid, pc, L, st⟩, K⟩ := S
  simp only [ty_1] at hc
  split at hc
  · cases hc
  · rename_i i hi0
    rcases ty_ite hi0 with ⟨_, h⟩ | ⟨hm, hi⟩
    · cases h
    · have hmid : K = [] → mid = C0.1.1 := by
        intro hK
        rw [hK] at hm
        simp only [List.isEmpty_nil, Bool.true_and, Bool.not_eq_false'] at hm
        exact Nat.eq_of_beq_eq_true hm
      split at hc
      · rename_i pc1 L1 st1 h1 hs
        split at hc
        · rename_i hn
          cases hc
          have : h1 = [] := by
            cases h1 with
            | nil => rfl
            | cons _ _ => cases hn
          subst this
          have hs1 := sx_step (σ := σ) hs
          exact ty_go_same ho hi (mo_pure hs1 c.2.1) (List.mem_singleton.mpr rfl) ho.1
        · cases hc
      · exact ty_i_ok hg0 IH ho hi hmid hc
end TYJ
