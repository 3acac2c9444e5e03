/-! INSTRUCTIONS BY BOUNDS: branches, elements, fields -/
section TYI
variable {σ : Nat → Int32} {g : List ty_X} {T : List ty_C} {C0 : ty_C} {l0 : Nat → Int32} {H0 : am_H}
theorem ty_and1 (v : Int32) : 0 ≤ (v &&& 1).toInt ∧ (v &&& 1).toInt ≤ 1 := by
  have e : (v &&& 1).toBitVec.toNat = v.toBitVec.toNat % 2 := by
    rw [Int32.toBitVec_and, BitVec.toNat_and]
    exact Nat.and_one_is_mod _
  have h : (v &&& 1).toInt = ((v &&& 1).toBitVec.toNat : Int) := BitVec.toInt_eq_toNat_of_lt (by omega)
  rw [h, e]
  omega
theorem ty_isi_ok {v : Value} (h : ty_isi v = true) : ∃ x : Int32, sx_v σ v = .int x := by
  match v, h with
  | .int x, _ => exact ⟨x, rfl⟩
  | .retAddr (k + 1), _ => exact ⟨σ k, rfl⟩
theorem ty_bs_ok {iv : List ty_B} (hiv : ty_ivok iv σ) {v : Value} (h : (ty_bd iv v).isSome = true) : ∃ x : Int32, sx_v σ v = .int x := by
  obtain ⟨⟨l, u⟩, hb⟩ := Option.isSome_iff_exists.mp h
  obtain ⟨x, e, _⟩ := ty_bd_ok hiv hb
  exact ⟨x, e⟩
theorem ty_br_ok {iv : List ty_B} {F : ty_F} {d : Nat × Nat} {mid pc : Nat} {L st r : List Value} {K : List am_K} {c : am_G} {i : Jvm.ClassFile.Instr} {Ss : List ty_S} {cd : Jvm.ClassFile.Cond} {x y : Value} {o : Int}
    (ho : ty_ho g C0 l0 H0 σ (iv, F, (d, mid, pc, L, st), K) c) (hi : am_code mid pc = some i)
    (hs : ∀ vx vy : Int32, sx_v σ x = .int vx → sx_v σ y = .int vy → (sx_rel cd vx vy → am_step mid pc (L.map (sx_v σ)) (st.map (sx_v σ)) c.2.1 i = some (am_jmp pc o, L.map (sx_v σ), r.map (sx_v σ), c.2.1)) ∧ (¬ sx_rel cd vx vy → am_step mid pc (L.map (sx_v σ)) (st.map (sx_v σ)) c.2.1 i = some (pc + 3, L.map (sx_v σ), r.map (sx_v σ), c.2.1)))
    (hb : ty_br iv F d mid pc L r K cd x y o = some Ss) : ty_go g C0 l0 H0 c Ss := by
  unfold ty_br at hb
  rcases ty_ite hb with ⟨hq, hb⟩ | ⟨_, hb⟩
  · cases hb
    simp only [Bool.and_eq_true] at hq
    obtain ⟨vx, e1⟩ := ty_bs_ok ho.1.1 hq.1
    obtain ⟨vy, e2⟩ := ty_bs_ok ho.1.1 hq.2
    obtain ⟨s1, s2⟩ := hs vx vy e1 e2
    by_cases hc : sx_rel cd vx vy
    · obtain ⟨iv', m1, m2⟩ := ty_rf_iw ho.1 e1 e2 hc
      exact ty_go_same ho hi (s1 hc) (List.mem_append_left _ (List.mem_map.mpr ⟨iv', m1, rfl⟩)) m2
    · obtain ⟨iv', m1, m2⟩ := ty_rf_iw ho.1 e1 e2 (ty_neg_ok.mp hc)
      exact ty_go_same ho hi (s2 hc) (List.mem_append_right _ (List.mem_map.mpr ⟨iv', m1, rfl⟩)) m2
  · cases hb
theorem ty_ofi {n : Int} (h1 : -2147483648 ≤ n) (h2 : n ≤ 2147483647) : (Int32.ofInt n).toInt = n := Int32.toInt_ofInt_of_le (by omega) (by omega)
theorem ty_sw_mem {n0 : Nat} {iv : List ty_B} (h : ty_iw n0 l0 iv σ) {F : ty_F} {d : Nat × Nat} {mid pc : Nat} {L r : List Value} {K : List am_K} {x : Value} {vx : Int32} (hx : sx_v σ x = .int vx) : ∀ (os : List Int) (lo : Int) (n : Nat) (o : Int), os[n]? = some o → vx.toInt = lo + n → ∃ iv' : List ty_B, ty_iw n0 l0 iv' σ ∧ (iv', F, (d, mid, am_jmp pc o, L, r), K) ∈ ty_sw iv F d mid pc L r K x lo os
  | [], _, _, _, hn, _ => by simp at hn
  | o1 :: os, lo, 0, o, hn, hv => by
    simp only [List.getElem?_cons_zero, Option.some.injEq] at hn
    subst hn
    have e : vx = Int32.ofInt lo := by
      rw [show lo = vx.toInt by omega, Int32.ofInt_toInt]
    obtain ⟨iv', m1, m2⟩ := ty_rf_iw (c := .eq) (w := .int (Int32.ofInt lo)) h hx rfl e
    exact ⟨iv', m2, List.mem_append_left _ (List.mem_map.mpr ⟨iv', m1, rfl⟩)⟩
  | o1 :: os, lo, n + 1, o, hn, hv => by
    rw [List.getElem?_cons_succ] at hn
    obtain ⟨iv', m1, m2⟩ := ty_sw_mem h (F := F) (d := d) (mid := mid) (pc := pc) (L := L) (r := r) (K := K) hx os (lo + 1) n o hn (by omega)
    exact ⟨iv', m1, List.mem_append_right _ m2⟩
theorem ty_aa_mem {n0 : Nat} {iv : List ty_B} (h : ty_iw n0 l0 iv σ) {F : ty_F} {d : Nat × Nat} {mid pc : Nat} {L r : List Value} {K : List am_K} {x : Value} {vx : Int32} (hx : sx_v σ x = .int vx) : ∀ (ss : List ty_V) (lo : Int) (n : Nat) (s : ty_V), ss[n]? = some s → vx.toInt = lo + n → ∃ iv' : List ty_B, ty_iw n0 l0 iv' σ ∧ (iv', F, (d, mid, pc + 1, L, .ref s.2.1.toNat :: r), K) ∈ ty_aa iv F d mid pc L r K x lo ss
  | [], _, _, _, hn, _ => by simp at hn
  | s1 :: ss, lo, 0, s, hn, hv => by
    simp only [List.getElem?_cons_zero, Option.some.injEq] at hn
    subst hn
    have e : vx = Int32.ofInt lo := by
      rw [show lo = vx.toInt by omega, Int32.ofInt_toInt]
    obtain ⟨iv', m1, m2⟩ := ty_rf_iw (c := .eq) (w := .int (Int32.ofInt lo)) h hx rfl e
    exact ⟨iv', m2, List.mem_append_left _ (List.mem_map.mpr ⟨iv', m1, rfl⟩)⟩
  | s1 :: ss, lo, n + 1, s, hn, hv => by
    rw [List.getElem?_cons_succ] at hn
    obtain ⟨iv', m1, m2⟩ := ty_aa_mem h (F := F) (d := d) (mid := mid) (pc := pc) (L := L) (r := r) (K := K) hx ss (lo + 1) n s hn (by omega)
    exact ⟨iv', m1, List.mem_append_right _ m2⟩
theorem ty_refs_ok : ∀ {ss : List ty_V}, ty_refs ss = true → ∀ (n : Nat) (s : ty_V), ss[n]? = some s → s.1 = 1
  | [], _, n, s, h => by simp at h
  | s1 :: ss, h, 0, s, hn => by
    simp only [ty_refs, Bool.and_eq_true] at h
    simp only [List.getElem?_cons_zero, Option.some.injEq] at hn
    subst hn
    exact Nat.eq_of_beq_eq_true h.1
  | s1 :: ss, h, n + 1, s, hn => by
    simp only [ty_refs, Bool.and_eq_true] at h
    rw [List.getElem?_cons_succ] at hn
    exact ty_refs_ok h.2 n s hn
def ty_bv (σ : Nat → Int32) : Nat → Int
  | 0 => 0
  | k + 1 => (σ k).toInt
theorem ty_or_ok {n0 : Nat} {iv : List ty_B} (h : ty_iw n0 l0 iv σ) {v : Value} {b : Nat} {o : Int} (hv : ty_or iv v = some (b, o)) : ∃ x : Int32, sx_v σ v = .int x ∧ x.toInt = ty_bv σ b + o := by
  match v, hv with
  | .int x, hv =>
    cases hv
    exact ⟨x, rfl, by simp [ty_bv]⟩
  | .retAddr (k + 1), hv =>
    simp only [ty_or] at hv
    split at hv
    · rename_i e he
      split at hv
      · cases hv
        exact ⟨σ k, rfl, by simp [ty_bv]⟩
      · rename_i j hj
        cases hv
        exact ⟨σ k, rfl, (h.1 k e he).2.2.1 j hj⟩
    · cases hv
theorem ty_op_ok {iv : List ty_B} {a b : Nat} {o : Int} {v : Value} : ∀ {F : ty_F}, ty_op iv a b o F = some v → ∃ (i : Value) (o' : Int), (a, i, v) ∈ F ∧ ty_or iv i = some (b, o') ∧ o = o' + 3
  | [], h => by cases h
  | q :: r, h => by
    simp only [ty_op] at h
    rcases ty_ite h with ⟨hq, h⟩ | ⟨_, h⟩
    · cases h
      simp only [Bool.and_eq_true] at hq
      obtain ⟨h1, h2⟩ := hq
      split at h2
      · rename_i b' o' ho
        simp only [Bool.and_eq_true, decide_eq_true_eq] at h2
        have e1 := Nat.eq_of_beq_eq_true h1
        have e2 := Nat.eq_of_beq_eq_true h2.1
        refine ⟨q.2.1, o', ?_, by rw [ho, e2], h2.2⟩
        rw [← e1]
        exact List.mem_cons_self
      · cases h2
    · obtain ⟨i, o', m1, m2⟩ := ty_op_ok h
      exact ⟨i, o', List.mem_cons_of_mem _ m1, m2⟩
theorem ty_ints_ok : ∀ {ss : List ty_V}, ty_ints ss = true → ∀ (n : Nat) (s : ty_V), ss[n]? = some s → s.1 = 0 ∨ s.1 = 5
  | [], _, n, s, h => by simp at h
  | s1 :: ss, h, 0, s, hn => by
    simp only [ty_ints, Bool.and_eq_true, Bool.or_eq_true] at h
    simp only [List.getElem?_cons_zero, Option.some.injEq] at hn
    subst hn
    exact h.1.imp Nat.eq_of_beq_eq_true Nat.eq_of_beq_eq_true
  | s1 :: ss, h, n + 1, s, hn => by
    simp only [ty_ints, Bool.and_eq_true] at h
    rw [List.getElem?_cons_succ] at hn
    exact ty_ints_ok h.2 n s hn
theorem ty_ald_ok {iv : List ty_B} {F : ty_F} {d : Nat × Nat} {mid pc t : Nat} {L st : List Value} {K : List am_K} {c : am_G} {i : Jvm.ClassFile.Instr} {Ss : List ty_S}
    (ho : ty_ho g C0 l0 H0 σ (iv, F, (d, mid, pc, L, st), K) c) (hi : am_code mid pc = some i) (ht : ty_one (32 + t) = true)
    (hs : ∀ (L' st' : List Value) (h' : am_H), am_step mid pc L' st' h' i = am_ald pc L' st' h' t)
    (hb : ty_ald g iv F d mid pc L st K (32 + t) = some Ss) : ty_go g C0 l0 H0 c Ss := by
  unfold ty_ald at hb
  split at hb
  · rename_i j a r
    split at hb
    · rename_i tg len ss hga
      have hb0 := ty_ite hb
      clear hb
      rcases hb0 with ⟨hq, hb⟩ | ⟨_, hb⟩
      · have hiw : ty_iw (ty_n0 C0) l0 iv σ := ho.1
        have hb2 := ty_ite hb
        clear hb
        rcases hb2 with ⟨ht0, hb⟩ | ⟨_, hb⟩
        · have ht0 : t = 0 := by
            have := Nat.eq_of_beq_eq_true ht0
            omega
          split at hb
          · rename_i b o hor
            split at hb
            · rename_i v hop
              cases hb
              obtain ⟨i', o', m1, m2, m3⟩ := ty_op_ok hop
              obtain ⟨w3, o3, o4⟩ := ty_or_ok hiw m2
              obtain ⟨w, o1, o2⟩ := ty_or_ok hiw hor
              obtain ⟨y, j', f1, f2, f3, f4⟩ := ho.2.2.1 _ _ _ m1
              obtain ⟨⟨tx, fs⟩, g1, g2⟩ := ho.2.1 a _ hga
              have hx : tx = 32 := by
                have h98 : tg = 98 := Nat.eq_of_beq_eq_true hq
                unfold ty_cok at g2
                rw [h98] at g2
                exact g2
              rw [g1] at f1
              cases f1
              rw [o3] at f2
              cases f2
              have hw : w = w3 := Int32.toInt_inj.mp (by rw [o2, o4]; omega)
              subst hw
              refine ty_go_same ho hi (st1 := v :: r) ?_ (List.mem_singleton.mpr rfl) hiw
              rw [hs]
              simp only [List.map_cons, o1, sx_vref, am_ald, g1]
              rw [if_pos (by rw [hx, ht0]; rfl), if_neg (ty_nn f3), f4]
            · cases hb
          · cases hb
        · cases hb
      have hb2 := ty_ite hb
      clear hb
      rcases hb2 with ⟨hq, hb⟩ | ⟨_, hb⟩
      · simp only [Bool.and_eq_true] at hq
        have hiw : ty_iw (ty_n0 C0) l0 iv σ := ho.1
        obtain rfl := Nat.eq_of_beq_eq_true hq.1
        obtain ⟨w, e1, e2, e3⟩ := ty_idx_ok hiw.1 hq.2
        obtain ⟨⟨tx, fs⟩, g1, g2⟩ := ho.2.1 a _ hga
        rw [ty_cok_arr ht] at g2
        obtain ⟨p1, p2, p3, p4⟩ := g2
        dsimp only at p1 p2 p3 p4
        subst p1
        have hl : w.toNatClampNeg < fs.length := by rw [p2]; exact e3
        have rd : ∀ u : Value, fs[w.toNatClampNeg]? = some u → am_step mid pc (L.map (sx_v σ)) ((j :: .ref a :: r).map (sx_v σ)) c.2.1 i = some (pc + 1, L.map (sx_v σ), u :: r.map (sx_v σ), c.2.1) := by
          intro u hu
          rw [hs]
          simp only [List.map_cons, e1, sx_vref, am_ald, g1]
          rw [if_pos (Nat.beq_refl _), if_neg (ty_nn e2), hu]
        have full : ∀ (x : Int32) (b : ty_B), fs[w.toNatClampNeg]? = some (.int x) → ty_nb σ iv.length x b → ty_pushF iv b F a j d mid (pc + 1) L r K = some Ss → ty_go g C0 l0 H0 c Ss := fun x b hx hnb hp => ty_go_pushF ho hi (rd _ hx) hnb g1 e1 e2 hx hp
        split at hb
        · rename_i v hv
          cases hb
          obtain ⟨y, j', f1, f2, f3, f4⟩ := ho.2.2.1 _ _ _ (ty_Fget_mem hv)
          rw [g1] at f1
          cases f1
          rw [e1] at f2
          cases f2
          exact ty_go_same ho hi (st1 := v :: r) (rd _ f4) (List.mem_singleton.mpr rfl) ho.1
        · have hrow : ∀ k : ty_V, ty_arow iv j ss = some k → ss[w.toNatClampNeg % ss.length]? = some k ∨ (k = (0, -2147483648, 2147483647) ∧ ∃ x : Int32, fs[w.toNatClampNeg]? = some (.int x)) := by
            intro k hk
            unfold ty_arow at hk
            rcases ty_ite hk with ⟨hz, hk⟩ | ⟨_, hk⟩
            · rw [Nat.eq_of_beq_eq_true hz, Nat.mod_one]
              exact Or.inl hk
            · rcases ty_ite hk with ⟨hz, hk⟩ | ⟨_, hk⟩
              · rcases ty_ite hk with ⟨hz2, hk⟩ | ⟨_, hk⟩
                · rw [Nat.blt_eq] at hz2
                  have := ty_res_ok hiw.1 e1 hz2
                  have := ty_cl e2
                  rw [Nat.eq_of_beq_eq_true hz]
                  rw [show w.toNatClampNeg % 4 = ty_res iv j by omega]
                  exact Or.inl hk
                · rcases ty_ite hk with ⟨hz2, hk⟩ | ⟨_, hk⟩
                  · cases hk
                    have h4 : w.toNatClampNeg % ss.length < ss.length := Nat.mod_lt _ (by rw [Nat.eq_of_beq_eq_true hz]; decide)
                    have hv := p3 _ _ _ (List.getElem?_eq_getElem h4) (List.getElem?_eq_getElem hl)
                    have hi5 := ty_ints_ok hz2 _ _ (List.getElem?_eq_getElem h4)
                    refine Or.inr ⟨rfl, ?_⟩
                    unfold ty_vok at hv
                    rcases hi5 with hi5 | hi5 <;> rw [hi5] at hv
                    · obtain ⟨x, e, _⟩ := hv
                      exact ⟨x, by rw [List.getElem?_eq_getElem hl, e]⟩
                    · obtain ⟨x, e⟩ := hv
                      exact ⟨x, by rw [List.getElem?_eq_getElem hl, e]⟩
                  · cases hk
              · cases hk
          have hget : fs[w.toNatClampNeg]? = some fs[w.toNatClampNeg] := List.getElem?_eq_getElem hl
          split at hb
          · rename_i lo hi2 hr
            rcases hrow _ hr with hr2 | ⟨hr2, x, hx⟩
            · have hv := p3 _ _ _ hr2 hget
              obtain ⟨x, x1, x2, x3⟩ := hv
              rw [x1] at hget
              exact full x _ hget (ty_nb_bd _ x2 x3) hb
            · cases hr2
              have nb := ty_nb_full (σ := σ) iv.length x
              exact full x _ hx (ty_nb_bd _ nb.1 nb.2.1) hb
          · rename_i lo hi2 hr
            have hr2 : ss[w.toNatClampNeg % ss.length]? = some (5, lo, hi2) := by
              rcases hrow _ hr with hr2 | ⟨hr2, _⟩
              · exact hr2
              · cases hr2
            have hv := p3 _ _ _ hr2 hget
            obtain ⟨x, x1⟩ := hv
            rw [x1] at hget
            rcases ty_ite hb with ⟨hz, hb⟩ | ⟨_, hb⟩
            · simp only [Bool.and_eq_true] at hz
              have hs4 := Nat.eq_of_beq_eq_true hz.1
              have hr3 := Nat.eq_of_beq_eq_true hz.2
              have hw3 : w.toNatClampNeg % 4 = 3 := by
                have := ty_res_ok hiw.1 e1 (by rw [hr3]; decide)
                rw [hr3] at this
                have := ty_cl e2
                omega
              have hss : ss[3]? = some (5, lo, hi2) := by
                have := hr2
                rw [hs4, hw3] at this
                exact this
              split at hb
              · rename_i b o hor
                obtain ⟨w2, o1, o2⟩ := ty_or_ok hiw hor
                rw [e1] at o1
                cases o1
                split at hb
                · rename_i v hop
                  obtain ⟨i', o', m1, m2, m3⟩ := ty_op_ok hop
                  obtain ⟨w3, o3, o4⟩ := ty_or_ok hiw m2
                  obtain ⟨y, j', f1, f2, f3, f4⟩ := ho.2.2.1 _ _ _ m1
                  rw [g1] at f1
                  cases f1
                  rw [o3] at f2
                  cases f2
                  have hidx : w3.toNatClampNeg = w.toNatClampNeg - 3 := by
                    have hz : w.toInt = w3.toInt + 3 := by rw [o2, o4, m3, Int.add_assoc]
                    have := ty_cl e2
                    have := ty_cl f3
                    omega
                  rw [hidx] at f4
                  split at hb
                  · rename_i l u hbd
                    obtain ⟨xv, y1, y2, y3⟩ := ty_bd_ok hiw.1 hbd
                    rw [y1] at f4
                    rcases ty_ite hb with ⟨hz, hb⟩ | ⟨_, hb⟩
                    · have hne : xv ≠ 0 := by
                        intro hz0
                        have : xv.toInt = 0 := by rw [hz0]; rfl
                        simp only [Bool.or_eq_true, ty_leq] at hz
                        omega
                      rcases p4 lo hi2 hss _ _ hw3 hget with q | q
                      · rw [f4] at q
                        cases q
                        exact absurd rfl hne
                      · exact full x _ hget (ty_nb_bd _ q.1 q.2) hb
                    · rcases ty_ite hb with ⟨hz, hb⟩ | ⟨_, hb⟩
                      · exact full x _ hget (ty_nb_full _ _) hb
                      · cases hb
                        by_cases hx0 : xv = 0
                        · obtain ⟨iv', m1, m2⟩ := ty_rf_iw (c := .eq) (w := .int 0) hiw y1 rfl hx0
                          exact Or.inr ⟨_, List.mem_append_left _ (List.mem_map.mpr ⟨iv', m1, rfl⟩), σ, c, ⟨m2, ho.2⟩, fun _ hr => hr⟩
                        · obtain ⟨iv', m1, m2⟩ := ty_rf_iw (c := .ne) (w := .int 0) hiw y1 rfl hx0
                          exact Or.inr ⟨_, List.mem_append_right _ (List.mem_map.mpr ⟨iv', m1, rfl⟩), σ, c, ⟨m2, ho.2⟩, fun _ hr => hr⟩
                  · cases hb
                · exact full x _ hget (ty_nb_full _ _) hb
              · cases hb
            · cases hb
          · cases hb
      · cases hb
    · cases hb
  · cases hb
end TYI
