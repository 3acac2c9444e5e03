/-! FIELDS, NEW OBJECTS -/
/-- what the tables say of class ci -/
def am_cok (ci : Nat) (C : String) (T : u_T) (N : Nat) : Prop := am_cl[ci]? = some (C, T, N) ∧ am_aty ci = none ∧ (∀ w ∈ u_ws C T N, w ∈ am_tbl) ∧ (∀ j, j < N → parseFieldDescriptor (T j).2.2.1 = some (am_fty ci j)) ∧ (∀ a, a < N → ∀ b, b < N → a ≠ b → (T a).2.1 ≠ (T b).2.1)
/-- ... of a field's entry of a pool -/
def am_fok (oc x ci k : Nat) : Prop := ∃ (C : String) (T : u_T) (N : Nat), am_cok ci C T N ∧ k < N ∧ Cond.fieldLink (am_on oc) x (T k).1 (T k).2.1 (T k).2.2.1 ∈ am_tbl
/-- who may write a final field -/
def am_fnok (mid ci k : Nat) : Prop := ∀ (C : String) (T : u_T) (N : Nat), am_cl[ci]? = some (C, T, N) → am_fin mid ci k = true → (T k).2.2.2 = false ∨ ((T k).2.2.2 = true ∧ (am_y mid).name = "<init>" ∧ (T k).1 = (am_y mid).cls)
theorem am_lay_good (C : String) (T : u_T) (N : Nat) : ∀ w ∈ u_ws C T N, goodWord w = true := by
  intro w hw
  obtain ⟨k, -, rfl⟩ := List.mem_map.mp hw
  unfold u_lay
  split <;> rfl
theorem am_fit_ok {ty : FieldType} {v : Value} {ad : Nat → Nat} (h : am_fit ty v = true) : narrow ty (am_rv ad v) = am_rv ad v ∧ fits ty (am_rv ad v) = true := by
  cases ty <;> cases v <;> first | exact ⟨rfl, rfl⟩ | (simp [am_fit] at h; done) | skip
  all_goals
    simp only [am_fit, Bool.or_eq_true, beq_iff_eq] at h
    rcases h with rfl | rfl <;> exact ⟨rfl, rfl⟩
theorem am_vpV {ad : Nat → Nat} {fs : List Value} {k : Nat} {v : Value} (h : fs[k]? = some v) : vp_V (fs.map (am_rv ad)) k = am_rv ad v := by
  simp [vp_V, h]
section AMF
variable {p : Program} {l : Launch} {e : Env} {R : Room} {s : State} {m : MethodId} {args : Array Value} {below : List Frame} {meth : Method} {c : Code} {H : Heap} {locs : List Loc} {cells slots : Nat} {Q : State → Prop}
variable {S0 : State} {D : va_G} {base : Nat} {ad : Nat → Nat} {A0 : Array Value}
/-- the object at a place -/
theorem am_P.obj {h : am_H} (hP : am_P S0 D base ad h H) {a ci : Nat} {fs : List Value} (ha : h[a]? = some (ci, fs)) {C : String} {T : u_T} {N : Nat} (hc : am_cok ci C T N) : N ≤ fs.length ∧ t_OB (ad a) (D.1 ci) N (D.2 ci) H (vp_V (fs.map (am_rv ad))) := by
  have h1 := hP.2.1 a _ ha
  unfold am_cell at h1
  rw [hc.2.1] at h1
  obtain ⟨r, r1, r2, r3⟩ := h1
  cases Option.some.inj (r1.symm.trans hc.1)
  exact ⟨r2, r3⟩
theorem am_k_getfield (hF : ∀ oc x ci k : Nat, am_pf oc x = some (ci, k) → am_fok oc x ci k) (x : Nat) : am_St p l e R s m args below meth c H locs cells slots Q S0 D base ad A0 (.getfield x) := by
  intro nL mid pc len L st h pc' L' st' h' ls hX hZ hd hn hs hl hP h2 hlo hc hz kk
  obtain rfl : len = 3 := Nat.eq_of_beq_eq_true hn
  simp only [am_step] at hs
  split at hs
  · rename_i ci k hpf
    split at hs
    · rename_i a r
      split at hs
      · rename_i tg fs ha
        split at hs
        · rename_i hq
          obtain rfl := Nat.eq_of_beq_eq_true hq
          split at hs
          · rename_i v hv
            cases hs
            obtain ⟨C, T, N, hco, hk, hlink⟩ := hF _ _ _ _ hpf
            obtain ⟨hN, cell, q1, q2, q3, q4⟩ := hP.obj ha hco
            obtain ⟨hS, hfc, kC, hkC, hkind⟩ := (va_K.moved hX.2.1.alike hZ.2.1).1 _ _ hco.1
            obtain ⟨cf, kf, fi, f, hi, hsl⟩ := hS k hk
            have hts : ∀ w ∈ u_ws C T N, w.before args s = true := fun w hw => am_word hZ hX.2.1 (hco.2.2.1 w hw) (am_lay_good C T N w hw) args
            have hown := findClass_of_methodNamed hX.2.2.1
            rw [hX.2.2.2.2.2.2.2.2.1] at hown
            have hst := (u_facts hfc hkC (u_lays hts (fun _ z => z) hk) hi).1
            have hsv : cell.slots[f.slot]? = some (am_rv ad v) := by rw [hsl, q4 k hk, am_vpV hv]
            have kk2 := kk H locs cells slots ls hl hP (Nat.le_refl _) hlo rfl rfl
            exact W.getf hX.1 rfl hown (am_word hZ hX.2.1 hlink rfl args) hi hst q1 (by rw [q3]; exact fun z => by cases z) hsv rfl rfl hd kk2
          · cases hs
        · cases hs
      · cases hs
    · cases hs
  · cases hs
theorem am_k_putfield (hF : ∀ oc x ci k : Nat, am_pf oc x = some (ci, k) → am_fok oc x ci k) (hFn : ∀ mid ci k : Nat, am_fnok mid ci k) (x : Nat) : am_St p l e R s m args below meth c H locs cells slots Q S0 D base ad A0 (.putfield x) := by
  intro nL mid pc len L st h pc' L' st' h' ls hX hZ hd hn hs hl hP h2 hlo hc hz kk
  obtain rfl : len = 3 := Nat.eq_of_beq_eq_true hn
  simp only [am_step] at hs
  split at hs
  · rename_i ci k hpf
    split at hs
    · rename_i v a r
      split at hs
      · rename_i tg fs ha
        split at hs
        · rename_i hq
          cases hs
          simp only [Bool.and_eq_true] at hq
          obtain ⟨hq1, hq2, hq3, hq4, hq5⟩ := hq
          obtain rfl := Nat.eq_of_beq_eq_true hq1
          have ha2 : 2 ≤ a := Nat.le_of_ble_eq_true hq2
          have hkl : k < fs.length := Nat.le_of_ble_eq_true hq3
          obtain ⟨C, T, N, hco, hk, hlink⟩ := hF _ _ _ _ hpf
          obtain ⟨hN, cell, q1, q2, q3, q4⟩ := hP.obj ha hco
          have hK := va_K.moved hX.2.1.alike hZ.2.1
          obtain ⟨hS, hfc, kC, hkC, hkind⟩ := hK.1 _ _ hco.1
          obtain ⟨cf, kf, fi, f, hi, hsl⟩ := hS k hk
          have hts : ∀ w ∈ u_ws C T N, w.before args s = true := fun w hw => am_word hZ hX.2.1 (hco.2.2.1 w hw) (am_lay_good C T N w hw) args
          have hap := va_apart (own := (am_y mid).cls) hts (fun _ z => z) (am_fty tg) hco.2.2.2.1 hco.2.2.2.2 hK hco.1
          have hown := findClass_of_methodNamed hX.2.2.1
          have hst := (u_facts hfc hkC (u_lays hts (fun _ z => z) hk) hi).1
          obtain ⟨hf1, hf2⟩ := am_fit_ok (ad := ad) hq4
          have hlt : f.slot < cell.slots.size := by rw [hsl]; exact k2_hasslot (q4 k hk)
          have kk2 : ∀ H' : Heap, H'[ad a]? = some (cell.setSlot f.slot (am_rv ad v)) → H'.size = H.size → (∀ q, q ≠ ad a → H'[q]? = H[q]?) → W p l e R s m args below meth c H' (locs ++ [⟨ad a, f.slot⟩]) cells slots Q (F0 m (pc + 3) ls (st'.map (am_rv ad))) := fun H' e1 e2 e3 => by
            refine kk H' _ cells slots ls hl (hP.set hZ.2.2.2 ha2 ?_ e2 e3) (by simp) (am_loc hlo (hZ.2.2.2.bs ha2)) (by simp) ?_
            · unfold am_cell
              rw [hco.2.1]
              refine ⟨_, hco.1, by simpa using hN, ?_⟩
              rw [hsl] at e1
              refine t_OB.to (V := updV (vp_V (fs.map (am_rv ad))) k (am_rv ad v)) ⟨_, e1, q2, q3, t_set q4 hap hk _⟩ (fun j _ => ?_)
              rw [vp_updV_set (by simpa using hkl), List.map_set]
            · rw [am_sz_set h a _ _ ha (by simp [am_csz, hco.2.1])]
          have hlay := hts _ (u_in_lay hk)
          unfold u_lay at hlay
          rcases hFn mid tg k C T N hco.1 hq5 with hfn | ⟨hfn, hnm, hdc⟩
          · rw [if_neg (by rw [hfn]; decide)] at hlay
            have h6 := u_store hfc hkC hkind hlay hi (hco.2.2.2.1 k hk) hf1 hf2
            exact W.putK hX.1 rfl (f := f) ⟨hown, by rw [hX.2.2.2.2.2.2.2.2.1]; exact am_word hZ hX.2.1 hlink rfl args, ⟨cf, kf, fi, hi⟩, hst⟩ (by rw [q2]; exact h6) q1 q3 hlt rfl rfl hd kk2
          · rw [if_pos hfn] at hlay
            have hcf : m.cls = cf := by
              obtain ⟨_, _, c', _, _, _, -, -, hf', -, -, -, hown2, -⟩ := Cond.laysFinal_spec hlay
              have e1 : c' = cf := by have := hi.symm.trans hf'; simp at this; exact this.1.symm
              rw [hdc] at hown2
              rw [← e1]; exact Option.some.inj (hown.symm.trans hown2)
            have h6 := u_fits hfc hkC hkind (Or.inr hlay) hi (hco.2.2.2.1 k hk) hf1 hf2
            have hmn : meth.name = "<init>" := by rw [(name_of_methodNamed hX.2.2.1 hX.2.2.2.2.2.2.2.1).1]; exact hnm
            exact W.putFinK hX.1 rfl hown (by rw [hX.2.2.2.2.2.2.2.2.1]; exact am_word hZ hX.2.1 hlink rfl args) hi hst hcf hmn (by rw [q2]; exact h6) q1 q3 hlt rfl rfl hd kk2
        · cases hs
      · cases hs
    · cases hs
  · cases hs
theorem am_k_getstatic (hF : ∀ oc x q : Nat, am_ps oc x = some q → q = 1 ∧ Cond.fieldLink (am_on oc) x "PassChecker$Orderer" "TAKES" "[I" ∈ am_tbl) (x : Nat) : am_St p l e R s m args below meth c H locs cells slots Q S0 D base ad A0 (.getstatic x) := by
  intro nL mid pc len L st h pc' L' st' h' ls hX hZ hd hn hs hl hP h2 hlo hc hz kk
  obtain rfl : len = 3 := Nat.eq_of_beq_eq_true hn
  simp only [am_step] at hs
  split at hs
  · rename_i q hps
    cases hs
    obtain ⟨rfl, hlink⟩ := hF _ _ _ hps
    obtain ⟨cf, kf, fi, f, a, cell, h1, h2', h3, h4, h5, h6, h7, h8⟩ := va_Z.moved hX.2.1.alike hZ.2.2.1.2
    have hown := findClass_of_methodNamed hX.2.2.1
    rw [hX.2.2.2.2.2.2.2.2.1] at hown
    refine W.gets hX.1 rfl hown (am_word hZ hX.2.1 hlink rfl args) h1 h2' h3 h4 (v := .ref (ad 1)) (by rw [hP.2.2 a (Nat.not_le.mp h8)]; exact h5) (fun e => by rw [e] at h6; cases h6) h7 rfl hd ?_
    exact kk H locs cells slots ls hl hP (Nat.le_refl _) hlo rfl rfl
  · cases hs
/-- ... of a class's entry of a pool -/
def am_nok (oc x ci : Nat) : Prop := ∃ (C : String) (T : u_T) (N : Nat), am_cok ci C T N ∧ Cond.classLink (am_on oc) x C ∈ am_tbl ∧ Cond.instantiable C (am_ns ci) ∈ am_tbl ∧ Cond.initialized C ∈ am_tbl ∧ N ≤ (am_df ci).length ∧ ∀ j, j < N → (am_df ci)[j]? = some (defaultValue (am_fty ci j))
theorem am_rv_df {ad : Nat → Nat} (ty : FieldType) : am_rv ad (defaultValue ty) = defaultValue ty := by cases ty <;> rfl
theorem am_k_new (hF : ∀ oc x ci : Nat, am_pc oc x = some ci → am_nok oc x ci) (x : Nat) : am_St p l e R s m args below meth c H locs cells slots Q S0 D base ad A0 (.new x) := by
  intro nL mid pc len L st h pc' L' st' h' ls hX hZ hd hn hs hl hP h2 hlo hc hz kk
  obtain rfl : len = 3 := Nat.eq_of_beq_eq_true hn
  simp only [am_step] at hs
  split at hs
  · rename_i ci hpc
    cases hs
    obtain ⟨C, T, N, hco, w1, w2, w3, hdl, hdf⟩ := hF _ _ _ hpc
    have hl1 : (h ++ [(ci, am_df ci)]).length = h.length + 1 := by simp
    have hl2 : am_sz (h ++ [(ci, am_df ci)]) = am_sz h + am_ns ci := by
      rw [am_sz_app]
      simp [am_sz, am_csz, hco.2.1]
    rw [hl1] at hc
    rw [hl2] at hz
    have hown := findClass_of_methodNamed hX.2.2.1
    rw [hX.2.2.2.2.2.2.2.2.1] at hown
    refine W.newc hX.1 rfl hown (am_word hZ hX.2.1 w1 rfl args) (am_word hZ hX.2.1 w2 rfl args) (am_word hZ hX.2.1 w3 rfl args) rfl hd (by omega) (by omega) (fun cC kC f1 f2 f3 f4 => ?_)
    have hb0 : base ≤ H.size := by have := hP.1; omega
    have hnew := hP.new hZ.2.2.2 h2
    have hK := va_K.moved hX.2.1.alike hZ.2.1
    have hKn := hK.1 _ _ hco.1
    have hcc : D.1 ci = cC := Option.some.inj (hKn.2.1.symm.trans f1)
    have hts : ∀ w ∈ u_ws C T N, w.before args s = true := fun w hw => am_word hZ hX.2.1 (hco.2.2.1 w hw) (am_lay_good C T N w hw) args
    have hob : t_OB H.size (D.1 ci) N (D.2 ci) (H.push (blank cC kC)) (fun k => defaultValue (am_fty ci k)) := by
      refine u_born (am_fty ci) hts (fun _ z => z) hKn (kC := kC) (by rw [hcc]; exact f2) (by rw [hcc]; simp) hco.2.2.2.1
    have kk2 := kk (H.push (blank cC kC)) locs (cells + 1) (slots + am_ns ci) ls hl
      (hP.push hZ.2.2.2 h2 hb0 (by
        unfold am_cell
        rw [hco.2.1]
        refine ⟨_, hco.1, hdl, ?_⟩
        rw [hnew]
        refine t_OB.to hob (fun j hj => ?_)
        rw [am_vpV (hdf j hj), am_rv_df]) (by simp) (fun q hq => by rw [Array.getElem?_push, if_neg (Nat.ne_of_lt hq)])) (by simp) hlo (by rw [hl1]; omega) (by rw [hl2]; omega)
    rw [List.map_cons, show am_rv ad (.ref h.length) = .ref H.size by simp only [am_rv, hnew]] at kk2
    exact kk2
  · cases hs
end AMF
