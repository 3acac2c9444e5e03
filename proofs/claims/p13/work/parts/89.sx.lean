/-! EVERY INT WITHIN THE BOUNDS -/
def sx_in (iv : List (Int × Int)) (σ : Nat → Int32) : Prop := (∀ (k : Nat) (lo hi : Int), iv[k]? = some (lo, hi) → lo ≤ (σ k).toInt ∧ (σ k).toInt ≤ hi) ∧ σ 7 = σ 0 &&& 15
section SXC
variable {σ : Nat → Int32}
/-- what the condition says -/
def sx_rel (c : Jvm.ClassFile.Cond) (x y : Int32) : Prop := match c with
  | .eq => x = y
  | .ne => ¬ x = y
  | .lt => x < y
  | .ge => y ≤ x
  | .gt => y < x
  | .le => x ≤ y
theorem sx_cmp_ok {c : Jvm.ClassFile.Cond} {lo hi : Int} {x y : Int32} {b : Bool} (h : sx_cmp c lo hi y.toInt = some b) (h1 : lo ≤ x.toInt) (h2 : x.toInt ≤ hi) : (b = true → sx_rel c x y) ∧ (b = false → ¬ sx_rel c x y) := by
  have e : x = y → x.toInt = y.toInt := fun e => by rw [e]
  cases c <;> simp only [sx_cmp] at h <;> simp only [sx_rel, Int32.lt_iff_toInt_lt, Int32.le_iff_toInt_le] <;> repeat' (split at h)
  all_goals first | (cases h; done) | skip
  all_goals cases h
  all_goals refine ⟨fun hb => ?_, fun hb => ?_⟩
  all_goals first | (cases hb; done) | omega | (intro q; have := e q; omega)
theorem sx_rel_flip {c : Jvm.ClassFile.Cond} {x y : Int32} : sx_rel (sx_flip c) x y ↔ sx_rel c y x := by
  cases c <;> simp only [sx_flip, sx_rel] <;> first | exact Iff.rfl | exact ⟨Eq.symm, Eq.symm⟩ | exact ⟨fun h q => h q.symm, fun h q => h q.symm⟩
theorem sx_ifc {mid pc : Nat} {L r : List Value} {h : am_H} {c : Jvm.ClassFile.Cond} {o : Int} {x : Int32} : (sx_rel c x 0 → am_step mid pc L (.int x :: r) h (.ifCond c o) = some (am_jmp pc o, L, r, h)) ∧ (¬ sx_rel c x 0 → am_step mid pc L (.int x :: r) h (.ifCond c o) = some (pc + 3, L, r, h)) := by
  cases c <;> simp only [sx_rel, am_step] <;> constructor <;> intro hq <;> simp [hq]
theorem sx_ific {mid pc : Nat} {L r : List Value} {h : am_H} {c : Jvm.ClassFile.Cond} {o : Int} {x y : Int32} : (sx_rel c x y → am_step mid pc L (.int y :: .int x :: r) h (.if_icmp c o) = some (am_jmp pc o, L, r, h)) ∧ (¬ sx_rel c x y → am_step mid pc L (.int y :: .int x :: r) h (.if_icmp c o) = some (pc + 3, L, r, h)) := by
  cases c <;> simp only [sx_rel, am_step] <;> constructor <;> intro hq <;> simp [hq]
theorem sx_sm_step {d : Nat × Nat} {mid pc : Nat} {L st : List Value} {h : am_H} {K : List am_K} {i : Jvm.ClassFile.Instr} (hi : am_code mid pc = some i) {pc' : Nat} {L' st' : List Value} {h' : am_H} (hs : am_step mid pc L st h i = some (pc', L', st', h')) : am_sm ((d, mid, pc, L, st), h, K) = some ((d, mid, pc', L', st'), h', K) := by
  simp only [am_sm, hi, hs]
theorem sx_sm_ctl {d : Nat × Nat} {mid pc : Nat} {L st : List Value} {h : am_H} {K : List am_K} {i : Jvm.ClassFile.Instr} (hi : am_code mid pc = some i) (hs : am_step mid pc L st h i = none) {c : am_G} (hc : am_smt d mid pc L st h K i = some c) : am_sm ((d, mid, pc, L, st), h, K) = some c := by
  simp only [am_sm, hi, hs, hc]
theorem sx_br_ok {d : Nat × Nat} {mid pc : Nat} {L r : List Value} {h : am_H} {K : List am_K} {o : Int} {b : Option Bool} {c : am_G} (hs : sx_br d mid pc L r h K o b = some c) : ∃ t : Bool, b = some t ∧ c = ((d, mid, if t then am_jmp pc o else pc + 3, L, r), h, K) := by
  match b, hs with
  | some true, hs => cases hs; exact ⟨true, rfl, rfl⟩
  | some false, hs => cases hs; exact ⟨false, rfl, rfl⟩
theorem sx_x_ok {iv : List (Int × Int)} (hin : sx_in iv σ) {c c' : am_G} (hs : sx_x iv c = some c') : am_sm (sx_g σ c) = some (sx_g σ c') := by
  obtain ⟨⟨d, mid, pc, L, st⟩, h, K⟩ := c
  simp only [sx_x] at hs
  cases hi : am_code mid pc with
  | none => rw [hi] at hs; cases hs
  | some i =>
    rw [hi] at hs
    dsimp only at hs
    show am_sm ((d, mid, pc, L.map (sx_v σ), st.map (sx_v σ)), h.map (sx_c σ), K.map (sx_k σ)) = _
    unfold sx_xi at hs
    split at hs
    · split at hs
      · rename_i hq
        cases hs
        exact sx_sm_step hi (by simp [am_step, hq, sx_v])
      · cases hs
    · split at hs
      · rename_i hq
        cases hs
        exact sx_sm_step hi (by simp [am_step, hq, sx_v])
      · cases hs
    · split at hs
      · split at hs
        · rename_i hq
          cases hs
          exact sx_sm_step hi (by simp [am_step, hq, sx_v, List.map_set])
        · cases hs
      · cases hs
    · split at hs
      · split at hs
        · rename_i hq
          cases hs
          exact sx_sm_step hi (by simp [am_step, hq, sx_v, List.map_set])
        · cases hs
      · cases hs
    · split at hs
      · split at hs
        · rename_i f hq
          cases hs
          refine sx_sm_step hi ?_
          simp only [List.map_cons, sx_v, am_step]
          simp only [am_ast] at hq ⊢
          repeat' (split at hq)
          all_goals first
            | (cases hq; done)
            | (cases hq; simp [sx_c, sx_v, List.map_set, *])
        · cases hs
      · cases hs
    · split at hs
      · split at hs
        · rename_i hq
          cases hs
          subst hq
          exact sx_sm_step hi (by simp [am_step, sx_v, hin.2])
        · cases hs
      · cases hs
    · split at hs
      · rename_i hp
        split at hs
        · split at hs
          · rename_i hq
            split at hs
            · rename_i hz
              cases hs
              refine sx_sm_step hi ?_
              simp only [Bool.and_eq_true] at hz
              have hf : ∀ (t : FieldType) (v : Int32), sx_isI t = true → am_fit t (.int v) = true := fun t v ht => by
                unfold sx_isI at ht
                split at ht
                · rfl
                · cases ht
              simp [am_step, hp, sx_c, sx_v, hq, hz, hf _ _ hz.2.2.2.1, List.map_set]
            · cases hs
          · cases hs
        · cases hs
      · cases hs
    · split at hs
      · split at hs
        · rename_i hv
          obtain ⟨t, h1, rfl⟩ := sx_br_ok hs
          have hb := hin.1 _ _ _ hv
          have hc := sx_cmp_ok (y := 0) h1 hb.1 hb.2
          refine sx_sm_step hi ?_
          simp only [List.map_cons, sx_v]
          cases t
          · exact sx_ifc.2 (hc.2 rfl)
          · exact sx_ifc.1 (hc.1 rfl)
        · cases hs
      · cases hs
    · split at hs
      · split at hs
        · rename_i hv
          obtain ⟨t, h1, rfl⟩ := sx_br_ok hs
          have hb := hin.1 _ _ _ hv
          have hc := sx_cmp_ok h1 hb.1 hb.2
          refine sx_sm_step hi ?_
          simp only [List.map_cons, sx_v]
          cases t
          · exact sx_ific.2 (hc.2 rfl)
          · exact sx_ific.1 (hc.1 rfl)
        · cases hs
      · split at hs
        · rename_i hv
          obtain ⟨t, h1, rfl⟩ := sx_br_ok hs
          have hb := hin.1 _ _ _ hv
          have hc := sx_cmp_ok h1 hb.1 hb.2
          refine sx_sm_step hi ?_
          simp only [List.map_cons, sx_v]
          cases t
          · exact sx_ific.2 (fun q => hc.2 rfl (sx_rel_flip.mpr q))
          · exact sx_ific.1 (sx_rel_flip.mp (hc.1 rfl))
        · cases hs
      · cases hs
    · split at hs
      · split at hs
        · rename_i hv
          have hb := hin.1 _ _ _ hv
          split at hs
          · cases hs
            refine sx_sm_step hi ?_
            simp only [List.map_cons, sx_v, am_step]
            rw [if_pos (by omega)]
          · split at hs
            · cases hs
              refine sx_sm_step hi ?_
              simp only [List.map_cons, sx_v, am_step]
              split
              · rfl
              · rw [if_pos (by omega)]
            · cases hs
        · cases hs
      · cases hs
    · split at hs
      · split at hs
        · rename_i v hq
          refine sx_sm_ctl hi rfl ?_
          simp only [List.map_cons, List.map_nil, sx_v, am_smt]
          have hn : ∀ (t : Option FieldType) (w : Int32), sx_rI t = true → am_nw t w = true := fun t w ht => by
            unfold sx_rI at ht
            split at ht
            · rfl
            · cases ht
          rw [if_pos (hn _ _ hq)]
          exact sx_pop (σ := σ) (o := .inl (some _)) hs
        · cases hs
      · cases hs
    · exact sx_sm_ctl hi rfl (sx_smc_ok hs)
    · exact sx_sm_ctl hi rfl (sx_smc_ok hs)
    · exact sx_sm_ctl hi rfl (sx_smc_ok hs)
    · cases hs
theorem sx_v1_ok {k : Nat} {n : Int32} (h : σ k = n) : ∀ v : Value, sx_v σ (sx_v1 k n v) = sx_v σ v
  | .retAddr 0 => rfl
  | .retAddr (j + 1) => by
    simp only [sx_v1]
    split
    · rename_i hq
      have := Nat.eq_of_beq_eq_true hq
      subst this
      simp [sx_v, h]
    · rfl
  | .int _ => rfl
  | .ref _ => rfl
  | .null => rfl
  | .long _ => rfl
  | .float _ => rfl
  | .double _ => rfl
theorem sx_s_ok {k : Nat} {n : Int32} (h : σ k = n) (c : am_G) : sx_g σ (sx_s k n c) = sx_g σ c := by
  have e : ∀ l : List Value, (l.map (sx_v1 k n)).map (sx_v σ) = l.map (sx_v σ) := fun l => by
    rw [List.map_map]
    exact List.map_congr_left (fun v _ => sx_v1_ok h v)
  have e2 : ∀ q : am_K, sx_k σ (q.1, q.2.1, q.2.2.1, q.2.2.2.1.map (sx_v1 k n), q.2.2.2.2.map (sx_v1 k n)) = sx_k σ q := fun q => by
    simp only [sx_k, e]
  have e3 : ∀ x : am_C, sx_c σ (x.1, x.2.map (sx_v1 k n)) = sx_c σ x := fun x => by
    simp only [sx_c, e]
  have a1 : (c.2.1.map (fun x => ((x.1, x.2.map (sx_v1 k n)) : am_C))).map (sx_c σ) = c.2.1.map (sx_c σ) := by
    rw [List.map_map]
    exact List.map_congr_left (fun x _ => e3 x)
  have a2 : (c.2.2.map (fun q => ((q.1, q.2.1, q.2.2.1, q.2.2.2.1.map (sx_v1 k n), q.2.2.2.2.map (sx_v1 k n)) : am_K))).map (sx_k σ) = c.2.2.map (sx_k σ) := by
    rw [List.map_map]
    exact List.map_congr_left (fun q _ => e2 q)
  exact Prod.ext (e2 c.1) (Prod.ext a1 a2)
theorem sx_in_set {iv : List (Int × Int)} {k : Nat} {lo hi : Int} (h : sx_in iv σ) (h1 : lo ≤ (σ k).toInt) (h2 : (σ k).toInt ≤ hi) : sx_in (iv.set k (lo, hi)) σ := by
  refine ⟨fun j l u hj => ?_, h.2⟩
  by_cases e : k = j
  · subst e
    rw [List.getElem?_set_self'] at hj
    cases hq : iv[k]? with
    | none => rw [hq] at hj; cases hj
    | some q =>
      rw [hq] at hj
      cases hj
      exact ⟨h1, h2⟩
  · rw [List.getElem?_set_ne e] at hj
    exact h.1 j l u hj
/-- the run ends with 1, and its cells are not too many -/
def sx_goal (c : am_G) : Prop := ∃ h' : am_H, am_Ev c (.inl (some (.int 1)), h') ∧ h'.length ≤ 600002 ∧ am_sz h' ≤ 7302232
theorem sx_hf_ok {f : List (Int × Int) → am_G → Bool} (IH : ∀ iv c, f iv c = true → sx_in iv σ → sx_goal (sx_g σ c)) {iv : List (Int × Int)} {c : am_G} {k : Nat} {lo hi : Int} (h : sx_hf f iv c k lo hi = true) (hin : sx_in iv σ) (h1 : lo ≤ (σ k).toInt) (h2 : (σ k).toInt ≤ hi) : sx_goal (sx_g σ c) := by
  unfold sx_hf at h
  split at h
  · omega
  · split at h
    · rename_i he
      have hk : σ k = Int32.ofInt lo := by
        have : (σ k).toInt = lo := by omega
        rw [← this, Int32.ofInt_toInt]
      have := IH _ _ h (sx_in_set hin h1 h2)
      rw [sx_s_ok hk] at this
      exact this
    · exact IH _ _ h (sx_in_set hin h1 h2)
theorem sx_end_ok {c : am_G} (h : sx_end c = true) : sx_goal (sx_g σ c) := by
  obtain ⟨⟨d, mid, pc, L, st⟩, g, K⟩ := c
  simp only [sx_end] at h
  split at h
  · rename_i hi
    split at h
    · rename_i v
      simp only [Bool.and_eq_true, decide_eq_true_eq] at h
      obtain ⟨rfl, h2, h3, h4, h5⟩ := h
      obtain rfl := List.isEmpty_iff.mp h3
      refine ⟨g.map (sx_c σ), ?_, ?_, ?_⟩
      · exact am_ev_ret hi h2
      · rw [List.length_map]; exact Nat.le_of_ble_eq_true h4
      · rw [sx_sz]; exact Nat.le_of_ble_eq_true h5
    · cases h
  · cases h
theorem sx_sound : ∀ (n : Nat) (iv : List (Int × Int)) (c : am_G), sx_all n iv c = true → sx_in iv σ → sx_goal (sx_g σ c)
  | 0, _, _, h, _ => by cases h
  | n + 1, iv, c, h, hin => by
    simp only [sx_all] at h
    split at h
    · rename_i c' hs
      obtain ⟨h', e1, e2⟩ := sx_sound n iv c' h hin
      exact ⟨h', am_sm_ev (sx_sm hs) e1, e2⟩
    · split at h
      · rename_i c' hs
        obtain ⟨h', e1, e2⟩ := sx_sound n iv c' h hin
        exact ⟨h', am_sm_ev (sx_x_ok hin hs) e1, e2⟩
      · split at h
        · rename_i k m hs
          split at h
          · rename_i lo hi hk
            have hb := hin.1 _ _ _ hk
            rw [Bool.and_eq_true] at h
            by_cases hz : (σ k).toInt < m
            · exact sx_hf_ok (sx_sound n) h.1 hin hb.1 (by omega)
            · exact sx_hf_ok (sx_sound n) h.2 hin (by omega) hb.2
          · cases h
        · exact sx_end_ok h
end SXC
