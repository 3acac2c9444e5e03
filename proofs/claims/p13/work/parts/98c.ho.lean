/-! WHAT A STATE SAYS OF A CONFIGURATION -/
section TYF
variable {σ σ' : Nat → Int32}
def ty_kr (σ : Nat → Int32) (q q' : am_K) : Prop := mo_d q.1 q'.1 ∧ q'.2.1 = q.2.1 ∧ q'.2.2.1 = q.2.2.1 ∧ mo_j (q.2.2.2.1.map (sx_v σ)) q'.2.2.2.1 ∧ q'.2.2.2.2 = q.2.2.2.2.map (sx_v σ)
def ty_Kr (σ : Nat → Int32) : List am_K → List am_K → Prop
  | [], [] => True
  | q :: K, q' :: K' => ty_kr σ q q' ∧ ty_Kr σ K K'
  | _, _ => False
theorem ty_kr_ag {n : Nat} (h : ty_ag n σ σ') {q q' : am_K} (hw : ty_wk n q = true) (hk : ty_kr σ q q') : ty_kr σ' q q' := by
  simp only [ty_wk, Bool.and_eq_true] at hw
  unfold ty_kr at hk ⊢
  rw [ty_wl_ag h _ hw.1, ty_wl_ag h _ hw.2]
  exact hk
theorem ty_Kr_ag {n : Nat} (h : ty_ag n σ σ') : ∀ {K K' : List am_K}, ty_wK n K = true → ty_Kr σ K K' → ty_Kr σ' K K'
  | [], [], _, _ => trivial
  | q :: K, q' :: K', hw, hk => by
    simp only [ty_wK, Bool.and_eq_true] at hw
    exact ⟨ty_kr_ag h hw.1 hk.1, ty_Kr_ag h hw.2 hk.2⟩
  | [], _ :: _, _, hk => hk.elim
  | _ :: _, [], _, hk => hk.elim
/-- one cell more, of an exception -/
def ty_gr (H0 H : am_H) : Prop := H.length = H0.length + 1 ∧ ∃ X : Nat, H[H0.length]? = some (X, [])
def ty_un (ms : List Nat) (H0 H : am_H) : Prop := ∀ p : Nat, p ∉ ms → ∀ x : am_C, H0[p]? = some x → H[p]? = some x
def ty_hh (ms : List Nat) (H0 H : am_H) (d : Nat × Nat) (mid : Nat) (K : List am_K) : Prop := ty_un ms H0 H ∧ (H.length = H0.length ∨ (ty_gr H0 H ∧ d.1 = 0 ∧ K = [] ∧ (am_hs mid).isEmpty = false))
def ty_ho (g : List ty_X) (C0 : ty_C) (l0 : Nat → Int32) (H0 : am_H) (σ : Nat → Int32) (S : ty_S) (c : am_G) : Prop :=
  ty_iw (ty_n0 C0) l0 S.1 σ ∧ ty_gok g c.2.1 ∧ ty_Fok S.2.1 σ c.2.1 ∧ ty_kr σ S.2.2.1 c.1 ∧ ty_Kr σ S.2.2.2 c.2.2 ∧ ty_hh C0.2.1.2.2.1 H0 c.2.1 S.2.2.1.1 S.2.2.1.2.1 S.2.2.2
/-- an end as the contract says -/
def ty_rs (g : List ty_X) (C : ty_C) (H0 : am_H) (r : am_O × am_H) : Prop := ty_gok g r.2 ∧ ty_un C.2.1.2.2.1 H0 r.2 ∧ match r.1 with
  | .inl v => (r.2.length = H0.length ∨ (ty_gr H0 r.2 ∧ (am_hs C.1.1).isEmpty = false)) ∧ (∀ q ∈ C.2.1.2.2.2.2, ty_pk r.2 q) ∧ (match v with
    | none => C.2.1.1 = []
    | some w => ∃ s ∈ C.2.1.1, ty_vok s w)
  | .inr X => X ∈ C.2.1.2.1 ∧ ty_gr H0 r.2
/-- what is known of a local -/
def ty_kd (n : Nat) : Bool := Nat.beq n 0 || (Nat.beq n 1 || (Nat.beq n 6 || Nat.beq n 7))
/-- the arguments that a contract asks for -/
def ty_ar0 (g : List ty_X) (C : ty_C) (d : Nat × Nat) (L : List Value) (h : am_H) : Prop := mo_d C.1.2.2.2 d ∧ L.length = C.1.2.2.1.length ∧ (∀ (k : Nat) (s : ty_V), C.1.2.2.1[k]? = some s → ty_kd s.1 = true → ∃ v : Value, L[k]? = some v ∧ ty_vok s v) ∧ ty_gok g h ∧ ∀ q ∈ C.2.1.2.2.2.1, ty_pk h q
def ty_vd (g : List ty_X) (C : ty_C) (d : Nat × Nat) (L : List Value) (h : am_H) : Prop := ∃ r : am_O × am_H, am_Ev ((d, C.1.1, C.1.2.1, L, []), h, []) r ∧ ty_rs g C h r
/-- it ends well, or one of the states is next -/
def ty_go (g : List ty_X) (C0 : ty_C) (l0 : Nat → Int32) (H0 : am_H) (c : am_G) (Ss : List ty_S) : Prop := (∃ r : am_O × am_H, am_Ev c r ∧ ty_rs g C0 H0 r) ∨ ∃ S ∈ Ss, ∃ (σ' : Nat → Int32) (c' : am_G), ty_ho g C0 l0 H0 σ' S c' ∧ ∀ r : am_O × am_H, am_Ev c' r → am_Ev c r
variable {g : List ty_X} {C0 : ty_C} {l0 : Nat → Int32} {H0 : am_H}
theorem ty_un_set {ms : List Nat} {H : am_H} (h : ty_un ms H0 H) {a : Nat} (ha : a ∈ ms) (x : am_C) : ty_un ms H0 (H.set a x) := by
  intro p hp y hy
  have hne : a ≠ p := fun q => hp (by rw [← q]; exact ha)
  rw [List.getElem?_set_ne hne]
  exact h p hp y hy
theorem ty_un_tr {ms ns : List Nat} {A B D : am_H} (h1 : ty_un ms A B) (h2 : ty_un ns B D) (hs : ∀ p ∈ ns, p ∈ ms) : ty_un ms A D := fun p hp x hx => h2 p (fun q => hp (hs p q)) x (h1 p hp x hx)
theorem ty_hh_set {ms : List Nat} {H : am_H} {d : Nat × Nat} {mid : Nat} {K : List am_K} (h : ty_hh ms H0 H d mid K) {a : Nat} (ha : a ∈ ms) (hl : a < H0.length) (x : am_C) : ty_hh ms H0 (H.set a x) d mid K := by
  refine ⟨ty_un_set h.1 ha x, ?_⟩
  rcases h.2 with q | ⟨⟨q1, X, q2⟩, q3⟩
  · exact Or.inl (by rw [List.length_set]; exact q)
  · exact Or.inr ⟨⟨by rw [List.length_set]; exact q1, X, by rw [List.getElem?_set_ne (by omega)]; exact q2⟩, q3⟩
theorem mo_j.jk {L L' : List Value} (h : mo_j L L') (k : Nat) {u : Value} (hu : am_kn u = false) (v : Value) : mo_j (L.set k u) (L'.set k v) := by
  refine ⟨by simp [h.1], fun j w hj hw => ?_⟩
  by_cases e : k = j
  · subst e
    by_cases hl : k < L.length
    · rw [List.getElem?_set_self hl] at hj
      cases hj
      rw [hu] at hw
      cases hw
    · rw [List.getElem?_eq_none (by simp; omega)] at hj
      cases hj
  · rw [List.getElem?_set_ne e] at hj ⊢
    exact h.2 j w hj hw
/-- a step of the machine to the next state -/
theorem ty_go_st {iv iv1 : List ty_B} {F F1 : ty_F} {d : Nat × Nat} {mid pc pc1 : Nat} {L st L1 st1 La sa : List Value} {K : List am_K} {c : am_G} {i : Jvm.ClassFile.Instr} {H1 : am_H} {Ss : List ty_S}
    (ho : ty_ho g C0 l0 H0 σ (iv, F, (d, mid, pc, L, st), K) c) (hi : am_code mid pc = some i)
    (hs : am_step mid pc (L.map (sx_v σ)) (st.map (sx_v σ)) c.2.1 i = some (pc1, La, sa, H1))
    (hm : (iv1, F1, (d, mid, pc1, L1, st1), K) ∈ Ss) (eL : La = L1.map (sx_v σ')) (es : sa = st1.map (sx_v σ'))
    (h1 : ty_iw (ty_n0 C0) l0 iv1 σ') (h2 : ty_gok g H1) (h3 : ty_Fok F1 σ' H1) (h4 : ty_Kr σ' K c.2.2) (h5 : ty_hh C0.2.1.2.2.1 H0 H1 d mid K) : ty_go g C0 l0 H0 c Ss := by
  obtain ⟨⟨d', mid', pc', L', st'⟩, H, K'⟩ := c
  obtain ⟨a1, a2, a3, ⟨k1, k2, k3, k4, k5⟩, a5, a6⟩ := ho
  dsimp only at k1 k2 k3 k4 k5 hs h4
  subst k2 k3 k5
  obtain ⟨L2, e1, e2⟩ := mo_step hs k4
  refine Or.inr ⟨_, hm, σ', ((d', mid', pc1, L2, sa), H1, K'), ⟨h1, h2, h3, ⟨k1, rfl, rfl, ?_, es⟩, h4, h5⟩, fun r hr => am_sm_ev (sx_sm_step hi e1) hr⟩
  rw [← eL]
  exact e2
/-- the same unknowns, the same cells -/
theorem ty_go_same {iv iv1 : List ty_B} {F : ty_F} {d : Nat × Nat} {mid pc pc1 : Nat} {L st L1 st1 : List Value} {K : List am_K} {c : am_G} {i : Jvm.ClassFile.Instr} {Ss : List ty_S}
    (ho : ty_ho g C0 l0 H0 σ (iv, F, (d, mid, pc, L, st), K) c) (hi : am_code mid pc = some i)
    (hs : am_step mid pc (L.map (sx_v σ)) (st.map (sx_v σ)) c.2.1 i = some (pc1, L1.map (sx_v σ), st1.map (sx_v σ), c.2.1))
    (hm : (iv1, F, (d, mid, pc1, L1, st1), K) ∈ Ss) (h1 : ty_iw (ty_n0 C0) l0 iv1 σ) : ty_go g C0 l0 H0 c Ss :=
  ty_go_st ho hi hs hm rfl rfl h1 ho.2.1 ho.2.2.1 ho.2.2.2.2.1 ho.2.2.2.2.2
/-- one new unknown on the stack -/
theorem ty_go_push {iv : List ty_B} {b : ty_B} {F : ty_F} {d : Nat × Nat} {mid pc pc1 : Nat} {L st r : List Value} {K : List am_K} {c : am_G} {i : Jvm.ClassFile.Instr} {Ss : List ty_S} {x : Int32}
    (ho : ty_ho g C0 l0 H0 σ (iv, F, (d, mid, pc, L, st), K) c) (hi : am_code mid pc = some i)
    (hs : am_step mid pc (L.map (sx_v σ)) (st.map (sx_v σ)) c.2.1 i = some (pc1, L.map (sx_v σ), .int x :: r.map (sx_v σ), c.2.1))
    (hb : ty_nb σ iv.length x b) (hp : ty_push iv b F d mid pc1 L r K = some Ss) : ty_go g C0 l0 H0 c Ss := by
  unfold ty_push at hp
  split at hp
  · rename_i hw
    cases hp
    simp only [ty_ws, ty_wk, Bool.and_eq_true] at hw
    obtain ⟨w1, ⟨w2, w3⟩, w4⟩ := hw
    have ag := ty_up_ag (σ := σ) iv.length x
    refine ty_go_st (σ' := ty_up σ iv.length x) ho hi hs (List.mem_singleton.mpr rfl) (ty_wl_ag ag _ w2).symm ?_ (ty_iw_push ho.1 hb) ho.2.1 (ty_wF_ag ag w1 ho.2.2.1) (ty_Kr_ag ag w4 ho.2.2.2.2.1) ho.2.2.2.2.2
    simp only [List.map_cons, sx_v, ty_up_at, ty_wl_ag ag _ w3]
  · cases hp
/-- and known to lie in a cell -/
theorem ty_go_pushF {iv : List ty_B} {b : ty_B} {F : ty_F} {d : Nat × Nat} {mid pc pc1 : Nat} {L st r : List Value} {K : List am_K} {c : am_G} {i : Jvm.ClassFile.Instr} {Ss : List ty_S} {x w : Int32} {a : Nat} {j : Value} {y : am_C}
    (ho : ty_ho g C0 l0 H0 σ (iv, F, (d, mid, pc, L, st), K) c) (hi : am_code mid pc = some i)
    (hs : am_step mid pc (L.map (sx_v σ)) (st.map (sx_v σ)) c.2.1 i = some (pc1, L.map (sx_v σ), .int x :: r.map (sx_v σ), c.2.1))
    (hb : ty_nb σ iv.length x b) (hy : c.2.1[a]? = some y) (hj : sx_v σ j = .int w) (h0 : 0 ≤ w.toInt) (hx : y.2[w.toNatClampNeg]? = some (.int x)) (hp : ty_pushF iv b F a j d mid pc1 L r K = some Ss) : ty_go g C0 l0 H0 c Ss := by
  unfold ty_pushF at hp
  split at hp
  · rename_i hw
    cases hp
    simp only [ty_ws, ty_wk, ty_wl, Bool.and_eq_true] at hw
    obtain ⟨w1, ⟨w2, w5, w3⟩, w4⟩ := hw
    have ag := ty_up_ag (σ := σ) iv.length x
    refine ty_go_st (σ' := ty_up σ iv.length x) ho hi hs (List.mem_singleton.mpr rfl) (ty_wl_ag ag _ w2).symm ?_ (ty_iw_push ho.1 hb) ho.2.1 ?_ (ty_Kr_ag ag w4 ho.2.2.2.2.1) ho.2.2.2.2.2
    · simp only [List.map_cons, sx_v, ty_up_at, ty_wl_ag ag _ w3]
    · intro p k u hm
      rcases List.mem_cons.mp hm with hq | hm
      · cases hq
        exact ⟨y, w, hy, by rw [ty_wv_ag ag _ w5]; exact hj, h0, by rw [hx]; simp only [sx_v, ty_up_at]⟩
      · exact ty_wF_ag ag w1 ho.2.2.1 p k u hm
  · cases hp
end TYF
