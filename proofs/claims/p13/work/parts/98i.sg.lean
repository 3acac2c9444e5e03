/-! SEGMENTS: all roads up to where one stops; stores by hand -/
section TYL
variable {g : List ty_X} {T : List ty_C} {C0 : ty_C} {l0 : Nat → Int32} {H0 : am_H}
def ty_big : Nat := 4000000000
def ty_sg (g : List ty_X) (T : List ty_C) (C0 : ty_C) (stp chk : ty_S → Bool) : Nat → ty_S → Bool
  | 0, _ => false
  | n + 1, S => match ty_1 g T C0 ty_big S with
    | none => false
    | some Ss => Ss.all (fun S' => if stp S' then chk S' else ty_sg g T C0 stp chk n S')
def ty_vT (g : List ty_X) (T : List ty_C) : Prop := ∀ C ∈ T, ∀ (d : Nat × Nat) (L : List Value) (h : am_H), ty_ar0 g C d L h → ty_vd g C d L h
theorem ty_sg_ok {stp chk : ty_S → Bool} (hg0 : ty_gok g H0) (hT : ty_vT g T) : ∀ (n : Nat) (S : ty_S) (c : am_G) (σ : Nat → Int32), ty_sg g T C0 stp chk n S = true → ty_ho g C0 l0 H0 σ S c → (∃ r : am_O × am_H, am_Ev c r ∧ ty_rs g C0 H0 r) ∨ ∃ (S' : ty_S) (σ' : Nat → Int32) (c' : am_G), stp S' = true ∧ chk S' = true ∧ ty_ho g C0 l0 H0 σ' S' c' ∧ ∀ r : am_O × am_H, am_Ev c' r → am_Ev c r
  | 0, _, _, _, h, _ => by cases h
  | n + 1, S, c, σ, h, ho => by
    simp only [ty_sg] at h
    split at h
    · cases h
    · rename_i Ss hS
      rcases ty_1_ok hg0 (fun C hC _ => hT C hC) ho hS with hr | ⟨S', m1, σ', c', m2, m3⟩
      · exact Or.inl hr
      · have h1 := List.all_eq_true.mp h S' m1
        rcases ty_ite h1 with ⟨hs, h1⟩ | ⟨_, h1⟩
        · exact Or.inr ⟨S', σ', c', hs, h1, m2, m3⟩
        · rcases ty_sg_ok hg0 hT n S' c' σ' h1 m2 with ⟨r, r1, r2⟩ | ⟨S2, σ2, c2, b1, b2, b3, b4⟩
          · exact Or.inl ⟨r, m3 r r1, r2⟩
          · exact Or.inr ⟨S2, σ2, c2, b1, b2, b3, fun r hr => m3 r (b4 r hr)⟩
/-- the same, with the cells as they are now for the start -/
theorem ty_ho_now {σ : Nat → Int32} {S : ty_S} {c : am_G} (ho : ty_ho g C0 l0 H0 σ S c) : ty_ho g C0 l0 c.2.1 σ S c := ⟨ho.1, ho.2.1, ho.2.2.1, ho.2.2.2.1, ho.2.2.2.2.1, fun _ _ _ hx => hx, Or.inl rfl⟩
/-- another contract with as many unknowns at the start -/
theorem ty_ho_C {C1 : ty_C} {σ : Nat → Int32} {S : ty_S} {c : am_G} (hn : ty_n0 C1 = ty_n0 C0) (ho : ty_ho g C0 l0 c.2.1 σ S c) : ty_ho g C1 l0 c.2.1 σ S c := ⟨by rw [hn]; exact ho.1, ho.2.1, ho.2.2.1, ho.2.2.2.1, ho.2.2.2.2.1, fun _ _ _ hx => hx, Or.inl rfl⟩
/-- nothing may be written: nothing was -/
theorem ty_un_nil {H0 H : am_H} (h : ty_un [] H0 H) (hl : H.length = H0.length) : H = H0 := by
  apply List.ext_getElem?
  intro p
  by_cases q : p < H0.length
  · rw [h p List.not_mem_nil _ (List.getElem?_eq_getElem q), List.getElem?_eq_getElem q]
  · rw [List.getElem?_eq_none (by omega), List.getElem?_eq_none (by omega)]
/-- no end is allowed -/
theorem ty_rs_no {H0 : am_H} {C : ty_C} (he : C.2.1.2.1 = []) (hp : (0, 0, 2, 0) ∈ C.2.1.2.2.2.2) (r : am_O × am_H) : ¬ ty_rs g C H0 r := by
  rintro ⟨_, _, h3⟩
  obtain ⟨o, h⟩ := r
  cases o with
  | inl v =>
    obtain ⟨x, w, _, _, _, e1, e2⟩ := h3.2.1 _ hp
    dsimp only at e1 e2
    omega
  | inr X =>
    obtain ⟨h4, _⟩ := h3
    rw [he] at h4
    exact absurd h4 List.not_mem_nil
/-- behind a store -/
def ty_aft (S : ty_S) : ty_S := (S.1, [], (S.2.2.1.1, S.2.2.1.2.1, S.2.2.1.2.2.1 + 1, S.2.2.1.2.2.2.1, S.2.2.1.2.2.2.2.drop 3), S.2.2.2)
/-- before a store into the cell a -/
def ty_bef (mid pc a : Nat) (S : ty_S) : Bool := match S.2.2.1.2.2.2.2 with
  | _ :: _ :: .ref b :: _ => Nat.beq S.2.2.1.2.1 mid && (Nat.beq S.2.2.1.2.2.1 pc && Nat.beq a b)
  | _ => false
/-- the store that comes: of ints -/
def ty_sok (a len : Nat) (S : ty_S) : Bool := match S.2.2.1.2.2.2.2 with
  | v :: j :: _ => ty_isi v && (ty_idx S.1 j len && Nat.ble 2 a)
  | _ => false
theorem ty_hand {σ : Nat → Int32} {S : ty_S} {c : am_G} {mid pc a len : Nat} {s : ty_V} (ho : ty_ho g C0 l0 H0 σ S c) (hb : ty_bef mid pc a S = true) (hs : ty_sok a len S = true) (hi : am_code mid pc = some .iastore) (ha : g[a]? = some (32, len, [s])) (hs5 : s = (0, -2147483648, 2147483647)) :
    ∃ (v j : Value) (r : List Value) (x w : Int32) (fs : List Value) (c' : am_G), S.2.2.1.2.2.2.2 = v :: j :: .ref a :: r ∧ sx_v σ v = .int x ∧ sx_v σ j = .int w ∧ 0 ≤ w.toInt ∧ w.toNatClampNeg < len ∧ fs.length = len ∧ c.2.1[a]? = some (32, fs) ∧ c'.2.1 = c.2.1.set a (32, fs.set w.toNatClampNeg (.int x)) ∧ ty_ho g C0 l0 c'.2.1 σ (ty_aft S) c' ∧ ∀ r : am_O × am_H, am_Ev c' r → am_Ev c r := by
  obtain ⟨iv, F, ⟨d, mid1, pc1, L, st⟩, K⟩ := S
  obtain ⟨⟨d', mid', pc', L', st'⟩, H, K'⟩ := c
  obtain ⟨a1, a2, a3, ⟨k1, k2, k3, k4, k5⟩, a5, a6⟩ := ho
  dsimp only at a1 a2 a3 k1 k2 k3 k4 k5 a5 a6
  subst k2 k3 k5
  unfold ty_bef at hb
  dsimp only at hb
  split at hb
  · rename_i v j b r
    simp only [Bool.and_eq_true] at hb
    obtain ⟨b1, b2, b3⟩ := hb
    obtain rfl := Nat.eq_of_beq_eq_true b1
    obtain rfl := Nat.eq_of_beq_eq_true b2
    obtain rfl := Nat.eq_of_beq_eq_true b3
    simp only [ty_sok, Bool.and_eq_true] at hs
    obtain ⟨s1, s2, s3⟩ := hs
    obtain ⟨x, hx⟩ := ty_isi_ok (σ := σ) s1
    obtain ⟨w, e1, e2, e3⟩ := ty_idx_ok a1.1 s2
    obtain ⟨⟨tx, fs⟩, g1, g2⟩ := a2 a _ ha
    have g3 := g2
    rw [ty_cok_arr rfl] at g3
    obtain ⟨p1, p2, _⟩ := g3
    dsimp only at p1 p2
    subst p1
    have hl : w.toNatClampNeg < fs.length := by rw [p2]; exact e3
    have st : am_sm ((d', mid', pc', L', (v :: j :: .ref a :: r).map (sx_v σ)), H, K') = some ((d', mid', pc' + 1, L', r.map (sx_v σ)), H.set a (32, fs.set w.toNatClampNeg (.int x)), K') := by
      refine sx_sm_step hi ?_
      simp only [List.map_cons, hx, e1, sx_vref, am_step, am_ast, g1]
      rw [if_pos (by simp only [Bool.and_eq_true]; exact ⟨rfl, s3⟩), if_neg (ty_nn e2), if_pos (by rw [Nat.blt_eq]; exact hl)]
    refine ⟨v, j, r, x, w, fs, ((d', mid', pc' + 1, L', r.map (sx_v σ)), H.set a (32, fs.set w.toNatClampNeg (.int x)), K'), rfl, hx, e1, e2, e3, p2, g1, rfl, ⟨a1, ty_gok_set a2 (fun s' hs' => ?_), fun p i u hm => absurd hm List.not_mem_nil, ⟨k1, rfl, rfl, k4, rfl⟩, a5, fun _ _ _ hx => hx, Or.inl rfl⟩, fun R hR => am_sm_ev st hR⟩
    rw [ha] at hs'
    cases hs'
    refine ty_cok_st rfl g2 ?_
    rw [hs5]
    have nb := ty_nb_full (σ := σ) 0 x
    exact ⟨x, rfl, nb.1, nb.2.1⟩
  · cases hb
/-- the store that comes: of booleans -/
theorem ty_handb {σ : Nat → Int32} {S : ty_S} {c : am_G} {mid pc a len : Nat} (ho : ty_ho g C0 l0 H0 σ S c) (hb : ty_bef mid pc a S = true) (hs : ty_sok a len S = true) (hi : am_code mid pc = some .bastore) (ha : g[a]? = some (34, len, [(0, 0, 1)])) :
    ∃ (v j : Value) (r : List Value) (x w : Int32) (fs : List Value) (c' : am_G), S.2.2.1.2.2.2.2 = v :: j :: .ref a :: r ∧ sx_v σ v = .int x ∧ sx_v σ j = .int w ∧ 0 ≤ w.toInt ∧ w.toNatClampNeg < len ∧ fs.length = len ∧ c.2.1[a]? = some (34, fs) ∧ c'.2.1 = c.2.1.set a (34, fs.set w.toNatClampNeg (.int (x &&& 1))) ∧ ty_ho g C0 l0 c'.2.1 σ (ty_aft S) c' ∧ ∀ r : am_O × am_H, am_Ev c' r → am_Ev c r := by
  obtain ⟨iv, F, ⟨d, mid1, pc1, L, st⟩, K⟩ := S
  obtain ⟨⟨d', mid', pc', L', st'⟩, H, K'⟩ := c
  obtain ⟨a1, a2, a3, ⟨k1, k2, k3, k4, k5⟩, a5, a6⟩ := ho
  dsimp only at a1 a2 a3 k1 k2 k3 k4 k5 a5 a6
  subst k2 k3 k5
  unfold ty_bef at hb
  dsimp only at hb
  split at hb
  · rename_i v j b r
    simp only [Bool.and_eq_true] at hb
    obtain ⟨b1, b2, b3⟩ := hb
    obtain rfl := Nat.eq_of_beq_eq_true b1
    obtain rfl := Nat.eq_of_beq_eq_true b2
    obtain rfl := Nat.eq_of_beq_eq_true b3
    simp only [ty_sok, Bool.and_eq_true] at hs
    obtain ⟨s1, s2, s3⟩ := hs
    obtain ⟨x, hx⟩ := ty_isi_ok (σ := σ) s1
    obtain ⟨w, e1, e2, e3⟩ := ty_idx_ok a1.1 s2
    obtain ⟨⟨tx, fs⟩, g1, g2⟩ := a2 a _ ha
    have g3 := g2
    rw [ty_cok_arr rfl] at g3
    obtain ⟨p1, p2, _⟩ := g3
    dsimp only at p1 p2
    subst p1
    have hl : w.toNatClampNeg < fs.length := by rw [p2]; exact e3
    have st : am_sm ((d', mid', pc', L', (v :: j :: .ref a :: r).map (sx_v σ)), H, K') = some ((d', mid', pc' + 1, L', r.map (sx_v σ)), H.set a (34, fs.set w.toNatClampNeg (.int (x &&& 1))), K') := by
      refine sx_sm_step hi ?_
      simp only [List.map_cons, hx, e1, sx_vref, am_step, am_ast, g1]
      rw [if_pos (by simp only [Bool.and_eq_true]; exact ⟨rfl, s3⟩), if_neg (ty_nn e2), if_pos (by rw [Nat.blt_eq]; exact hl)]
    refine ⟨v, j, r, x, w, fs, ((d', mid', pc' + 1, L', r.map (sx_v σ)), H.set a (34, fs.set w.toNatClampNeg (.int (x &&& 1))), K'), rfl, hx, e1, e2, e3, p2, g1, rfl, ⟨a1, ty_gok_set a2 (fun s' hs' => ?_), fun p i u hm => absurd hm List.not_mem_nil, ⟨k1, rfl, rfl, k4, rfl⟩, a5, fun _ _ _ hx => hx, Or.inl rfl⟩, fun R hR => am_sm_ev st hR⟩
    rw [ha] at hs'
    cases hs'
    have h1 := ty_and1 x
    exact ty_cok_st rfl g2 ⟨x &&& 1, rfl, h1.1, h1.2⟩
  · cases hb
/-- another table of cells -/
theorem ty_gok_w {h : am_H} {p : Nat} {s s' : ty_X} (hg : ty_gok g h) (hp : g[p]? = some s) (hw : ∀ x : am_C, ty_cok s x → ty_cok s' x) : ty_gok (g.set p s') h := by
  intro q t hq
  by_cases e : p = q
  · subst e
    rw [List.getElem?_set_self (List.getElem?_eq_some_iff.mp hp).1] at hq
    cases hq
    obtain ⟨x, h1, h2⟩ := hg p s hp
    exact ⟨x, h1, hw x h2⟩
  · rw [List.getElem?_set_ne e] at hq
    exact hg q t hq
theorem ty_gok_n {h : am_H} {p : Nat} {s : ty_X} (hg : ty_gok g h) {x : am_C} (hx : h[p]? = some x) (hs : ty_cok s x) : ty_gok (g.set p s) h := by
  intro q t hq
  by_cases e : p = q
  · subst e
    by_cases hl : p < g.length
    · rw [List.getElem?_set_self hl] at hq
      cases hq
      exact ⟨x, hx, hs⟩
    · rw [List.getElem?_eq_none (by rw [List.length_set]; omega)] at hq
      cases hq
  · rw [List.getElem?_set_ne e] at hq
    exact hg q t hq
end TYL
