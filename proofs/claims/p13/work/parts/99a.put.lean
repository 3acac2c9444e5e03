/-! put: a row of four, by hand -/
section HPA
def hp_g : List ty_X := tc_g.set 67 (32, 384, [(0, -2147483648, 2147483647)])
def hp_rows : List ty_V := [(0, 0, 9), (0, 0, 5), (0, 0, 5), (5, 0, 5)]
theorem hp_g67 : tc_g[67]? = some (32, 384, hp_rows) := rfl
theorem hp_gg : hp_g.set 67 (32, 384, hp_rows) = tc_g := rfl
theorem hp_g1 : hp_g[67]? = some (32, 384, [(0, -2147483648, 2147483647)]) := rfl
theorem hp_weak {x : am_C} (h : ty_cok (32, 384, hp_rows) x) : ty_cok (32, 384, [(0, -2147483648, 2147483647)]) x := by
  rw [ty_cok_arr rfl] at h ⊢
  obtain ⟨h1, h2, h3, h4⟩ := h
  refine ⟨h1, h2, fun f k v hk hv => ?_, fun lo hi hq => by cases hq⟩
  obtain rfl : k = (0, -2147483648, 2147483647) := by
    have : f % [((0, -2147483648, 2147483647) : ty_V)].length = 0 := Nat.mod_one f
    dsimp only at hk
    rw [this] at hk
    simpa using hk.symm
  have full : ∀ x : Int32, ty_vok (0, -2147483648, 2147483647) (.int x) := fun x => by
    have nb := ty_nb_full (σ := fun _ => 0) 0 x
    exact ⟨x, rfl, nb.1, nb.2.1⟩
  have h4' : f % 4 < 4 := Nat.mod_lt _ (by decide)
  have hc : f % 4 = 0 ∨ f % 4 = 1 ∨ f % 4 = 2 ∨ f % 4 = 3 := by omega
  rcases hc with q | q | q | q
  · obtain ⟨x, e, _⟩ := h3 f (0, 0, 9) v (by show hp_rows[f % 4]? = _; rw [q]; rfl) hv
    rw [e]
    exact full x
  · obtain ⟨x, e, _⟩ := h3 f (0, 0, 5) v (by show hp_rows[f % 4]? = _; rw [q]; rfl) hv
    rw [e]
    exact full x
  · obtain ⟨x, e, _⟩ := h3 f (0, 0, 5) v (by show hp_rows[f % 4]? = _; rw [q]; rfl) hv
    rw [e]
    exact full x
  · obtain ⟨x, e⟩ := h3 f (5, 0, 5) v (by show hp_rows[f % 4]? = _; rw [q]; rfl) hv
    rw [e]
    exact full x
theorem hp_gok {h : am_H} (hg : ty_gok tc_g h) : ty_gok hp_g h := ty_gok_w hg hp_g67 (fun _ hx => hp_weak hx)
theorem hp_gok2 {h : am_H} (hg : ty_gok hp_g h) {fs : List Value} (hx : h[67]? = some (32, fs)) (hc : ty_cok (32, 384, hp_rows) (32, fs)) : ty_gok tc_g h := by
  rw [← hp_gg]
  exact ty_gok_n hg hx hc
/-- a row is written whole -/
theorem hp_row {fs : List Value} (hc : ty_cok (32, 384, hp_rows) (32, fs)) {a : Nat} (ha : a % 4 = 0) (hl : a + 3 < 384) {x0 x1 x2 x3 : Int32} (h0 : ty_vok (0, 0, 9) (.int x0)) (h1 : ty_vok (0, 0, 5) (.int x1)) (h2 : ty_vok (0, 0, 5) (.int x2)) (h3 : x0 = 0 ∨ ty_vok (0, 0, 5) (.int x3)) :
    ty_cok (32, 384, hp_rows) (32, (((fs.set a (.int x0)).set (a + 1) (.int x1)).set (a + 2) (.int x2)).set (a + 3) (.int x3)) := by
  rw [ty_cok_arr rfl] at hc ⊢
  obtain ⟨c1, c2, c3, c4⟩ := hc
  dsimp only at c2 c3 c4
  have key : ∀ f : Nat, ((((fs.set a (.int x0)).set (a + 1) (.int x1)).set (a + 2) (.int x2)).set (a + 3) (.int x3))[f]? = if f = a + 3 then some (.int x3) else if f = a + 2 then some (.int x2) else if f = a + 1 then some (.int x1) else if f = a then some (.int x0) else fs[f]? := by
    intro f
    simp only [List.getElem?_set, List.length_set, c2]
    by_cases q3 : f = a + 3
    · subst q3
      rw [if_pos rfl, if_pos rfl, if_pos (by omega)]
    · rw [if_neg (by omega), if_neg q3]
      by_cases q2 : f = a + 2
      · subst q2
        rw [if_pos rfl, if_pos rfl, if_pos (by omega)]
      · rw [if_neg (by omega), if_neg q2]
        by_cases q1 : f = a + 1
        · subst q1
          rw [if_pos rfl, if_pos rfl, if_pos (by omega)]
        · rw [if_neg (by omega), if_neg q1]
          by_cases q0 : f = a
          · subst q0
            rw [if_pos rfl, if_pos rfl, if_pos (by omega)]
          · rw [if_neg (by omega), if_neg q0]
  refine ⟨rfl, by simp only [List.length_set]; exact c2, fun f k v hk hv => ?_, fun lo hi hq f v hf hv => ?_⟩
  · rw [key] at hv
    have hk4 : hp_rows[f % 4]? = some k := hk
    split at hv
    · rename_i q
      cases hv
      rw [show f % 4 = 3 by omega] at hk4
      cases hk4
      exact ⟨x3, rfl⟩
    · split at hv
      · rename_i q
        cases hv
        rw [show f % 4 = 2 by omega] at hk4
        cases hk4
        exact h2
      · split at hv
        · rename_i q
          cases hv
          rw [show f % 4 = 1 by omega] at hk4
          cases hk4
          exact h1
        · split at hv
          · rename_i q
            cases hv
            rw [show f % 4 = 0 by omega] at hk4
            cases hk4
            exact h0
          · exact c3 f k v hk hv
  · cases hq
    rw [key] at hv
    split at hv
    · rename_i q
      cases hv
      rcases h3 with h3 | h3
      · left
        rw [key, if_neg (by omega), if_neg (by omega), if_neg (by omega), if_pos (by omega), h3]
      · right
        obtain ⟨y, e, e1, e2⟩ := h3
        cases e
        exact ⟨e1, e2⟩
    · rename_i q
      rw [if_neg (by omega), if_neg (by omega), if_neg (by omega)] at hv
      rw [key, if_neg (by omega), if_neg (by omega), if_neg (by omega), if_neg (by omega)]
      exact c4 0 5 rfl f v hf hv
def hp_no (C : ty_C) : ty_C := (C.1, ([], [], [], C.2.1.2.2.2.1, [(0, 0, 2, 0)]), [])
def hp_end (C : ty_C) : ty_C := (C.1, ([], [], [], C.2.1.2.2.2.1, []), [])
def hp_at (o : Int) (s : ty_V) (S : ty_S) : Bool := match S.2.2.1.2.2.2.2 with
  | v :: j :: _ => ty_fit S.1 s v && (match ty_or S.1 j with
    | some (b, o') => Nat.beq b 2 && decide (o' = o)
    | none => false)
  | _ => false
def hp_ch (C : ty_C) : List (Nat × Int × ty_V) → ty_S → Bool
  | [], S => match ty_1 hp_g [] (hp_end C) ty_big S with
    | some [] => true
    | _ => false
  | (p, o, s) :: r, S => ty_sg hp_g [] (hp_no C) (ty_bef 157 p 67) (fun S' => ty_sok 67 384 S' && (hp_at o s S' && hp_ch C r (ty_aft S'))) 60 S
def hp_vs : List (Nat × Int × ty_V) → List Int32 → Prop
  | [], [] => True
  | q :: l, x :: xs => ty_vok q.2.2 (.int x) ∧ hp_vs l xs
  | _, _ => False
def hp_sets (at0 : Int) : List (Nat × Int × ty_V) → List Int32 → List Value → List Value
  | q :: l, x :: xs, fs => hp_sets at0 l xs (fs.set (at0 + q.2.1).toNat (.int x))
  | _, _, fs => fs
theorem hp_ch_ok {C : ty_C} {l0 : Nat → Int32} (hn : 1 < ty_n0 C) (hm : C.1.1 = 157) : ∀ (l : List (Nat × Int × ty_V)) (S : ty_S) (c : am_G) (σ : Nat → Int32) (fs : List Value), (∀ q ∈ l, am_code 157 q.1 = some .iastore) → hp_ch C l S = true → ty_ho hp_g (hp_no C) l0 c.2.1 σ S c → c.2.1[67]? = some (32, fs) → ∃ (xs : List Int32) (h' : am_H), hp_vs l xs ∧ am_Ev c (.inl none, h') ∧ ty_gok hp_g h' ∧ h'.length = c.2.1.length ∧ h'[67]? = some (32, hp_sets (l0 1).toInt l xs fs) ∧ ∀ p : Nat, p ≠ 67 → h'[p]? = c.2.1[p]?
  | [], S, c, σ, fs, _, hc, ho, hf => by
    simp only [hp_ch] at hc
    split at hc
    · rename_i h1
      have ho2 : ty_ho hp_g (hp_end C) l0 c.2.1 σ S c := ty_ho_C rfl ho
      rcases ty_1_ok ho.2.1 (T := []) (fun C hC => absurd hC List.not_mem_nil) ho2 h1 with ⟨⟨o, h'⟩, r1, r2⟩ | ⟨S', m, _⟩
      · obtain ⟨r3, r4, r5⟩ := r2
        cases o with
        | inl v =>
          obtain ⟨y1, y2, y3⟩ := r5
          have hl : h'.length = c.2.1.length := by
            rcases y1 with y1 | ⟨_, y1⟩
            · exact y1
            · have e : (hp_end C).1.1 = 157 := hm
              rw [e] at y1
              cases y1
          have hh : h' = c.2.1 := ty_un_nil r4 hl
          subst hh
          cases v with
          | none => exact ⟨[], _, trivial, r1, r3, rfl, hf, fun _ _ => rfl⟩
          | some w =>
            obtain ⟨s, hs, _⟩ := y3
            exact absurd hs List.not_mem_nil
        | inr X => exact absurd r5.1 List.not_mem_nil
      · exact absurd m List.not_mem_nil
    · cases hc
  | (p, o, s) :: l, S, c, σ, fs, hcd, hc, ho, hf => by
    simp only [hp_ch] at hc
    rcases ty_sg_ok ho.2.1 (fun C hC => absurd hC List.not_mem_nil) _ _ _ _ hc ho with ⟨r, _, r2⟩ | ⟨S', σ', c', b1, b2, b3, b4⟩
    · exact absurd r2 (ty_rs_no rfl List.mem_cons_self r)
    · simp only [Bool.and_eq_true] at b2
      obtain ⟨d1, d2, d3⟩ := b2
      have hmid : S'.2.2.1.2.1 = 157 := by
        unfold ty_bef at b1
        split at b1
        · simp only [Bool.and_eq_true] at b1
          exact Nat.eq_of_beq_eq_true b1.1
        · cases b1
      have hh : c'.2.1 = c.2.1 := by
        refine ty_un_nil b3.2.2.2.2.2.1 ?_
        rcases b3.2.2.2.2.2.2 with q | ⟨_, _, _, q⟩
        · exact q
        · rw [hmid] at q
          cases q
      obtain ⟨v, j, r, x, w, fs1, c2, e1, e2, e3, e4, e5, e6, e7, e8, e9, e10⟩ := ty_hand b3 b1 d1 (hcd _ List.mem_cons_self) hp_g1 rfl
      rw [hh, hf] at e7
      cases e7
      unfold hp_at at d2
      rw [e1] at d2
      simp only [Bool.and_eq_true] at d2
      obtain ⟨f1, f2⟩ := d2
      split at f2
      · rename_i b o' hor
        simp only [Bool.and_eq_true, decide_eq_true_eq] at f2
        obtain ⟨f2, f3⟩ := f2
        obtain rfl := Nat.eq_of_beq_eq_true f2
        subst f3
        obtain ⟨w2, g1, g2⟩ := ty_or_ok b3.1 hor
        rw [e3] at g1
        cases g1
        have hσ : σ' 1 = l0 1 := b3.1.2.2.2 1 hn
        have hw : w.toNatClampNeg = ((l0 1).toInt + o').toNat := by
          have : w.toInt = (σ' 1).toInt + o' := g2
          rw [hσ] at this
          rw [← this]
          rfl
        have hv : ty_vok s (.int x) := by
          have := ty_fit_ok b3.1.1 f1
          rw [e2] at this
          exact this
        rw [hh] at e8
        have hl67 : 67 < c.2.1.length := (List.getElem?_eq_some_iff.mp hf).1
        obtain ⟨xs, h', i1, i2, i3, i4, i5, i6⟩ := hp_ch_ok hn hm l (ty_aft S') c2 σ' (fs.set w.toNatClampNeg (.int x)) (fun q hq => hcd q (List.mem_cons_of_mem _ hq)) d3 e9 (by rw [e8]; exact List.getElem?_set_self hl67)
        refine ⟨x :: xs, h', ⟨hv, i1⟩, b4 _ (e10 _ i2), i3, by rw [i4, e8, List.length_set], ?_, fun q hq => ?_⟩
        · rw [i5, hw]
          rfl
        · rw [i6 q hq, e8, List.getElem?_set_ne (fun e => hq e.symm)]
      · cases f2
def hp_l (s0 s3 : ty_V) : List (Nat × Int × ty_V) := [(6, 0, s0), (26, 1, (0, 0, 5)), (47, 2, (0, 0, 5)), (72, 3, s3)]
/-- the start of a contract -/
def ty_S0 (C : ty_C) : ty_S := ((ty_posts C.2.1.2.2.2.1 (ty_iv0 C.1.2.2.1) []).1, (ty_posts C.2.1.2.2.2.1 (ty_iv0 C.1.2.2.1) []).2, (C.1.2.2.2, C.1.1, C.1.2.1, ty_l0 0 C.1.2.2.1, []), [])
theorem hp_ok {C : ty_C} (hn : 1 < ty_n0 C) (hm : C.1.1 = 157) (hp0 : C.1.2.1 = 0) (hL : C.1.2.2.1[1]? = some (6, 0, 380)) (hmods : C.2.1.2.2.1 = [67]) (hpre : C.2.1.2.2.2.1 = []) (hpost : C.2.1.2.2.2.2 = []) (hret : C.2.1.1 = []) {s0 s3 : ty_V} (hck : hp_ch C (hp_l s0 s3) (ty_S0 (hp_no C)) = true)
    (hs0 : ∀ x : Int32, ty_vok s0 (.int x) → ty_vok (0, 0, 9) (.int x)) (hs3 : ∀ x y : Int32, ty_vok s0 (.int x) → ty_vok s3 (.int y) → x = 0 ∨ ty_vok (0, 0, 5) (.int y)) (d : Nat × Nat) (L : List Value) (h : am_H) (ha : ty_ar0 tc_g C d L h) : ty_vd tc_g C d L h := by
  obtain ⟨a1, a2, a3, a4, a5⟩ := ha
  have hg1 := hp_gok a4
  obtain ⟨⟨tx, fs⟩, f1, f2⟩ := a4 67 _ hp_g67
  have f3 := f2
  rw [ty_cok_arr rfl] at f3
  obtain ⟨p1, p2, _⟩ := f3
  dsimp only at p1 p2
  subst p1
  have ha1 : ty_ar0 hp_g (hp_no C) d L h := ⟨a1, a2, a3, hg1, a5⟩
  obtain ⟨σ, ho⟩ := ty_start ha1
  have hcd : ∀ q ∈ hp_l s0 s3, am_code 157 q.1 = some .iastore := by
    intro q hq
    simp only [hp_l, List.mem_cons, List.not_mem_nil, or_false] at hq
    rcases hq with rfl | rfl | rfl | rfl <;> rfl
  obtain ⟨xs, h', i1, i2, i3, i4, i5, i6⟩ := hp_ch_ok (C := C) (l0 := ty_l00 (hp_no C).1.2.2.1.length L h (hp_no C).2.1.2.2.2.1) hn hm (hp_l s0 s3) (ty_S0 (hp_no C)) ((d, C.1.1, C.1.2.1, L, []), h, []) σ fs hcd hck ho f1
  match xs, i1 with
  | [x0, x1, x2, x3], i1 =>
    obtain ⟨v0, v1, v2, v3, _⟩ := i1
    obtain ⟨v, w1, x, w2, w3, w4, w5⟩ := a3 1 _ hL rfl
    subst w2
    have e1 : ty_l00 (hp_no C).1.2.2.1.length L h (hp_no C).2.1.2.2.2.1 1 = x := by
      unfold ty_l00
      have hlen : 1 < (hp_no C).1.2.2.1.length := by
        have := (List.getElem?_eq_some_iff.mp hL).1
        exact this
      rw [if_pos hlen]
      simp only [ty_lv, w1]
    rw [e1] at i5
    dsimp only at w3 w4 w5
    obtain ⟨a, hax⟩ : ∃ a : Nat, x.toInt = (a : Int) := ⟨x.toInt.toNat, by omega⟩
    have hsets : hp_sets x.toInt (hp_l s0 s3) [x0, x1, x2, x3] fs = (((fs.set a (.int x0)).set (a + 1) (.int x1)).set (a + 2) (.int x2)).set (a + 3) (.int x3) := by
      simp only [hp_sets, hp_l, hax]
      rw [show ((a : Int) + 0).toNat = a by omega, show ((a : Int) + 1).toNat = a + 1 by omega, show ((a : Int) + 2).toNat = a + 2 by omega, show ((a : Int) + 3).toNat = a + 3 by omega]
    rw [hsets] at i5
    have hcok := hp_row f2 (a := a) (by omega) (by omega) (hs0 x0 v0) v1 v2 (hs3 x0 x3 v0 v3)
    refine ⟨(.inl none, h'), i2, hp_gok2 i3 i5 hcok, fun p hp y hy => ?_, Or.inl i4, ?_, hret⟩
    · rw [hmods] at hp
      rw [i6 p (fun q => hp (by rw [q]; exact List.mem_singleton.mpr rfl))]
      exact hy
    · rw [hpost]
      exact fun q hq => absurd hq List.not_mem_nil
end HPA
