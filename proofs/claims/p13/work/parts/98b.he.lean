/-! CELLS BY THEIR BOUNDS: what reading finds, what writing keeps -/
section TYE
variable {σ σ' : Nat → Int32}
theorem ty_one_ne {t : Nat} (h : ty_one t = true) : Nat.beq t 99 = false ∧ Nat.beq t 98 = false := by
  simp only [ty_one, Bool.or_eq_true] at h
  rcases h with h | h | h <;> rw [Nat.eq_of_beq_eq_true h] <;> exact ⟨rfl, rfl⟩
theorem ty_cok_arr {s : ty_X} {x : am_C} (h : ty_one s.1 = true) : ty_cok s x ↔ (x.1 = s.1 ∧ x.2.length = s.2.1 ∧ (∀ (f : Nat) (k : ty_V) (v : Value), s.2.2[f % s.2.2.length]? = some k → x.2[f]? = some v → ty_vok k v) ∧
        ∀ (lo hi : Int), s.2.2[3]? = some (5, lo, hi) → ∀ (f : Nat) (v : Int32), f % 4 = 3 → x.2[f]? = some (.int v) → x.2[f - 3]? = some (.int 0) ∨ (lo ≤ v.toInt ∧ v.toInt ≤ hi)) := by
  unfold ty_cok
  rw [(ty_one_ne h).1, (ty_one_ne h).2, h]
theorem ty_cok_obj {s : ty_X} {x : am_C} (h : ty_one s.1 = false) (h9 : Nat.beq s.1 99 = false ∧ Nat.beq s.1 98 = false) : ty_cok s x ↔ (x.1 = s.1 ∧ x.2.length = s.2.2.length ∧ ∀ (f : Nat) (k : ty_V), s.2.2[f]? = some k → ∃ v, x.2[f]? = some v ∧ ty_vok k v) := by
  unfold ty_cok
  rw [h9.1, h9.2, h]
theorem ty_lt_one {t : Nat} (h : t < 32) : ty_one t = false ∧ Nat.beq t 99 = false ∧ Nat.beq t 98 = false := by
  have n : ∀ k : Nat, 32 ≤ k → Nat.beq t k = false := fun k hk => by
    cases q : Nat.beq t k with
    | false => rfl
    | true => have := Nat.eq_of_beq_eq_true q; omega
  exact ⟨by simp only [ty_one, n 32 (by omega), n 33 (by omega), n 34 (by omega), Bool.or_self], n 99 (by omega), n 98 (by omega)⟩
theorem ty_gok_get {g : List ty_X} {h : am_H} (hg : ty_gok g h) {a : Nat} {s : ty_X} (ha : g[a]? = some s) : ∃ x : am_C, h[a]? = some x ∧ ty_cok s x := hg a s ha
theorem ty_gok_set {g : List ty_X} {h : am_H} (hg : ty_gok g h) {a : Nat} {x : am_C} (hx : ∀ s : ty_X, g[a]? = some s → ty_cok s x) : ty_gok g (h.set a x) := by
  intro p s hp
  obtain ⟨y, h1, h2⟩ := hg p s hp
  by_cases q : a = p
  · subst q
    have hl := (List.getElem?_eq_some_iff.mp h1).1
    exact ⟨x, List.getElem?_set_self hl, hx s hp⟩
  · exact ⟨y, by rw [List.getElem?_set_ne q]; exact h1, h2⟩
theorem ty_gok_app {g : List ty_X} {h : am_H} (hg : ty_gok g h) (e : am_H) : ty_gok g (h ++ e) := by
  intro p s hp
  obtain ⟨y, h1, h2⟩ := hg p s hp
  exact ⟨y, by rw [List.getElem?_append_left (List.getElem?_eq_some_iff.mp h1).1]; exact h1, h2⟩
/-- one row for all indices: a store that keeps it -/
theorem ty_cok_st {tg len : Nat} {s : ty_V} {x : am_C} (ho : ty_one tg = true) (hx : ty_cok (tg, len, [s]) x) {j : Nat} {w : Value} (hw : ty_vok s w) : ty_cok (tg, len, [s]) (x.1, x.2.set j w) := by
  rw [ty_cok_arr ho] at hx ⊢
  obtain ⟨h1, h2, h3, h4⟩ := hx
  refine ⟨h1, by rw [List.length_set]; exact h2, fun f k v hk hv => ?_, fun lo hi hq => by cases hq⟩
  by_cases q : j = f
  · subst q
    have hl := (List.getElem?_eq_some_iff.mp hv).1
    rw [List.length_set] at hl
    rw [List.getElem?_set_self hl] at hv
    cases hv
    have : k = s := by simpa [Nat.mod_one] using hk.symm
    rw [this]
    exact hw
  · rw [List.getElem?_set_ne q] at hv
    exact h3 f k v hk hv
theorem ty_cok_ost {tg len : Nat} {ss : List ty_V} {x : am_C} (ho : tg < 32) (hx : ty_cok (tg, len, ss) x) {j : Nat} {s : ty_V} {w : Value} (hs : ss[j]? = some s) (hw : ty_vok s w) : ty_cok (tg, len, ss) (x.1, x.2.set j w) := by
  have hq := ty_lt_one ho
  rw [ty_cok_obj hq.1 hq.2] at hx ⊢
  obtain ⟨h1, h2, h3⟩ := hx
  refine ⟨h1, by rw [List.length_set]; exact h2, fun f k hk => ?_⟩
  obtain ⟨v, e1, e2⟩ := h3 f k hk
  by_cases q : j = f
  · subst q
    have hl := (List.getElem?_eq_some_iff.mp e1).1
    rw [hs] at hk
    cases hk
    exact ⟨w, List.getElem?_set_self hl, hw⟩
  · exact ⟨v, by rw [List.getElem?_set_ne q]; exact e1, e2⟩
theorem ty_nn {w : Int32} (h : 0 ≤ w.toInt) : ¬ w < 0 := by
  rw [Int32.lt_iff_toInt_lt]
  have : (0 : Int32).toInt = 0 := rfl
  omega
theorem ty_cl {w : Int32} (h : 0 ≤ w.toInt) : (w.toNatClampNeg : Int) = w.toInt := by
  rw [← Int32.toNat_toInt]
  omega
/-- an index within its bounds -/
theorem ty_idx_ok {iv : List ty_B} (hiv : ty_ivok iv σ) {j : Value} {len : Nat} (h : ty_idx iv j len = true) : ∃ w : Int32, sx_v σ j = .int w ∧ 0 ≤ w.toInt ∧ w.toNatClampNeg < len := by
  unfold ty_idx at h
  split at h
  · rename_i l u hb
    obtain ⟨w, e, a1, a2⟩ := ty_bd_ok hiv hb
    simp only [Bool.and_eq_true, ty_leq] at h
    have h0 : 0 ≤ w.toInt := by omega
    have := ty_cl h0
    exact ⟨w, e, h0, by omega⟩
  · cases h
theorem ty_ixn {k : Nat} (h : k < 100000) : (Int32.ofNat k).toNatClampNeg = k ∧ 0 ≤ (Int32.ofNat k).toInt := by
  refine ⟨Int32.toNatClampNeg_ofNat_of_lt (by omega), ?_⟩
  rw [Int32.toInt_ofNat_of_lt (by omega)]
  omega
/-- what is known after a store -/
theorem ty_Fok_st {F : ty_F} {h : am_H} (hF : ty_Fok F σ h) {a : Nat} {x : am_C} {j v : Value} {w : Int32} (hx : h[a]? = some x) (hj : sx_v σ j = .int w) (h0 : 0 ≤ w.toInt) (hl : w.toNatClampNeg < x.2.length) : ty_Fok ((a, j, v) :: ty_Fset F a j) σ (h.set a (x.1, x.2.set w.toNatClampNeg (sx_v σ v))) := by
  have ha := (List.getElem?_eq_some_iff.mp hx).1
  intro p i u hm
  rcases List.mem_cons.mp hm with q | hm
  · cases q
    exact ⟨_, w, List.getElem?_set_self ha, hj, h0, List.getElem?_set_self hl⟩
  · obtain ⟨h1, h2⟩ := ty_Fset_mem hm
    obtain ⟨y, j', e1, e2, e3, e4⟩ := hF p i u h1
    by_cases q : a = p
    · subst q
      rw [hx] at e1
      cases e1
      rcases h2 with h2 | h2
      · exact absurd rfl h2
      · refine ⟨_, j', List.getElem?_set_self ha, e2, e3, ?_⟩
        rw [List.getElem?_set_ne]
        · exact e4
        · intro hq
          dsimp only at h2
          match i, j, h2, hj, e2 with
          | .int a', .int b', h2, hj, e2 =>
            cases hj
            cases e2
            simp only [ty_idf, Bool.not_eq_true', decide_eq_false_iff_not] at h2
            apply h2
            apply Int32.toInt_inj.mp
            have := ty_cl h0
            have := ty_cl e3
            omega
    · exact ⟨y, j', by rw [List.getElem?_set_ne q]; exact e1, e2, e3, e4⟩
theorem ty_Fok_app {F : ty_F} {h : am_H} (hF : ty_Fok F σ h) (e : am_H) : ty_Fok F σ (h ++ e) := by
  intro p i v hm
  obtain ⟨x, j, e1, e2⟩ := hF p i v hm
  exact ⟨x, j, by rw [List.getElem?_append_left (List.getElem?_eq_some_iff.mp e1).1]; exact e1, e2⟩
/-- bounds of an index, that a cell has -/
def ty_pk (h : am_H) (q : ty_P) : Prop := ∃ (x : am_C) (v : Int32), h[q.1]? = some x ∧ 0 ≤ (Int32.ofNat q.2.1).toInt ∧ x.2[(Int32.ofNat q.2.1).toNatClampNeg]? = some (.int v) ∧ q.2.2.1 ≤ v.toInt ∧ v.toInt ≤ q.2.2.2
theorem ty_row_ok {g : List ty_X} {h : am_H} (hg : ty_gok g h) {p n : Nat} {lo hi : Int} (hr : ty_row g p n = some (0, lo, hi)) : ∃ (x : am_C) (v : Int32), h[p]? = some x ∧ x.2[n]? = some (.int v) ∧ lo ≤ v.toInt ∧ v.toInt ≤ hi := by
  unfold ty_row at hr
  split at hr
  · rename_i tg len ss hs
    obtain ⟨x, h1, h2⟩ := hg p _ hs
    split at hr
    · cases hr
    · rename_i h9
      have h9 : Nat.beq tg 99 = false ∧ Nat.beq tg 98 = false := by
        have := (Bool.not_eq_true _).mp h9
        rw [Bool.or_eq_false_iff] at this
        exact this
      split at hr
      · rename_i ho
        split at hr
        · rename_i hn
          rw [ty_cok_arr ho] at h2
          obtain ⟨a1, a2, a3, a4⟩ := h2
          have hn : n < x.2.length := by rw [a2]; simpa [Nat.blt_eq] using hn
          have := a3 n _ (x.2[n]) hr (List.getElem?_eq_getElem hn)
          obtain ⟨v, e1, e2, e3⟩ := this
          exact ⟨x, v, h1, by rw [List.getElem?_eq_getElem hn, e1], e2, e3⟩
        · cases hr
      · rename_i ho
        have ho : ty_one tg = false := (Bool.not_eq_true _).mp ho
        rw [ty_cok_obj ho h9] at h2
        obtain ⟨a1, a2, a3⟩ := h2
        obtain ⟨v, e1, w, e2, e3, e4⟩ := a3 n _ hr
        exact ⟨x, w, h1, by rw [e1, e2], e3, e4⟩
  · cases hr
theorem ty_pre_ok {g : List ty_X} {iv : List ty_B} {F : ty_F} {h : am_H} (hiv : ty_ivok iv σ) (hg : ty_gok g h) (hF : ty_Fok F σ h) : ∀ {ps : List ty_P}, ty_pre g iv F ps = true → ∀ q ∈ ps, ty_pk h q
  | [], _, q, hq => absurd hq List.not_mem_nil
  | e :: r, hp, q, hq => by
    simp only [ty_pre, Bool.and_eq_true] at hp
    rcases List.mem_cons.mp hq with rfl | hq
    · have hp := hp.1
      split at hp
      · rename_i v hv
        obtain ⟨x, j, e1, e2, e3, e4⟩ := hF _ _ _ (ty_Fget_mem hv)
        obtain ⟨w, f1, f2, f3⟩ := ty_fit_ok hiv hp
        cases e2
        exact ⟨x, w, e1, e3, by rw [e4, f1], f2, f3⟩
      · split at hp
        · rename_i lo hi hr
          simp only [Bool.and_eq_true, ty_leq, Nat.blt_eq] at hp
          obtain ⟨x, v, e1, e2, e3, e4⟩ := ty_row_ok hg hr
          have hn := ty_ixn hp.1
          exact ⟨x, v, e1, hn.2, by rw [hn.1]; exact e2, by omega, by omega⟩
        · cases hp
    · exact ty_pre_ok hiv hg hF hp.2 q hq
theorem ty_posts_ok {n0 : Nat} {l0 : Nat → Int32} {h : am_H} : ∀ (ps : List ty_P) (iv : List ty_B) (F : ty_F) (σ : Nat → Int32), ty_iw n0 l0 iv σ → ty_Fok F σ h → ty_wF iv.length F = true → (∀ q ∈ ps, ty_pk h q) → ∃ σ' : Nat → Int32, ty_ag iv.length σ σ' ∧ ty_iw n0 l0 (ty_posts ps iv F).1 σ' ∧ ty_Fok (ty_posts ps iv F).2 σ' h ∧ iv.length ≤ (ty_posts ps iv F).1.length
  | [], iv, F, σ, hi, hF, _, _ => ⟨σ, fun _ _ => rfl, hi, hF, Nat.le_refl _⟩
  | q :: r, iv, F, σ, hi, hF, hw, hp => by
    obtain ⟨x, v, e1, e2, e3, e4, e5⟩ := hp q List.mem_cons_self
    have ag := ty_up_ag (σ := σ) iv.length v
    have hl : (iv ++ [((q.2.2.1, q.2.2.2, 0, 0, 4) : ty_B)]).length = iv.length + 1 := by rw [List.length_append, List.length_singleton]
    have wm : ∀ (n : Nat) (F : ty_F), ty_wF n F = true → ty_wF (n + 1) F = true := by
      intro n F
      induction F with
      | nil => intro _; rfl
      | cons e F ih =>
        intro hw
        have wv : ∀ v : Value, ty_wv n v = true → ty_wv (n + 1) v = true := fun v hv => by
          unfold ty_wv at hv ⊢
          split
          · rename_i k
            simp only [Nat.blt_eq] at hv ⊢
            omega
          · rfl
        simp only [ty_wF, Bool.and_eq_true] at hw ⊢
        exact ⟨wv _ hw.1, wv _ hw.2.1, ih hw.2.2⟩
    obtain ⟨σ', s1, s2, s3, s4⟩ := ty_posts_ok r (iv ++ [((q.2.2.1, q.2.2.2, 0, 0, 4) : ty_B)]) ((q.1, ty_ix q.2.1, .retAddr (iv.length + 1)) :: F) (ty_up σ iv.length v) (ty_iw_push hi (ty_nb_bd _ e4 e5)) (by
      intro p i u hm
      rcases List.mem_cons.mp hm with hq | hm
      · cases hq
        exact ⟨x, Int32.ofNat q.2.1, e1, rfl, e2, by rw [e3]; simp only [sx_v, ty_up_at]⟩
      · exact ty_wF_ag ag hw hF p i u hm) (by
      rw [hl]
      simp only [ty_wF, ty_ix, ty_wv, Nat.blt_eq, Bool.and_eq_true, true_and]
      exact ⟨Nat.lt_succ_self _, wm _ _ hw⟩) (fun q' hq' => hp q' (List.mem_cons_of_mem _ hq'))
    refine ⟨σ', fun k hk => ?_, s2, s3, by rw [hl] at s4; exact Nat.le_trans (Nat.le_succ _) s4⟩
    rw [s1 k (by rw [hl]; omega), ag k hk]
end TYE
