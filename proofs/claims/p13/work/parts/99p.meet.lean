/-! meet: what becomes of the pairs -/
section HMB
def ps_D (m : Nat) (PS PT : List Value) : Prop := ∀ i j : Nat, i < j → j < m → ¬ (PS[i]? = PS[j]? ∧ PT[i]? = PT[j]?)
def ps_rel (e m : Nat) (PS PT PA : List Value) (m' : Nat) (PS' PT' PA' : List Value) : Prop := m ≤ m' ∧ m' ≤ m + e ∧ (ps_D m PS PT → ps_D m' PS' PT') ∧ (∀ i : Nat, i < m → PS'[i]? = PS[i]? ∧ PT'[i]? = PT[i]?) ∧ ∀ (x : Nat) (a : Int32), PA[x]? = some (.int a) → a ≠ -1 → PA'[x]? = some (.int a)
theorem ps_rel.rf (e m : Nat) (PS PT PA : List Value) : ps_rel e m PS PT PA m PS PT PA := ⟨Nat.le_refl _, Nat.le_add_right _ _, fun h => h, fun _ _ => ⟨rfl, rfl⟩, fun _ _ h _ => h⟩
theorem ps_rel.tr {e f m m1 m2 : Nat} {PS PT PA PS1 PT1 PA1 PS2 PT2 PA2 : List Value} (h1 : ps_rel e m PS PT PA m1 PS1 PT1 PA1) (h2 : ps_rel f m1 PS1 PT1 PA1 m2 PS2 PT2 PA2) : ps_rel (e + f) m PS PT PA m2 PS2 PT2 PA2 := by
  obtain ⟨a1, a2, a3, a4, a5⟩ := h1
  obtain ⟨b1, b2, b3, b4, b5⟩ := h2
  refine ⟨by omega, by omega, fun h => b3 (a3 h), fun i hi => ?_, fun x a h ha => b5 x a (a5 x a h ha) ha⟩
  have c1 := a4 i hi
  have c2 := b4 i (by omega)
  exact ⟨c2.1.trans c1.1, c2.2.trans c1.2⟩
theorem ps_rel.wd {e f m m' : Nat} {PS PT PA PS' PT' PA' : List Value} (h : ps_rel e m PS PT PA m' PS' PT' PA') (hf : e ≤ f) : ps_rel f m PS PT PA m' PS' PT' PA' := ⟨h.1, by have := h.2.1; omega, h.2.2⟩
theorem ps_row {h : am_H} (hg : ty_gok tc_g h) {p len : Nat} {lo hi : Int} (hp : tc_g[p]? = some (32, len, [(0, lo, hi)])) : ∃ fs : List Value, h[p]? = some (32, fs) ∧ fs.length = len ∧ ∀ k : Nat, k < len → ∃ x : Int32, fs[k]? = some (.int x) ∧ lo ≤ x.toInt ∧ x.toInt ≤ hi := by
  obtain ⟨⟨t, fs⟩, e1, e2⟩ := hg p _ hp
  rw [ty_cok_arr rfl] at e2
  obtain ⟨p1, p2, p3, _⟩ := e2
  dsimp only at p1 p2 p3
  subst p1
  refine ⟨fs, e1, p2, fun k hk => ?_⟩
  have hl : k < fs.length := by omega
  obtain ⟨x, x1, x2, x3⟩ := p3 k (0, lo, hi) fs[k] (by show [((0, lo, hi) : ty_V)][k % 1]? = _; rw [Nat.mod_one]; rfl) (List.getElem?_eq_getElem hl)
  exact ⟨x, by rw [List.getElem?_eq_getElem hl, x1], x2, x3⟩
theorem ps_fld {h : am_H} (hg : ty_gok tc_g h) : ∃ (ms : List Value) (x : Int32), h[64]? = some (9, ms) ∧ ms[23]? = some (.ref 83) ∧ ms[24]? = some (.ref 84) ∧ ms[26]? = some (.ref 85) ∧ ms[25]? = some (.int x) ∧ 0 ≤ x.toInt ∧ x.toInt ≤ 40 := by
  obtain ⟨⟨t, ms⟩, e1, e2⟩ := hg 64 _ rfl
  rw [ty_cok_obj rfl ⟨rfl, rfl⟩] at e2
  obtain ⟨p1, p2, p3⟩ := e2
  have p1 : t = 9 := p1
  subst p1
  obtain ⟨v1, a1, a2⟩ := p3 23 (1, 83, 0) rfl
  obtain ⟨v2, a3, a4⟩ := p3 24 (1, 84, 0) rfl
  obtain ⟨v3, a5, a6⟩ := p3 26 (1, 85, 0) rfl
  obtain ⟨v4, a7, x, a8, a9, a10⟩ := p3 25 (0, 0, 40) rfl
  have a2 : v1 = .ref 83 := a2
  have a4 : v2 = .ref 84 := a4
  have a6 : v3 = .ref 85 := a6
  rw [a2] at a1
  rw [a4] at a3
  rw [a6] at a5
  rw [a8] at a7
  exact ⟨ms, x, e1, a1, a3, a5, a7, a9, a10⟩
theorem ps_of {h : am_H} (hg : ty_gok tc_g h) : ∃ (m : Nat) (ms PS PT PA : List Value), hm_h h m ms PS PT PA ∧ m ≤ 40 := by
  obtain ⟨ms, x, e1, e2, e3, e4, e5, e6, e7⟩ := ps_fld hg
  obtain ⟨PS, a1, a2, _⟩ := ps_row hg (p := 83) rfl
  obtain ⟨PT, b1, b2, _⟩ := ps_row hg (p := 84) rfl
  obtain ⟨PA, c1, c2, _⟩ := ps_row hg (p := 85) rfl
  obtain ⟨m, hm⟩ : ∃ m : Nat, x.toInt = (m : Int) := ⟨x.toInt.toNat, by omega⟩
  refine ⟨m, ms, PS, PT, PA, ⟨e1, e2, e3, e4, ?_, a1, b1, c1, a2, b2, c2⟩, by omega⟩
  rw [e5, show x = Int32.ofNat m by rw [← Int32.ofInt_eq_ofNat, ← hm, Int32.ofInt_toInt]]
theorem ps_on {n : Nat} {lo hi : Int} (h0 : n < 100000) (h1 : lo ≤ (n : Int)) (h2 : (n : Int) ≤ hi) : ty_vok (0, lo, hi) (.int (Int32.ofNat n)) := ⟨_, rfl, by rw [Int32.toInt_ofNat_of_lt (by omega)]; exact h1, by rw [Int32.toInt_ofNat_of_lt (by omega)]; exact h2⟩
theorem ps_tok {h : am_H} (hg : ty_gok tc_g h) {p len : Nat} {lo hi : Int} (hp : tc_g[p]? = some (32, len, [(0, lo, hi)])) {fs : List Value} (hf : h[p]? = some (32, fs)) {k n : Nat} (h0 : n < 100000) (h1 : lo ≤ (n : Int)) (h2 : (n : Int) ≤ hi) : ty_gok tc_g (h.set p (32, fs.set k (.int (Int32.ofNat n)))) := ty_gok_set hg (fun s hs => by
  rw [hp] at hs
  cases hs
  obtain ⟨x, e1, e2⟩ := hg p _ hp
  rw [hf] at e1
  cases e1
  exact ty_cok_st rfl e2 (ps_on h0 h1 h2))
theorem me_ok {d : Nat × Nat} {s t m : Nat} (hs : s < 6) (ht : t < 6) (hm : m ≤ 38) {h : am_H} {ms PS PT PA : List Value} (hg : ty_gok tc_g h) (hh : hm_h h m ms PS PT PA) {v3 : Value} : ∃ (h' : am_H) (m' : Nat) (ms' PS' PT' PA' : List Value), am_Ev ((d, 176, 0, [.ref 64, .int (Int32.ofNat s), .int (Int32.ofNat t), v3], []), h, []) (.inl none, h') ∧ ty_gok tc_g h' ∧ h'.length = h.length ∧ ty_un [64, 83, 84, 85] h h' ∧ hm_h h' m' ms' PS' PT' PA' ∧ ps_rel 1 m PS PT PA m' PS' PT' PA' := by
  have hh0 := hh
  obtain ⟨h64, m23, m24, m26, m25, h83, h84, h85, l1, l2, l3⟩ := hh0
  obtain ⟨PS0, a1, a2, a3⟩ := ps_row hg (p := 83) rfl
  rw [h83] at a1
  cases a1
  obtain ⟨PT0, b1, b2, b3⟩ := ps_row hg (p := 84) rfl
  rw [h84] at b1
  cases b1
  obtain ⟨PA0, c1, c2, c3⟩ := ps_row hg (p := 85) rfl
  rw [h85] at c1
  cases c1
  have st : ∀ R : am_O × am_H, am_Ev ((d, 176, 2, [.ref 64, .int (Int32.ofNat s), .int (Int32.ofNat t), .int (Int32.ofNat 0)], []), h, []) R → am_Ev ((d, 176, 0, [.ref 64, .int (Int32.ofNat s), .int (Int32.ofNat t), v3], []), h, []) R := by
    intro R hR
    refine am_sm_ev (sx_sm_step (i := .iconst 0) rfl rfl) ?_
    refine am_sm_ev (sx_sm_step (i := .istore_n 3) rfl rfl) ?_
    exact hR
  rcases hm_loop (d := d) hs ht hm hh (fun k hk => by obtain ⟨x, hx, _⟩ := a3 k hk; exact ⟨x, hx⟩) (fun k hk => by obtain ⟨x, hx, _⟩ := b3 k hk; exact ⟨x, hx⟩) m 0 (by omega) with r | ⟨r1, r2⟩
  · exact ⟨h, m, ms, PS, PT, PA, st _ r, hg, rfl, fun _ _ _ hx => hx, hh, ps_rel.rf _ _ _ _ _⟩
  · obtain ⟨a, ha, ha1, ha2⟩ := c3 s hs
    have hev := st _ (r2 _ (hm_add (d := d) hs ht hm hh ha (l3 := .int (Int32.ofNat m))))
    have g1 : ty_gok tc_g (h.set 83 (32, PS.set m (.int (Int32.ofNat s)))) := ps_tok hg rfl h83 (by omega) (by omega) (by omega)
    have e84 : (h.set 83 (32, PS.set m (.int (Int32.ofNat s))))[84]? = some (32, PT) := by rw [List.getElem?_set_ne (by decide)]; exact h84
    have g2 : ty_gok tc_g ((h.set 83 (32, PS.set m (.int (Int32.ofNat s)))).set 84 (32, PT.set m (.int (Int32.ofNat t)))) := ps_tok g1 rfl e84 (by omega) (by omega) (by omega)
    generalize hh2 : (h.set 83 (32, PS.set m (.int (Int32.ofNat s)))).set 84 (32, PT.set m (.int (Int32.ofNat t))) = h2 at hev g2
    have k83 : 83 < h.length := (List.getElem?_eq_some_iff.mp h83).1
    have k84 : 84 < h.length := (List.getElem?_eq_some_iff.mp h84).1
    have k85 : 85 < h.length := (List.getElem?_eq_some_iff.mp h85).1
    have k64 : 64 < h.length := (List.getElem?_eq_some_iff.mp h64).1
    have km : 25 < ms.length := (List.getElem?_eq_some_iff.mp m25).1
    have len2 : h2.length = h.length := by rw [← hh2, List.length_set, List.length_set]
    have x64 : h2[64]? = some (9, ms) := by rw [← hh2, List.getElem?_set_ne (by decide), List.getElem?_set_ne (by decide)]; exact h64
    have x83 : h2[83]? = some (32, PS.set m (.int (Int32.ofNat s))) := by rw [← hh2, List.getElem?_set_ne (by decide)]; exact List.getElem?_set_self k83
    have x84 : h2[84]? = some (32, PT.set m (.int (Int32.ofNat t))) := by rw [← hh2]; exact List.getElem?_set_self (by rw [List.length_set]; exact k84)
    have x85 : h2[85]? = some (32, PA) := by rw [← hh2, List.getElem?_set_ne (by decide), List.getElem?_set_ne (by decide)]; exact h85
    have u2 : ∀ p : Nat, p ≠ 83 → p ≠ 84 → h2[p]? = h[p]? := fun p p1 p2 => by rw [← hh2, List.getElem?_set_ne (fun e => p2 e.symm), List.getElem?_set_ne (fun e => p1 e.symm)]
    have g3 : ty_gok tc_g (h2.set 64 (9, ms.set 25 (.int (Int32.ofNat (m + 1))))) := ty_gok_set g2 (fun s' hs' => by
      have hs' : some _ = some s' := hs'
      cases hs'
      obtain ⟨x, e1, e2⟩ := g2 64 _ rfl
      rw [x64] at e1
      cases e1
      exact ty_cok_ost (by decide) e2 (s := (0, 0, 40)) rfl (ps_on (by omega) (by omega) (by omega)))
    generalize hh3 : h2.set 64 (9, ms.set 25 (.int (Int32.ofNat (m + 1)))) = h3 at hev g3
    have len3 : h3.length = h.length := by rw [← hh3, List.length_set, len2]
    have y64 : h3[64]? = some (9, ms.set 25 (.int (Int32.ofNat (m + 1)))) := by rw [← hh3]; exact List.getElem?_set_self (by omega)
    have y83 : h3[83]? = some (32, PS.set m (.int (Int32.ofNat s))) := by rw [← hh3, List.getElem?_set_ne (by decide)]; exact x83
    have y84 : h3[84]? = some (32, PT.set m (.int (Int32.ofNat t))) := by rw [← hh3, List.getElem?_set_ne (by decide)]; exact x84
    have y85 : h3[85]? = some (32, PA) := by rw [← hh3, List.getElem?_set_ne (by decide)]; exact x85
    have u3 : ∀ p : Nat, p ≠ 64 → p ≠ 83 → p ≠ 84 → h3[p]? = h[p]? := fun p p0 p1 p2 => by rw [← hh3, List.getElem?_set_ne (fun e => p0 e.symm)]; exact u2 p p1 p2
    have z1 : (ms.set 25 (.int (Int32.ofNat (m + 1))))[23]? = some (.ref 83) := by rw [List.getElem?_set_ne (by decide)]; exact m23
    have z2 : (ms.set 25 (.int (Int32.ofNat (m + 1))))[24]? = some (.ref 84) := by rw [List.getElem?_set_ne (by decide)]; exact m24
    have z3 : (ms.set 25 (.int (Int32.ofNat (m + 1))))[26]? = some (.ref 85) := by rw [List.getElem?_set_ne (by decide)]; exact m26
    have z4 : (ms.set 25 (.int (Int32.ofNat (m + 1))))[25]? = some (.int (Int32.ofNat (m + 1))) := List.getElem?_set_self km
    have relp : ∀ PA' : List Value, (∀ (x : Nat) (a : Int32), PA[x]? = some (.int a) → a ≠ -1 → PA'[x]? = some (.int a)) → ps_rel 1 m PS PT PA (m + 1) (PS.set m (.int (Int32.ofNat s))) (PT.set m (.int (Int32.ofNat t))) PA' := by
      intro PA' hPA
      refine ⟨by omega, by omega, fun hD i j hij hj => ?_, fun i hi => ?_, hPA⟩
      · by_cases q : j = m
        · subst q
          rw [List.getElem?_set_self (by omega), List.getElem?_set_self (by omega), List.getElem?_set_ne (by omega), List.getElem?_set_ne (by omega)]
          exact r1 i (by omega) hij
        · rw [List.getElem?_set_ne (by omega), List.getElem?_set_ne (by omega), List.getElem?_set_ne (by omega), List.getElem?_set_ne (by omega)]
          exact hD i j hij (by omega)
      · rw [List.getElem?_set_ne (by omega), List.getElem?_set_ne (by omega)]
        exact ⟨rfl, rfl⟩
    by_cases q : a = -1
    · rw [if_pos q] at hev
      have g4 : ty_gok tc_g (h3.set 85 (32, PA.set s (.int (Int32.ofNat t)))) := ps_tok g3 rfl y85 (by omega) (by omega) (by omega)
      refine ⟨_, m + 1, _, _, _, PA.set s (.int (Int32.ofNat t)), hev, g4, by rw [List.length_set]; exact len3, fun p hp y hy => ?_, ⟨by rw [List.getElem?_set_ne (by decide)]; exact y64, z1, z2, z3, z4, by rw [List.getElem?_set_ne (by decide)]; exact y83, by rw [List.getElem?_set_ne (by decide)]; exact y84, List.getElem?_set_self (by omega), by rw [List.length_set]; exact l1, by rw [List.length_set]; exact l2, by rw [List.length_set]; exact l3⟩, relp _ (fun x a' hx ha' => ?_)⟩
      · have hp' : p ≠ 64 ∧ p ≠ 83 ∧ p ≠ 84 ∧ p ≠ 85 := by simpa using hp
        rw [List.getElem?_set_ne (fun e => hp'.2.2.2 e.symm), u3 p hp'.1 hp'.2.1 hp'.2.2.1]
        exact hy
      · by_cases z : s = x
        · subst z
          rw [ha] at hx
          cases hx
          exact absurd q ha'
        · rw [List.getElem?_set_ne z]
          exact hx
    · rw [if_neg q] at hev
      refine ⟨_, m + 1, _, _, _, PA, hev, g3, len3, fun p hp y hy => ?_, ⟨y64, z1, z2, z3, z4, y83, y84, y85, by rw [List.length_set]; exact l1, by rw [List.length_set]; exact l2, l3⟩, relp _ (fun x a' hx _ => hx)⟩
      have hp' : p ≠ 64 ∧ p ≠ 83 ∧ p ≠ 84 ∧ p ≠ 85 := by simpa using hp
      rw [u3 p hp'.1 hp'.2.1 hp'.2.2.1]
      exact hy
end HMB
