/-! copy, with the number of blocks (p2) -/
section HCC
def hc_E (fr to a : Nat) : ty_C := ((161, 0, [(1, 64, 0), (7, fr, 0), (7, to, 0), (3, 0, 0)], (0, 0)), ([], [], [65, 66], [(65, fr, a, a)], [(0, 0, 2, 0)]), [(0, 1)])
def hc_kn (a : Nat) (i : Nat) (S : ty_S) : Bool := match ty_Fget S.2.1 65 (ty_ix i) with
  | some u => ty_fit S.1 (7, a, 0) u
  | none => false
def hc_2 (fr to a : Nat) : Bool := ty_sg hp_g [] (hc_E fr to a) hc_stp (fun S => hc_hd fr to hc_k0 S && (hc_kn a 0 S && hc_kn a 1 S)) 300 (ty_S0 (hc_E fr to a))
theorem hc_kn_ok {C0 : ty_C} {l0 : Nat → Int32} {H0 : am_H} {σ : Nat → Int32} {S : ty_S} {c : am_G} (ho : ty_ho hp_g C0 l0 H0 σ S c) {a i : Nat} (ha : a < 100000) (hi : i < 100000) (hs : hc_kn a i S = true) : ty_pk c.2.1 (65, i, a, a) := by
  unfold hc_kn at hs
  split at hs
  · rename_i u hu
    obtain ⟨x, j, e1, e2, e3, e4⟩ := ho.2.2.1 _ _ _ (ty_Fget_mem hu)
    cases e2
    have hv : sx_v σ u = .int (Int32.ofInt a) := ty_fit_ok ho.1.1 hs
    rw [hv] at e4
    have hn : (Int32.ofInt (a : Int)).toInt = a := ty_ofi (by omega) (by omega)
    exact ⟨x, Int32.ofInt a, e1, e3, e4, by show (a : Int) ≤ _; omega, by show _ ≤ (a : Int); omega⟩
  · cases hs
theorem hc_ok2 {fr to a : Nat} (hft : (fr = 0 ∧ to = 1) ∨ (fr = 1 ∧ to = 0)) (hal : a < 100000) (hck : hc_one fr to = true) (hend : ty_ck hp_g [] 2000 (hc_C fr to 50 (7, 192, 0) [68] []) = true) (hst : hc_2 fr to a = true)
    (rk : List (Nat × Nat)) (d : Nat × Nat) (L : List Value) (h : am_H) (ha : ty_ar0 tc_g ((161, 0, [(1, 64, 0), (7, fr, 0), (7, to, 0), (3, 0, 0)], (0, 0)), ([], [], [65, 66, 67, 68], [(65, fr, a, a)], [(65, 0, a, a), (65, 1, a, a)]), rk) d L h) : ty_vd tc_g ((161, 0, [(1, 64, 0), (7, fr, 0), (7, to, 0), (3, 0, 0)], (0, 0)), ([], [], [65, 66, 67, 68], [(65, fr, a, a)], [(65, 0, a, a), (65, 1, a, a)]), rk) d L h := by
  obtain ⟨a1, a2, a3, a4, a5⟩ := ha
  have hg1 := hp_gok a4
  obtain ⟨⟨tx, fs⟩, f1, f2⟩ := a4 67 _ hp_g67
  have f3 := f2
  rw [ty_cok_arr rfl] at f3
  obtain ⟨p1, p2, _⟩ := f3
  dsimp only at p1 p2
  subst p1
  have ha1 : ty_ar0 hp_g (hc_E fr to a) d L h := ⟨a1, a2, a3, hg1, a5⟩
  obtain ⟨σ, ho⟩ := ty_start ha1
  rcases ty_sg_ok hg1 (fun C hC => absurd hC List.not_mem_nil) _ _ _ _ hst ho with ⟨r, _, r2⟩ | ⟨S', σ', c', b1, b2, b3, b4⟩
  · exact absurd r2 (ty_rs_no rfl List.mem_cons_self r)
  · simp only [Bool.and_eq_true] at b2
    obtain ⟨b2, k0, k1⟩ := b2
    have q0 := hc_kn_ok b3 hal (by omega) k0
    have q1 := hc_kn_ok b3 hal (by omega) k1
    obtain ⟨d', L', H', v2, x2, u1, u2, u3, u4, u5, u6, u7, u8⟩ := hc_hd_ok b3 b2
    subst u1
    have hl : H'.length = h.length := by
      rcases b3.2.2.2.2.2.2 with q | ⟨_, _, _, q⟩
      · exact q
      · rw [hc_hd_mid b2] at q
        cases q
    have hun : ty_un [65, 66] h H' := b3.2.2.2.2.2.1
    have hx : x2 = 0 := by
      have := ty_ieq_ok u8
      rw [this] at u7
      cases u7
      rfl
    obtain ⟨h', fs', i1, i2, i3, i4, i5, i6, i7⟩ := hc_loop hft hck hend 192 0 rfl d' L' H' fs x2 u2 u3 u4 u5 (by rw [hx]; rfl) u6 b3.2.1 (hun 67 (by decide) _ f1) p2
    have hcok : ty_cok (32, 384, hp_rows) (32, fs') := hc_rows hft f2 i6 (fun f => by rw [i7 f, Nat.add_zero])
    have e65 : h'[65]? = H'[65]? := i4 65 (by decide) (by decide)
    refine ⟨(.inl none, h'), b4 _ i1, hp_gok2 i2 i5 hcok, fun p hp y hy => ?_, Or.inl (by show h'.length = h.length; rw [i3, hl]), fun q hq => ?_, rfl⟩
    · have hp : p ∉ [65, 66, 67, 68] := hp
      have hp1 : p ≠ 65 ∧ p ≠ 66 ∧ p ≠ 67 ∧ p ≠ 68 := by simpa using hp
      show h'[p]? = some y
      rw [i4 p hp1.2.2.1 hp1.2.2.2]
      exact hun p (by simp [hp1.1, hp1.2.1]) y hy
    · have hq : q ∈ [((65, 0, (a : Int), (a : Int)) : ty_P), (65, 1, a, a)] := hq
      simp only [List.mem_cons, List.not_mem_nil, or_false] at hq
      rcases hq with rfl | rfl
      · obtain ⟨x, v, z1, z2⟩ := q0
        exact ⟨x, v, by show h'[65]? = _; rw [e65]; exact z1, z2⟩
      · obtain ⟨x, v, z1, z2⟩ := q1
        exact ⟨x, v, by show h'[65]? = _; rw [e65]; exact z1, z2⟩
end HCC
