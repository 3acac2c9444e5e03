/-! CALLS BY HAND; meet, step by step -/
section HMA
theorem hk_real {d : Nat × Nat} {mid pc : Nat} {L st : List Value} {h h' : am_H} {K : List am_K} {x k : Nat} {v : Option Value} (hi : am_code mid pc = some (.invokevirtual x)) (hpm : am_pm (am_oc mid) x = some (0, k)) (hkd : Nat.beq (am_kd k) 0 = true) (hna : am_na k ≤ st.length) (hd1 : 1 ≤ d.1) (hd2 : am_wt (st.drop (am_na k)) + (am_ml k + 11) ≤ d.2) (hkn : am_kns (st.take (am_na k)) = true) (hrc : am_rcv k (st.take (am_na k)).reverse h = true)
    (he : am_Ev (((d.1 - 1, d.2 - (am_wt (st.drop (am_na k)) + (am_ml k + 11))), k, 0, (st.take (am_na k)).reverse ++ List.replicate (am_ml k - am_na k) (.retAddr 0), []), h, []) (.inl v, h')) (R : am_O × am_H) (hR : am_Ev ((d, mid, pc + 3, L, v.toList ++ st.drop (am_na k)), h', K) R) : am_Ev ((d, mid, pc, L, st), h, K) R := by
  obtain ⟨n, z, e1, e2⟩ := he
  have e2 : z = (.inl v, h') := e2
  subst e2
  refine am_sm_ev (c' := (((d.1 - 1, d.2 - (am_wt (st.drop (am_na k)) + (am_ml k + 11))), k, 0, (st.take (am_na k)).reverse ++ List.replicate (am_ml k - am_na k) (.retAddr 0), []), h, (d, mid, pc, L, st.drop (am_na k)) :: K)) (sx_sm_ctl hi rfl ?_) ⟨n, _, e1, am_pop_end _ _ _ _ _ rfl hR⟩
  simp only [am_smt, hpm, am_smc]
  rw [if_pos]
  simp only [Bool.and_eq_true]
  exact ⟨hkd, Nat.ble_eq_true_of_le hna, Nat.ble_eq_true_of_le hd1, Nat.ble_eq_true_of_le hd2, hkn, hrc⟩
theorem hm_gf {mid pc y k : Nat} {L st : List Value} {h : am_H} {ms : List Value} {v : Value} (hp : am_pf (am_oc mid) y = some (9, k)) (h64 : h[64]? = some (9, ms)) (hk : ms[k]? = some v) : am_step mid pc L (.ref 64 :: st) h (.getfield y) = some (pc + 3, L, v :: st, h) := by
  simp only [am_step, hp, h64]
  rw [if_pos (show Nat.beq 9 9 = true from rfl), hk]
theorem hm_ld {mid pc a k : Nat} {L st : List Value} {h : am_H} {fs : List Value} {v : Value} (hk : k < 100000) (ha : h[a]? = some (32, fs)) (hv : fs[k]? = some v) : am_step mid pc L (.int (Int32.ofNat k) :: .ref a :: st) h .iaload = some (pc + 1, L, v :: st, h) := by
  have n := ty_ixn hk
  simp only [am_step, am_ald, ha]
  rw [if_pos (show Nat.beq 32 (32 + 0) = true from rfl), if_neg (ty_nn n.2), n.1, hv]
theorem hm_st {mid pc a k : Nat} {L st : List Value} {h : am_H} {fs : List Value} {x : Int32} (hk : k < 100000) (ha : h[a]? = some (32, fs)) (hl : k < fs.length) (h2 : Nat.ble 2 a = true) : am_step mid pc L (.int x :: .int (Int32.ofNat k) :: .ref a :: st) h .iastore = some (pc + 1, L, st, h.set a (32, fs.set k (.int x))) := by
  have n := ty_ixn hk
  simp only [am_step, am_ast, ha]
  rw [if_pos (by simp only [Bool.and_eq_true]; exact ⟨rfl, h2⟩), if_neg (ty_nn n.2), n.1, if_pos (by rw [Nat.blt_eq]; exact hl)]
theorem hm_ge {mid pc : Nat} {L st : List Value} {h : am_H} {a b : Nat} {o : Int} (ha : a < 100000) (hb : b < 100000) : am_step mid pc L (.int (Int32.ofNat b) :: .int (Int32.ofNat a) :: st) h (.if_icmp .ge o) = some (if b ≤ a then am_jmp pc o else pc + 3, L, st, h) := by
  simp only [am_step]
  have : (Int32.ofNat b ≤ Int32.ofNat a) ↔ b ≤ a := Int32.ofNat_le_iff_le (by omega) (by omega)
  by_cases q : b ≤ a
  · rw [if_pos (this.mpr q), if_pos q]
  · rw [if_neg (fun e => q (this.mp e)), if_neg q]
theorem hm_ret {d : Nat × Nat} {mid pc : Nat} {L : List Value} {h : am_H} (hi : am_code mid pc = some .return_) (hv : am_vo (am_rt mid) = true) : am_Ev ((d, mid, pc, L, []), h, []) (.inl none, h) := by
  refine ⟨1, (.inl none, h), ?_, rfl⟩
  show am_body (am_run 0) d mid pc L [] h = _
  unfold am_body
  rw [hi]
  simp only [am_step, am_ctl]
  rw [if_pos hv]
/-- what meet needs of the cells -/
def hm_h (h : am_H) (m : Nat) (ms PS PT PA : List Value) : Prop := h[64]? = some (9, ms) ∧ ms[23]? = some (.ref 83) ∧ ms[24]? = some (.ref 84) ∧ ms[26]? = some (.ref 85) ∧ ms[25]? = some (.int (Int32.ofNat m)) ∧ h[83]? = some (32, PS) ∧ h[84]? = some (32, PT) ∧ h[85]? = some (32, PA) ∧ PS.length = 40 ∧ PT.length = 40 ∧ PA.length = 6
/-- the look for the pair -/
theorem hm_loop {d : Nat × Nat} {s t m : Nat} (hs : s < 6) (ht : t < 6) (hm : m ≤ 38) {h : am_H} {ms PS PT PA : List Value} (hh : hm_h h m ms PS PT PA) (hps : ∀ k : Nat, k < 40 → ∃ x : Int32, PS[k]? = some (.int x)) (hpt : ∀ k : Nat, k < 40 → ∃ x : Int32, PT[k]? = some (.int x)) : ∀ (j k : Nat), k + j = m →
    (am_Ev ((d, 176, 2, [.ref 64, .int (Int32.ofNat s), .int (Int32.ofNat t), .int (Int32.ofNat k)], []), h, []) (.inl none, h)) ∨
    ((∀ x : Nat, k ≤ x → x < m → ¬ (PS[x]? = some (.int (Int32.ofNat s)) ∧ PT[x]? = some (.int (Int32.ofNat t)))) ∧ ∀ R : am_O × am_H, am_Ev ((d, 176, 37, [.ref 64, .int (Int32.ofNat s), .int (Int32.ofNat t), .int (Int32.ofNat m)], []), h, []) R → am_Ev ((d, 176, 2, [.ref 64, .int (Int32.ofNat s), .int (Int32.ofNat t), .int (Int32.ofNat k)], []), h, []) R) := by
  obtain ⟨h64, m23, m24, m26, m25, h83, h84, h85, l1, l2, l3⟩ := hh
  intro j
  induction j with
  | zero =>
    intro k hk
    obtain rfl : k = m := by omega
    right
    refine ⟨fun x x1 x2 => by omega, fun R hR => ?_⟩
    refine am_sm_ev (sx_sm_step (i := .iload_n 3) rfl rfl) ?_
    refine am_sm_ev (sx_sm_step (i := .aload_n 0) rfl rfl) ?_
    refine am_sm_ev (sx_sm_step (i := .getfield 226) rfl (hm_gf rfl h64 m25)) ?_
    refine am_sm_ev (sx_sm_step (i := .if_icmp .ge 30) rfl (hm_ge (by omega) (by omega))) ?_
    rw [if_pos (Nat.le_refl _)]
    exact hR
  | succ j ih =>
    intro k hk
    obtain ⟨x, hx⟩ := hps k (by omega)
    obtain ⟨y, hy⟩ := hpt k (by omega)
    have e3 : Int32.ofNat k + Int32.ofInt 1 = Int32.ofNat (k + 1) := by
      have c3 : Int32.ofInt 1 = Int32.ofNat 1 := rfl
      rw [c3, od_on]
    have pre : ∀ R : am_O × am_H, am_Ev ((d, 176, 17, [.ref 64, .int (Int32.ofNat s), .int (Int32.ofNat t), .int (Int32.ofNat k)], [.int (Int32.ofNat s), .int x]), h, []) R → am_Ev ((d, 176, 2, [.ref 64, .int (Int32.ofNat s), .int (Int32.ofNat t), .int (Int32.ofNat k)], []), h, []) R := by
      intro R hR
      refine am_sm_ev (sx_sm_step (i := .iload_n 3) rfl rfl) ?_
      refine am_sm_ev (sx_sm_step (i := .aload_n 0) rfl rfl) ?_
      refine am_sm_ev (sx_sm_step (i := .getfield 226) rfl (hm_gf rfl h64 m25)) ?_
      refine am_sm_ev (sx_sm_step (i := .if_icmp .ge 30) rfl (hm_ge (by omega) (by omega))) ?_
      rw [if_neg (by omega)]
      refine am_sm_ev (sx_sm_step (i := .aload_n 0) rfl rfl) ?_
      refine am_sm_ev (sx_sm_step (i := .getfield 74) rfl (hm_gf rfl h64 m23)) ?_
      refine am_sm_ev (sx_sm_step (i := .iload_n 3) rfl rfl) ?_
      refine am_sm_ev (sx_sm_step (i := .iaload) rfl (hm_ld (by omega) h83 hx)) ?_
      refine am_sm_ev (sx_sm_step (i := .iload_n 1) rfl rfl) ?_
      exact hR
    have nx : ∀ R : am_O × am_H, am_Ev ((d, 176, 2, [.ref 64, .int (Int32.ofNat s), .int (Int32.ofNat t), .int (Int32.ofNat (k + 1))], []), h, []) R → am_Ev ((d, 176, 31, [.ref 64, .int (Int32.ofNat s), .int (Int32.ofNat t), .int (Int32.ofNat k)], []), h, []) R := by
      intro R hR
      refine am_sm_ev (sx_sm_step (i := .iinc 3 1) rfl rfl) ?_
      refine am_sm_ev (sx_sm_step (i := .goto (-32)) rfl rfl) ?_
      show am_Ev ((d, 176, 2, [.ref 64, .int (Int32.ofNat s), .int (Int32.ofNat t), .int (Int32.ofNat k + Int32.ofInt 1)], []), h, []) R
      rw [e3]
      exact hR
    have cont : (∀ R : am_O × am_H, am_Ev ((d, 176, 31, [.ref 64, .int (Int32.ofNat s), .int (Int32.ofNat t), .int (Int32.ofNat k)], []), h, []) R → am_Ev ((d, 176, 2, [.ref 64, .int (Int32.ofNat s), .int (Int32.ofNat t), .int (Int32.ofNat k)], []), h, []) R) → ¬ (PS[k]? = some (.int (Int32.ofNat s)) ∧ PT[k]? = some (.int (Int32.ofNat t))) → (am_Ev ((d, 176, 2, [.ref 64, .int (Int32.ofNat s), .int (Int32.ofNat t), .int (Int32.ofNat k)], []), h, []) (.inl none, h)) ∨
    ((∀ x : Nat, k ≤ x → x < m → ¬ (PS[x]? = some (.int (Int32.ofNat s)) ∧ PT[x]? = some (.int (Int32.ofNat t)))) ∧ ∀ R : am_O × am_H, am_Ev ((d, 176, 37, [.ref 64, .int (Int32.ofNat s), .int (Int32.ofNat t), .int (Int32.ofNat m)], []), h, []) R → am_Ev ((d, 176, 2, [.ref 64, .int (Int32.ofNat s), .int (Int32.ofNat t), .int (Int32.ofNat k)], []), h, []) R) := by
      intro hc hno
      rcases ih (k + 1) (by omega) with r | ⟨r1, r2⟩
      · exact Or.inl (hc _ (nx _ r))
      · refine Or.inr ⟨fun z z1 z2 => ?_, fun R hR => hc _ (nx _ (r2 R hR))⟩
        by_cases q : z = k
        · rw [q]; exact hno
        · exact r1 z (by omega) z2
    by_cases q : x = Int32.ofNat s
    · have ps2 : ∀ R : am_O × am_H, am_Ev ((d, 176, 27, [.ref 64, .int (Int32.ofNat s), .int (Int32.ofNat t), .int (Int32.ofNat k)], [.int (Int32.ofNat t), .int y]), h, []) R → am_Ev ((d, 176, 2, [.ref 64, .int (Int32.ofNat s), .int (Int32.ofNat t), .int (Int32.ofNat k)], []), h, []) R := by
        intro R hR
        apply pre
        refine am_sm_ev (sx_sm_step (i := .if_icmp .ne 14) rfl (by simp only [am_step]; rw [if_pos q])) ?_
        refine am_sm_ev (sx_sm_step (i := .aload_n 0) rfl rfl) ?_
        refine am_sm_ev (sx_sm_step (i := .getfield 77) rfl (hm_gf rfl h64 m24)) ?_
        refine am_sm_ev (sx_sm_step (i := .iload_n 3) rfl rfl) ?_
        refine am_sm_ev (sx_sm_step (i := .iaload) rfl (hm_ld (by omega) h84 hy)) ?_
        refine am_sm_ev (sx_sm_step (i := .iload_n 2) rfl rfl) ?_
        exact hR
      by_cases q2 : y = Int32.ofNat t
      · left
        apply ps2
        refine am_sm_ev (sx_sm_step (i := .if_icmp .ne 4) rfl (by simp only [am_step]; rw [if_pos q2])) ?_
        exact hm_ret rfl rfl
      · refine cont (fun R hR => ?_) (fun e => q2 (by rw [hy] at e; exact (Value.int.inj (Option.some.inj e.2))))
        apply ps2
        refine am_sm_ev (sx_sm_step (i := .if_icmp .ne 4) rfl (by simp only [am_step]; rw [if_neg q2])) ?_
        exact hR
    · refine cont (fun R hR => ?_) (fun e => q (by rw [hx] at e; exact (Value.int.inj (Option.some.inj e.1))))
      apply pre
      refine am_sm_ev (sx_sm_step (i := .if_icmp .ne 14) rfl (by simp only [am_step]; rw [if_neg q])) ?_
      exact hR
/-- a new pair -/
theorem hm_add {d : Nat × Nat} {s t m : Nat} (hs : s < 6) (ht : t < 6) (hm : m ≤ 38) {h : am_H} {ms PS PT PA : List Value} (hh : hm_h h m ms PS PT PA) {a : Int32} (ha : PA[s]? = some (.int a)) {l3 : Value} : am_Ev ((d, 176, 37, [.ref 64, .int (Int32.ofNat s), .int (Int32.ofNat t), l3], []), h, []) (.inl none, if a = -1 then (((h.set 83 (32, PS.set m (.int (Int32.ofNat s)))).set 84 (32, PT.set m (.int (Int32.ofNat t)))).set 64 (9, ms.set 25 (.int (Int32.ofNat (m + 1))))).set 85 (32, PA.set s (.int (Int32.ofNat t))) else ((h.set 83 (32, PS.set m (.int (Int32.ofNat s)))).set 84 (32, PT.set m (.int (Int32.ofNat t)))).set 64 (9, ms.set 25 (.int (Int32.ofNat (m + 1))))) := by
  obtain ⟨h64, m23, m24, m26, m25, h83, h84, h85, l1, l2, l3'⟩ := hh
  have e3 : Int32.ofNat m + Int32.ofInt 1 = Int32.ofNat (m + 1) := by
    have c3 : Int32.ofInt 1 = Int32.ofNat 1 := rfl
    rw [c3, od_on]
  have k83 : 83 < h.length := (List.getElem?_eq_some_iff.mp h83).1
  have k64 : 64 < h.length := (List.getElem?_eq_some_iff.mp h64).1
  have km : 25 < ms.length := (List.getElem?_eq_some_iff.mp m25).1
  refine am_sm_ev (sx_sm_step (i := .aload_n 0) rfl rfl) ?_
  refine am_sm_ev (sx_sm_step (i := .getfield 74) rfl (hm_gf rfl h64 m23)) ?_
  refine am_sm_ev (sx_sm_step (i := .aload_n 0) rfl rfl) ?_
  refine am_sm_ev (sx_sm_step (i := .getfield 226) rfl (hm_gf rfl h64 m25)) ?_
  refine am_sm_ev (sx_sm_step (i := .iload_n 1) rfl rfl) ?_
  refine am_sm_ev (sx_sm_step (i := .iastore) rfl (hm_st (by omega) h83 (by omega) rfl)) ?_
  have g64 : (h.set 83 (32, PS.set m (.int (Int32.ofNat s))))[64]? = some (9, ms) := by rw [List.getElem?_set_ne (by decide)]; exact h64
  have g84 : (h.set 83 (32, PS.set m (.int (Int32.ofNat s))))[84]? = some (32, PT) := by rw [List.getElem?_set_ne (by decide)]; exact h84
  refine am_sm_ev (sx_sm_step (i := .aload_n 0) rfl rfl) ?_
  refine am_sm_ev (sx_sm_step (i := .getfield 77) rfl (hm_gf rfl g64 m24)) ?_
  refine am_sm_ev (sx_sm_step (i := .aload_n 0) rfl rfl) ?_
  refine am_sm_ev (sx_sm_step (i := .getfield 226) rfl (hm_gf rfl g64 m25)) ?_
  refine am_sm_ev (sx_sm_step (i := .iload_n 2) rfl rfl) ?_
  refine am_sm_ev (sx_sm_step (i := .iastore) rfl (hm_st (by omega) g84 (by omega) rfl)) ?_
  generalize hh1 : (h.set 83 (32, PS.set m (.int (Int32.ofNat s)))).set 84 (32, PT.set m (.int (Int32.ofNat t))) = h1
  have j64 : h1[64]? = some (9, ms) := by rw [← hh1, List.getElem?_set_ne (by decide)]; exact g64
  have j85 : h1[85]? = some (32, PA) := by rw [← hh1, List.getElem?_set_ne (by decide), List.getElem?_set_ne (by decide)]; exact h85
  refine am_sm_ev (sx_sm_step (i := .aload_n 0) rfl rfl) ?_
  refine am_sm_ev (sx_sm_step (i := .dup) rfl rfl) ?_
  refine am_sm_ev (sx_sm_step (i := .getfield 226) rfl (hm_gf rfl j64 m25)) ?_
  refine am_sm_ev (sx_sm_step (i := .iconst 1) rfl rfl) ?_
  refine am_sm_ev (sx_sm_step (i := .iadd) rfl rfl) ?_
  rw [e3]
  have hpf : ∀ (L st : List Value) (x : Int32), am_step 176 64 L (.int x :: .ref 64 :: st) h1 (.putfield 226) = some (67, L, st, h1.set 64 (9, ms.set 25 (.int x))) := by
    intro L st x
    have hp : am_pf (am_oc 176) 226 = some (9, 25) := rfl
    simp only [am_step, hp, j64]
    rw [if_pos]
    simp only [Bool.and_eq_true, Nat.blt_eq]
    exact ⟨rfl, rfl, km, rfl, rfl⟩
  refine am_sm_ev (sx_sm_step (i := .putfield 226) rfl (hpf _ _ _)) ?_
  have k1 : 64 < h1.length := (List.getElem?_eq_some_iff.mp j64).1
  have i64 : (h1.set 64 (9, ms.set 25 (.int (Int32.ofNat (m + 1)))))[64]? = some (9, ms.set 25 (.int (Int32.ofNat (m + 1)))) := List.getElem?_set_self k1
  have i85 : (h1.set 64 (9, ms.set 25 (.int (Int32.ofNat (m + 1)))))[85]? = some (32, PA) := by rw [List.getElem?_set_ne (by decide)]; exact j85
  have i26 : (ms.set 25 (.int (Int32.ofNat (m + 1))))[26]? = some (.ref 85) := by rw [List.getElem?_set_ne (by decide)]; exact m26
  refine am_sm_ev (sx_sm_step (i := .aload_n 0) rfl rfl) ?_
  refine am_sm_ev (sx_sm_step (i := .getfield 80) rfl (hm_gf rfl i64 i26)) ?_
  refine am_sm_ev (sx_sm_step (i := .iload_n 1) rfl rfl) ?_
  refine am_sm_ev (sx_sm_step (i := .iaload) rfl (hm_ld (by omega) i85 ha)) ?_
  refine am_sm_ev (sx_sm_step (i := .iconst (-1)) rfl rfl) ?_
  by_cases q : a = -1
  · refine am_sm_ev (sx_sm_step (i := .if_icmp .ne 10) rfl (by simp only [am_step]; rw [if_pos (show a = Int32.ofInt (-1) from q)])) ?_
    rw [if_pos q]
    refine am_sm_ev (sx_sm_step (i := .aload_n 0) rfl rfl) ?_
    refine am_sm_ev (sx_sm_step (i := .getfield 80) rfl (hm_gf rfl i64 i26)) ?_
    refine am_sm_ev (sx_sm_step (i := .iload_n 1) rfl rfl) ?_
    refine am_sm_ev (sx_sm_step (i := .iload_n 2) rfl rfl) ?_
    refine am_sm_ev (sx_sm_step (i := .iastore) rfl (hm_st (by omega) i85 (by omega) rfl)) ?_
    exact hm_ret rfl rfl
  · refine am_sm_ev (sx_sm_step (i := .if_icmp .ne 10) rfl (by simp only [am_step]; rw [if_neg (show ¬ a = Int32.ofInt (-1) from q)])) ?_
    rw [if_neg q]
    exact hm_ret rfl rfl
end HMA
