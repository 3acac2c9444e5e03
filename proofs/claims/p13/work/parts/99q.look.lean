/-! look: what it keeps, and its roads -/
section HLA
def lk_L : List Nat := [178, 179, 180, 181, 182, 183, 184, 185, 186, 187, 188, 189, 190, 191, 192, 156, 166]
theorem lk_M : fk_M lk_L 25 := by
  intro mid hm pc i hi
  simp only [lk_L, List.mem_cons, List.not_mem_nil, or_false] at hm
  rcases hm with rfl | rfl | rfl | rfl | rfl | rfl | rfl | rfl | rfl | rfl | rfl | rfl | rfl | rfl | rfl | rfl | rfl
  · exact fk_at (t := am_c178) (F := fk_i lk_L 25 9) (by decide +kernel) hi
  · exact fk_at (t := am_c179) (F := fk_i lk_L 25 9) (by decide +kernel) hi
  · exact fk_at (t := am_c180) (F := fk_i lk_L 25 9) (by decide +kernel) hi
  · exact fk_at (t := am_c181) (F := fk_i lk_L 25 9) (by decide +kernel) hi
  · exact fk_at (t := am_c182) (F := fk_i lk_L 25 9) (by decide +kernel) hi
  · exact fk_at (t := am_c183) (F := fk_i lk_L 25 9) (by decide +kernel) hi
  · exact fk_at (t := am_c184) (F := fk_i lk_L 25 9) (by decide +kernel) hi
  · exact fk_at (t := am_c185) (F := fk_i lk_L 25 9) (by decide +kernel) hi
  · exact fk_at (t := am_c186) (F := fk_i lk_L 25 9) (by decide +kernel) hi
  · exact fk_at (t := am_c187) (F := fk_i lk_L 25 9) (by decide +kernel) hi
  · exact fk_at (t := am_c188) (F := fk_i lk_L 25 9) (by decide +kernel) hi
  · exact fk_at (t := am_c189) (F := fk_i lk_L 25 9) (by decide +kernel) hi
  · exact fk_at (t := am_c190) (F := fk_i lk_L 25 9) (by decide +kernel) hi
  · exact fk_at (t := am_c191) (F := fk_i lk_L 25 9) (by decide +kernel) hi
  · exact fk_at (t := am_c192) (F := fk_i lk_L 25 9) (by decide +kernel) hi
  · exact fk_at (t := am_c156) (F := fk_i lk_L 25 9) (by decide +kernel) hi
  · exact fk_at (t := am_c166) (F := fk_i lk_L 25 9) (by decide +kernel) hi
theorem lk_con {C : ty_C} (hC : C ∈ tt_T) (hret : C.2.1.1 = []) (hex : C.2.1.2.1 = []) (hhs : (am_hs C.1.1).isEmpty = true) (hM : C.1.1 ∈ lk_L) {d : Nat × Nat} {L : List Value} {h : am_H} (ha : ty_ar0 tc_g C d L h) : ∃ h' : am_H, am_Ev ((d, C.1.1, C.1.2.1, L, []), h, []) (.inl none, h') ∧ ty_gok tc_g h' ∧ ty_un C.2.1.2.2.1 h h' ∧ h'.length = h.length ∧ (∀ q ∈ C.2.1.2.2.2.2, ty_pk h' q) ∧ fk_k 25 h h' := by
  obtain ⟨⟨o, h'⟩, ⟨n, z, e1, e2⟩, r2, r3, r4⟩ := tm_ok C hC d L h ha
  have e2 : z = (o, h') := e2
  subst e2
  have hfk := fk_run lk_M n _ _ _ _ _ _ _ hM e1
  cases o with
  | inr X =>
    have r5 := r4.1
    rw [hex] at r5
    exact absurd r5 List.not_mem_nil
  | inl v =>
    obtain ⟨y1, y2, y3⟩ := r4
    have hl : h'.length = h.length := by
      rcases y1 with y1 | ⟨_, y1⟩
      · exact y1
      · rw [hhs] at y1
        cases y1
    have hv : v = none := by
      cases v with
      | none => rfl
      | some w =>
        obtain ⟨s, hs, _⟩ := y3
        rw [hret] at hs
        exact absurd hs List.not_mem_nil
    subst hv
    exact ⟨h', ⟨n, _, e1, rfl⟩, r2, r3, hl, y2, hfk⟩
theorem lk_keep {h h' : am_H} {m : Nat} {ms PS PT PA : List Value} {mo : List Nat} (hg : ty_gok tc_g h') (hu : ty_un mo h h') (hm : 83 ∉ mo ∧ 84 ∉ mo ∧ 85 ∉ mo) (hf : fk_k 25 h h') (hh : hm_h h m ms PS PT PA) : ∃ ms' : List Value, hm_h h' m ms' PS PT PA := by
  obtain ⟨h64, m23, m24, m26, m25, h83, h84, h85, l1, l2, l3⟩ := hh
  obtain ⟨ms', x, e1, e2, e3, e4, e5, _⟩ := ps_fld hg
  obtain ⟨fs', f1, f2⟩ := hf 64 ms h64
  rw [e1] at f1
  cases f1
  exact ⟨ms', e1, e2, e3, e4, by rw [f2]; exact m25, hu 83 hm.1 _ h83, hu 84 hm.2.1 _ h84, hu 85 hm.2.2 _ h85, l1, l2, l3⟩
def lk_st (fss : List (List ty_V)) (S : ty_S) : Bool := ho_ls S.1 fss S.2.2.1.2.2.2.2
def lk_C (s t pc : Nat) : ty_C := ((177, pc, [(1, 64, 0), (7, s, 0), (7, t, 0)], (5, 100)), ([], [], [], [], [(0, 0, 2, 0)]), [])
def lk_D (pc : Nat) : ty_C := ((177, pc, [(1, 64, 0), (0, 0, 5), (0, 0, 5)], (5, 100)), ([], [], [], [], [(0, 0, 2, 0)]), [])
def lk1 (s t : Nat) : Bool := ty_sg tc_g [] (lk_C s t 0) (fun S => ho_pc 13 S || ho_pc 11 S) (fun S => if ho_pc 13 S then ho_fr 177 13 5 100 [[(1, 64, 0)], [(7, s, 0)], [(7, t, 0)]] S && (lk_st [[(1, 64, 0)]] S && (match ty_Fget S.2.1 85 (.int (Int32.ofNat s)) with
  | some u => ty_fit S.1 (7, t, 0) u
  | none => false)) else ho_fr 177 11 5 100 [[], [], []] S && lk_st [[(0, 1, 4)]] S) 30 (ty_S0 (lk_C s t 0))
def lk_T : List ty_C := [tc_265, tc_269, tc_270]
def lk_me (pc : Nat) (S : ty_S) : Bool := ho_fr 177 pc 5 100 [[(1, 64, 0)], [(8, 2, 0)], [(8, 3, 0)]] S && lk_st [[(0, 0, 5)], [(0, 0, 5)], [(1, 64, 0)]] S
def lk_re (pc : Nat) (q : ty_V) (S : ty_S) : Bool := ho_fr 177 pc 5 100 [[], [], []] S && lk_st [[q]] S
def lk4 : Bool := ty_sg tc_g lk_T (lk_D 30) (fun S => ho_pc 38 S || (ho_pc 47 S || (ho_pc 66 S || (ho_pc 90 S || ho_pc 120 S)))) (fun S => if ho_pc 38 S then lk_re 38 (0, 1, 4) S else if ho_pc 47 S then lk_re 47 (0, 1, 4) S else if ho_pc 66 S then lk_re 66 (0, 1, 4) S else if ho_pc 90 S then lk_me 90 S else lk_re 120 (7, 0, 0) S) 100 (ty_S0 (lk_D 30))
def lk5 : Bool := ty_sg tc_g [] (lk_D 93) (fun S => ho_pc 116 S || ho_pc 120 S) (fun S => if ho_pc 116 S then lk_me 116 S else lk_re 120 (7, 0, 0) S) 60 (ty_S0 (lk_D 93))
theorem lk1_ok : (List.range 6).all (fun s => (List.range 6).all (fun t => lk1 s t)) = true := by decide +kernel
theorem lk4_ok : lk4 = true := by decide +kernel
theorem lk5_ok : lk5 = true := by decide +kernel
end HLA
