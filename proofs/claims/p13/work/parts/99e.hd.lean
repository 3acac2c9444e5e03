/-! HEADS: what is known of the locals where one stops -/
section HOA
variable {g : List ty_X} {C0 : ty_C} {l0 : Nat → Int32} {H0 : am_H} {σ : Nat → Int32}
/-- (8, b, o): o more than the unknown b of the start -/
def ho_q (iv : List ty_B) (v : Value) (q : ty_V) : Bool := if Nat.beq q.1 8 then (match ty_or iv v with
  | some (b, o) => Nat.beq b q.2.1.toNat && decide (o = q.2.2)
  | none => false) else ty_kd q.1 && ty_fit iv q v
def ho_sem (σ : Nat → Int32) (q : ty_V) (w : Value) : Prop := if q.1 = 8 then ∃ x : Int32, w = .int x ∧ x.toInt = ty_bv σ q.2.1.toNat + q.2.2 else ty_vok q w
def ho_ls (iv : List ty_B) : List (List ty_V) → List Value → Bool
  | [], [] => true
  | qs :: r, v :: L => qs.all (ho_q iv v) && ho_ls iv r L
  | _, _ => false
theorem ho_q_ok {n0 : Nat} {iv : List ty_B} (h : ty_iw n0 l0 iv σ) {v : Value} {q : ty_V} (hq : ho_q iv v q = true) : ho_sem σ q (sx_v σ v) ∧ am_kn (sx_v σ v) = true := by
  unfold ho_q at hq
  unfold ho_sem
  rcases ty_ite hq with ⟨h8, hq⟩ | ⟨h8, hq⟩
  · have h8 := Nat.eq_of_beq_eq_true h8
    rw [if_pos h8]
    split at hq
    · rename_i b o hor
      simp only [Bool.and_eq_true, decide_eq_true_eq] at hq
      obtain ⟨w, o1, o2⟩ := ty_or_ok h hor
      rw [← Nat.eq_of_beq_eq_true hq.1, ← hq.2]
      exact ⟨⟨w, o1, o2⟩, by rw [o1]; rfl⟩
    · cases hq
  · have h8 : q.1 ≠ 8 := fun e => by rw [e] at h8; cases h8
    rw [if_neg h8]
    simp only [Bool.and_eq_true] at hq
    have := ty_fit_ok h.1 hq.2
    exact ⟨this, ty_kd_kn hq.1 this⟩
theorem ho_ls_ok {n0 : Nat} {iv : List ty_B} (h : ty_iw n0 l0 iv σ) : ∀ {fss : List (List ty_V)} {L : List Value}, ho_ls iv fss L = true → L.length = fss.length ∧ ∀ (k : Nat) (qs : List ty_V), fss[k]? = some qs → ∀ q ∈ qs, ∃ v : Value, L[k]? = some v ∧ ho_sem σ q (sx_v σ v) ∧ am_kn (sx_v σ v) = true
  | [], [], _ => ⟨rfl, fun k qs hk => by simp at hk⟩
  | qs1 :: r, v :: L, hl => by
    simp only [ho_ls, Bool.and_eq_true] at hl
    obtain ⟨i1, i2⟩ := ho_ls_ok h hl.2
    refine ⟨by rw [List.length_cons, List.length_cons, i1], fun k qs hk q hq => ?_⟩
    cases k with
    | zero =>
      simp only [List.getElem?_cons_zero, Option.some.injEq] at hk
      subst hk
      exact ⟨v, rfl, ho_q_ok h (List.all_eq_true.mp hl.1 q hq)⟩
    | succ k =>
      rw [List.getElem?_cons_succ] at hk
      obtain ⟨u, u1, u2⟩ := i2 k qs hk q hq
      exact ⟨u, by rw [List.getElem?_cons_succ]; exact u1, u2⟩
/-- the frame that runs, over none; its locals; its room -/
def ho_fr (mid pc d1 d2 : Nat) (fss : List (List ty_V)) (S : ty_S) : Bool := Nat.beq S.2.2.1.2.1 mid && (Nat.beq S.2.2.1.2.2.1 pc && (Nat.ble d1 S.2.2.1.1.1 && (Nat.ble d2 S.2.2.1.1.2 && (S.2.2.2.isEmpty && ho_ls S.1 fss S.2.2.1.2.2.2.1))))
def ho_hd (mid pc d1 d2 : Nat) (fss : List (List ty_V)) (S : ty_S) : Bool := S.2.2.1.2.2.2.2.isEmpty && ho_fr mid pc d1 d2 fss S
theorem ho_fr_ok {mid pc d1 d2 : Nat} {fss : List (List ty_V)} {S : ty_S} {c : am_G} (ho : ty_ho g C0 l0 H0 σ S c) (hs : ho_fr mid pc d1 d2 fss S = true) : ∃ (d' : Nat × Nat) (L' st' : List Value) (H : am_H), c = ((d', mid, pc, L', st'), H, []) ∧ mo_d (d1, d2) d' ∧ st' = S.2.2.1.2.2.2.2.map (sx_v σ) ∧ L'.length = fss.length ∧ ∀ (k : Nat) (qs : List ty_V), fss[k]? = some qs → ∀ q ∈ qs, ∃ w : Value, L'[k]? = some w ∧ ho_sem σ q w := by
  obtain ⟨iv, F, ⟨d, mid1, pc1, L, st⟩, K⟩ := S
  obtain ⟨⟨d', mid', pc', L', st'⟩, H, K'⟩ := c
  obtain ⟨a1, a2, a3, ⟨k1, k2, k3, k4, k5⟩, a5, a6⟩ := ho
  dsimp only at a1 a2 a3 k1 k2 k3 k4 k5 a5 a6
  simp only [ho_fr, Bool.and_eq_true] at hs
  obtain ⟨h1, h2, h3, h4, h5, h6⟩ := hs
  have e1 := Nat.eq_of_beq_eq_true h1
  have e2 := Nat.eq_of_beq_eq_true h2
  obtain rfl := List.isEmpty_iff.mp h5
  have hK : K' = [] := by
    cases K' with
    | nil => rfl
    | cons _ _ => exact a5.elim
  subst k2 k3 e1 e2 hK
  obtain ⟨i1, i2⟩ := ho_ls_ok a1 h6
  refine ⟨d', L', st', H, rfl, ⟨Nat.le_trans (Nat.le_of_ble_eq_true h3) k1.1, Nat.le_trans (Nat.le_of_ble_eq_true h4) k1.2⟩, k5, by rw [← k4.1, List.length_map, i1], fun k qs hk q hq => ?_⟩
  obtain ⟨v, v1, v2, v3⟩ := i2 k qs hk q hq
  exact ⟨sx_v σ v, k4.2 k _ (by rw [List.getElem?_map, v1]; rfl) v3, v2⟩
theorem ho_hd_ok {mid pc d1 d2 : Nat} {fss : List (List ty_V)} {S : ty_S} {c : am_G} (ho : ty_ho g C0 l0 H0 σ S c) (hs : ho_hd mid pc d1 d2 fss S = true) : ∃ (d' : Nat × Nat) (L' : List Value) (H : am_H), c = ((d', mid, pc, L', []), H, []) ∧ mo_d (d1, d2) d' ∧ L'.length = fss.length ∧ ∀ (k : Nat) (qs : List ty_V), fss[k]? = some qs → ∀ q ∈ qs, ∃ w : Value, L'[k]? = some w ∧ ho_sem σ q w := by
  simp only [ho_hd, Bool.and_eq_true] at hs
  obtain ⟨d', L', st', H, e1, e2, e3, e4, e5⟩ := ho_fr_ok ho hs.2
  have : st' = [] := by
    rw [e3, List.isEmpty_iff.mp hs.1]
    rfl
  subst this
  exact ⟨d', L', H, e1, e2, e4, e5⟩
theorem ho_fr_mid {mid pc d1 d2 : Nat} {fss : List (List ty_V)} {S : ty_S} (hs : ho_fr mid pc d1 d2 fss S = true) : S.2.2.1.2.1 = mid := by
  simp only [ho_fr, Bool.and_eq_true] at hs
  exact Nat.eq_of_beq_eq_true hs.1
theorem ho_hd_mid {mid pc d1 d2 : Nat} {fss : List (List ty_V)} {S : ty_S} (hs : ho_hd mid pc d1 d2 fss S = true) : S.2.2.1.2.1 = mid := by
  simp only [ho_hd, Bool.and_eq_true] at hs
  exact ho_fr_mid hs.2
/-- at a pc -/
def ho_pc (pc : Nat) (S : ty_S) : Bool := S.2.2.2.isEmpty && Nat.beq S.2.2.1.2.2.1 pc
/-- the arguments of a contract, from a list of locals -/
theorem ho_len {C0 : ty_C} {H0 : am_H} {S : ty_S} {c : am_G} (ho : ty_ho g C0 l0 H0 σ S c) (hh : (am_hs S.2.2.1.2.1).isEmpty = true) : c.2.1.length = H0.length := by
  rcases ho.2.2.2.2.2.2 with q | ⟨_, _, _, q⟩
  · exact q
  · rw [hh] at q
    cases q
end HOA
