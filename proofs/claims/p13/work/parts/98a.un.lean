/-! THE UNKNOWNS: bounds that stay, new ones -/
section TYD
variable {σ : Nat → Int32}
def ty_sh (iv iv' : List ty_B) : Prop := iv'.length = iv.length ∧ ∀ (k : Nat) (b' : ty_B), iv'[k]? = some b' → ∃ b : ty_B, iv[k]? = some b ∧ b'.2.2.1 = b.2.2.1
theorem ty_sh.rf (iv : List ty_B) : ty_sh iv iv := ⟨rfl, fun _ b h => ⟨b, h, rfl⟩⟩
theorem ty_sh.tr {a b c : List ty_B} (h1 : ty_sh a b) (h2 : ty_sh b c) : ty_sh a c := ⟨h2.1.trans h1.1, fun k e hk => by
  obtain ⟨e1, q1, r1⟩ := h2.2 k e hk
  obtain ⟨e2, q2, r2⟩ := h1.2 k e1 q1
  exact ⟨e2, q2, r1.trans r2⟩⟩
theorem ty_sh_set {iv : List ty_B} {k : Nat} {b b' : ty_B} (hk : iv[k]? = some b) (he : b'.2.2.1 = b.2.2.1) : ty_sh iv (iv.set k b') := by
  refine ⟨List.length_set, fun j e hj => ?_⟩
  by_cases q : k = j
  · subst q
    have hl : k < iv.length := (List.getElem?_eq_some_iff.mp hk).1
    rw [List.getElem?_set_self hl] at hj
    cases hj
    exact ⟨b, hk, he⟩
  · rw [List.getElem?_set_ne q] at hj
    exact ⟨e, hj, rfl⟩
theorem ty_hi_sh {iv w : List ty_B} {v : Value} {m : Int} (h : ty_hi iv v m = some w) : ty_sh iv w := by
  unfold ty_hi at h
  split at h
  · split at h
    · cases h; exact ty_sh.rf _
    · cases h
  · split at h
    · rename_i b hb
      split at h
      · cases h; exact ty_sh.rf _
      · split at h
        · cases h; exact ty_sh_set hb rfl
        · cases h
    · cases h; exact ty_sh.rf _
  · cases h; exact ty_sh.rf _
theorem ty_lo_sh {iv w : List ty_B} {v : Value} {m : Int} (h : ty_lo iv v m = some w) : ty_sh iv w := by
  unfold ty_lo at h
  split at h
  · split at h
    · cases h; exact ty_sh.rf _
    · cases h
  · split at h
    · rename_i b hb
      split at h
      · cases h; exact ty_sh.rf _
      · split at h
        · cases h; exact ty_sh_set hb rfl
        · cases h
    · cases h; exact ty_sh.rf _
  · cases h; exact ty_sh.rf _
theorem ty_tl {α : Type} {o : Option α} {w : α} (h : w ∈ o.toList) : o = some w := by
  cases o with
  | none => cases h
  | some a => simp at h; rw [h]
theorem ty_and_sh {iv w : List ty_B} {o : Option (List ty_B)} {f : List ty_B → Option (List ty_B)} (h : ty_and o f = some w) (h1 : ∀ a, o = some a → ty_sh iv a) (h2 : ∀ a b, f a = some b → ty_sh a b) : ty_sh iv w := by
  cases o with
  | none => cases h
  | some a => exact (h1 a rfl).tr (h2 a w h)
theorem ty_rf_sh {iv w : List ty_B} {c : Jvm.ClassFile.Cond} {x y : Value} (h : w ∈ ty_rf iv c x y) : ty_sh iv w := by
  unfold ty_rf at h
  split at h
  · rw [List.mem_singleton.mp h]; exact ty_sh.rf _
  · split at h
    · rw [List.mem_singleton.mp h]; exact ty_sh.rf _
    · split at h
      · exact ty_and_sh (ty_tl h) (fun _ q => ty_hi_sh q) (fun _ _ q => ty_lo_sh q)
      · exact ty_and_sh (ty_tl h) (fun _ q => ty_hi_sh q) (fun _ _ q => ty_lo_sh q)
      · exact ty_and_sh (ty_tl h) (fun _ q => ty_lo_sh q) (fun _ _ q => ty_hi_sh q)
      · exact ty_and_sh (ty_tl h) (fun _ q => ty_lo_sh q) (fun _ _ q => ty_hi_sh q)
      · exact ty_and_sh (ty_tl h) (fun _ q => ty_and_sh q (fun _ q => ty_lo_sh q) (fun _ _ q => ty_hi_sh q)) (fun _ _ q => ty_and_sh q (fun _ q => ty_lo_sh q) (fun _ _ q => ty_hi_sh q))
      · split at h
        · rcases List.mem_append.mp h with h | h
          · exact ty_hi_sh (ty_tl h)
          · exact ty_lo_sh (ty_tl h)
        · split at h
          · rcases List.mem_append.mp h with h | h
            · exact ty_hi_sh (ty_tl h)
            · exact ty_lo_sh (ty_tl h)
          · rw [List.mem_singleton.mp h]; exact ty_sh.rf _
/-- the unknowns: their bounds hold, what they are made of is there, the first ones are the locals of the start -/
def ty_ivb (iv : List ty_B) : Prop := ∀ (k : Nat) (b : ty_B), iv[k]? = some b → b.2.2.1 ≤ iv.length
def ty_iw (n0 : Nat) (l0 : Nat → Int32) (iv : List ty_B) (σ : Nat → Int32) : Prop := ty_ivok iv σ ∧ ty_ivb iv ∧ n0 ≤ iv.length ∧ ∀ k : Nat, k < n0 → σ k = l0 k
theorem ty_iw_sh {n0 : Nat} {l0 : Nat → Int32} {iv w : List ty_B} (h : ty_iw n0 l0 iv σ) (hs : ty_sh iv w) (ho : ty_ivok w σ) : ty_iw n0 l0 w σ := by
  refine ⟨ho, fun k b hk => ?_, by rw [hs.1]; exact h.2.2.1, h.2.2.2⟩
  obtain ⟨e, q1, q2⟩ := hs.2 k b hk
  rw [q2, hs.1]
  exact h.2.1 k e q1
theorem ty_rf_iw {n0 : Nat} {l0 : Nat → Int32} {iv : List ty_B} (h : ty_iw n0 l0 iv σ) {c : Jvm.ClassFile.Cond} {v w : Value} {x y : Int32} (hv : sx_v σ v = .int x) (hw : sx_v σ w = .int y) (hc : sx_rel c x y) : ∃ iv' ∈ ty_rf iv c v w, ty_iw n0 l0 iv' σ := by
  obtain ⟨iv', h1, h2⟩ := ty_rf_ok h.1 hv hw hc
  exact ⟨iv', h1, ty_iw_sh h (ty_rf_sh h1) h2⟩
/-- what a new unknown must be -/
def ty_nb (σ : Nat → Int32) (n : Nat) (x : Int32) (b : ty_B) : Prop := b.1 ≤ x.toInt ∧ x.toInt ≤ b.2.1 ∧ (∀ j : Nat, b.2.2.1 = j + 1 → j < n ∧ x.toInt = (σ j).toInt + b.2.2.2.1) ∧ (b.2.2.2.2 < 4 → x.toInt % 4 = (b.2.2.2.2 : Int))
theorem ty_iw_push {n0 : Nat} {l0 : Nat → Int32} {iv : List ty_B} (h : ty_iw n0 l0 iv σ) {x : Int32} {b : ty_B} (hb : ty_nb σ iv.length x b) : ty_iw n0 l0 (iv ++ [b]) (ty_up σ iv.length x) := by
  obtain ⟨h1, h2, h3, h4⟩ := h
  have ag := ty_up_ag (σ := σ) iv.length x
  refine ⟨fun k e hk => ?_, fun k e hk => ?_, by rw [List.length_append]; omega, fun k hk => ?_⟩
  · by_cases q : k < iv.length
    · rw [List.getElem?_append_left q] at hk
      have a := h1 k e hk
      have b' := h2 k e hk
      refine ⟨?_, ?_, fun j hj => ?_, fun hr => ?_⟩
      · rw [ag k q]; exact a.1
      · rw [ag k q]; exact a.2.1
      · rw [ag k q, ag j (by omega)]; exact a.2.2.1 j hj
      · rw [ag k q]; exact a.2.2.2 hr
    · have hl := (List.getElem?_eq_some_iff.mp hk).1
      rw [List.length_append, List.length_singleton] at hl
      obtain rfl : k = iv.length := by omega
      rw [List.getElem?_append_right (Nat.le_refl _), Nat.sub_self] at hk
      obtain rfl : b = e := by simpa using hk
      refine ⟨?_, ?_, fun j hj => ?_, fun hr => ?_⟩
      · rw [ty_up_at]; exact hb.1
      · rw [ty_up_at]; exact hb.2.1
      · have := hb.2.2.1 j hj
        rw [ty_up_at, ag j this.1]
        exact this.2
      · rw [ty_up_at]; exact hb.2.2.2 hr
  · rw [List.length_append, List.length_singleton]
    by_cases q : k < iv.length
    · rw [List.getElem?_append_left q] at hk
      have := h2 k e hk
      omega
    · have hl := (List.getElem?_eq_some_iff.mp hk).1
      rw [List.length_append, List.length_singleton] at hl
      obtain rfl : k = iv.length := by omega
      rw [List.getElem?_append_right (Nat.le_refl _), Nat.sub_self] at hk
      obtain rfl : b = e := by simpa using hk
      cases hz : b.2.2.1 with
      | zero => omega
      | succ j =>
        have := (hb.2.2.1 j hz).1
        omega
  · rw [ag k (by omega)]
    exact h4 k hk
theorem ty_org_ok {n0 : Nat} {l0 : Nat → Int32} {iv : List ty_B} (h : ty_iw n0 l0 iv σ) {v : Value} {x : Int32} {c : Int} (hv : sx_v σ v = .int x) {j : Nat} {o : Int} (hj : ty_org iv v c = (j + 1, o)) : j < iv.length ∧ x.toInt + c = (σ j).toInt + o := by
  unfold ty_org at hj
  split at hj
  · rename_i k
    cases hv
    split at hj
    · rename_i b hb
      have hl := (List.getElem?_eq_some_iff.mp hb).1
      split at hj
      · cases hj
        exact ⟨hl, rfl⟩
      · rename_i j' hz
        cases hj
        have a := (h.1 k b hb).2.2.1 _ hz
        have e := h.2.1 k b hb
        exact ⟨by omega, by omega⟩
    · cases hj
  · cases hj
theorem ty_nb_full (n : Nat) (x : Int32) : ty_nb σ n x ty_full := by
  have h1 := Int32.le_toInt x
  have h2 := Int32.toInt_lt x
  refine ⟨?_, ?_, fun j hj => ?_, fun hr => ?_⟩
  · show (-2147483648 : Int) ≤ _; omega
  · show _ ≤ (2147483647 : Int); omega
  · cases hj
  · exact absurd hr (by decide)
theorem ty_nb_bd (n : Nat) {x : Int32} {lo hi : Int} (h1 : lo ≤ x.toInt) (h2 : x.toInt ≤ hi) : ty_nb σ n x (lo, hi, 0, 0, 4) := ⟨h1, h2, fun _ hj => (by cases hj), fun hr => absurd (show 4 < 4 from hr) (Nat.lt_irrefl 4)⟩
theorem ty_bm {z : Int} (h1 : -2147483648 ≤ z) (h2 : z ≤ 2147483647) : z.bmod 4294967296 = z := by
  rw [Int.bmod_def]
  split <;> omega
theorem ty_sum_ok {n0 : Nat} {l0 : Nat → Int32} {iv : List ty_B} (h : ty_iw n0 l0 iv σ) {x y : Value} {vx w : Int32} {l u z : Int} {neg : Bool} {r : Nat} (hx : sx_v σ x = .int vx) (hl : l ≤ z) (hu : z ≤ u) (hy : ∀ c : Int32, y = .int c → z = vx.toInt + (if neg then - c.toInt else c.toInt)) (hr : r < 4 → z % 4 = (r : Int)) (hw : -2147483648 ≤ z → z ≤ 2147483647 → w.toInt = z) : ty_nb σ iv.length w (ty_sum iv x y l u neg r) := by
  unfold ty_sum
  split
  · rename_i hq
    have hb := ty_32_ok hq
    have e := hw (by omega) (by omega)
    split
    · rename_i c
      have hz := hy c rfl
      refine ⟨by rw [e]; exact hl, by rw [e]; exact hu, fun j hj => ?_, fun q => by rw [e]; exact hr q⟩
      have := ty_org_ok h hx (c := if neg then - c.toInt else c.toInt) (j := j) (o := (ty_org iv x (if neg then - c.toInt else c.toInt)).2) (Prod.ext hj rfl)
      refine ⟨this.1, ?_⟩
      rw [e, hz]
      exact this.2
    · exact ⟨by rw [e]; exact hl, by rw [e]; exact hu, fun j hj => (by cases hj), fun q => by rw [e]; exact hr q⟩
  · exact ty_nb_full _ _
theorem ty_radd_ok {a b : Nat} {x y : Int} (ha : a < 4 → x % 4 = (a : Int)) (hb : b < 4 → y % 4 = (b : Int)) (hr : ty_radd a b < 4) : (x + y) % 4 = (ty_radd a b : Int) := by
  unfold ty_radd at hr ⊢
  split at hr
  · rename_i hq
    simp only [Bool.and_eq_true, Nat.blt_eq] at hq
    rw [if_pos (by simp only [Bool.and_eq_true, Nat.blt_eq]; exact hq)]
    have h1 := ha hq.1
    have h2 := hb hq.2
    omega
  · omega
/-- what the reckonings give -/
def ty_arv (i : Jvm.ClassFile.Instr) (x y : Int32) : Option Int32 := match i with
  | .iadd => some (x + y)
  | .isub => some (x - y)
  | .imul => some (x * y)
  | .iand => some (x &&& y)
  | .idiv => if y = 0 then none else some (x / y)
  | _ => none
theorem ty_ar_ok {n0 : Nat} {l0 : Nat → Int32} {iv : List ty_B} (h : ty_iw n0 l0 iv σ) {i : Jvm.ClassFile.Instr} {x y : Value} {b : ty_B} (hb : ty_ar iv i x y = some b) : ∃ vx vy w : Int32, sx_v σ x = .int vx ∧ sx_v σ y = .int vy ∧ ty_arv i vx vy = some w ∧ ty_nb σ iv.length w b := by
  unfold ty_ar at hb
  split at hb
  · cases hb
  · rename_i l1 u1 h1
    split at hb
    · cases hb
    · rename_i l2 u2 h2
      obtain ⟨vx, e1, a1, a2⟩ := ty_bd_ok h.1 h1
      obtain ⟨vy, e2, a3, a4⟩ := ty_bd_ok h.1 h2
      have hc : ∀ c : Int32, y = .int c → vy = c := fun c hc => by rw [hc] at e2; cases e2; rfl
      split at hb
      · cases hb
        refine ⟨vx, vy, vx + vy, e1, e2, rfl, ?_⟩
        split
        · refine ty_sum_ok h (z := vx.toInt + vy.toInt) e2 (by omega) (by omega) (fun c q => ?_) (fun q => ty_radd_ok (ty_res_ok h.1 e1) (ty_res_ok h.1 e2) q) (fun p q => ?_)
          · cases q
            cases e1
            simp
            omega
          · rw [Int32.toInt_add]; exact ty_bm p q
        · refine ty_sum_ok h (z := vx.toInt + vy.toInt) e1 (by omega) (by omega) (fun c q => ?_) (fun q => ty_radd_ok (ty_res_ok h.1 e1) (ty_res_ok h.1 e2) q) (fun p q => ?_)
          · rw [hc c q]; simp
          · rw [Int32.toInt_add]; exact ty_bm p q
      · cases hb
        refine ⟨vx, vy, vx - vy, e1, e2, rfl, ?_⟩
        refine ty_sum_ok h (z := vx.toInt - vy.toInt) e1 (by omega) (by omega) (fun c q => ?_) (fun q => absurd q (by decide)) (fun p q => ?_)
        · rw [hc c q]; simp; omega
        · rw [Int32.toInt_sub]; exact ty_bm p q
      · split at hb
        · rename_i hq
          cases hb
          simp only [Bool.and_eq_true, ty_leq] at hq
          have hb := ty_32_ok hq.2.2
          refine ⟨vx, vy, vx * vy, e1, e2, rfl, ?_⟩
          have p1 : l1 * l2 ≤ vx.toInt * vy.toInt := Int.mul_le_mul a1 a3 hq.2.1 (by omega)
          have p2 : vx.toInt * vy.toInt ≤ u1 * u2 := Int.mul_le_mul a2 a4 (by omega) (by omega)
          have e : (vx * vy).toInt = vx.toInt * vy.toInt := by
            rw [Int32.toInt_mul]
            exact ty_bm (by omega) (by omega)
          refine ⟨by rw [e]; exact p1, by rw [e]; exact p2, fun j hj => (by cases hj), fun q => ?_⟩
          rw [e]
          dsimp only at q ⊢
          split at q
          · rename_i hz
            rw [if_pos hz]
            simp only [Bool.or_eq_true] at hz
            rcases hz with hz | hz
            · have hz := Nat.eq_of_beq_eq_true hz
              have := ty_res_ok h.1 e1 (by rw [hz]; decide)
              rw [hz] at this
              rw [Int.mul_emod, this]; simp
            · have hz := Nat.eq_of_beq_eq_true hz
              have := ty_res_ok h.1 e2 (by rw [hz]; decide)
              rw [hz] at this
              rw [Int.mul_emod, this]; simp
          · omega
        · cases hb
          exact ⟨vx, vy, vx * vy, e1, e2, rfl, ty_nb_full _ _⟩
      · cases hb
        exact ⟨vx, vy, vx &&& vy, e1, e2, rfl, ty_nb_full _ _⟩
      · split at hb
        · rename_i hq
          cases hb
          have hz : vy ≠ 0 := by
            intro hz
            have : vy.toInt = 0 := by rw [hz]; rfl
            simp only [Bool.or_eq_true, ty_leq] at hq
            omega
          refine ⟨vx, vy, vx / vy, e1, e2, ?_, ty_nb_full _ _⟩
          simp only [ty_arv]
          rw [if_neg hz]
        · cases hb
      · cases hb
end TYD
