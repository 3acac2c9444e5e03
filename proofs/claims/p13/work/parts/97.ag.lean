/-! NEW UNKNOWNS: what was said of the old ones still holds; what is known of cells -/
section TYB
variable {σ σ' : Nat → Int32}
def ty_ag (n : Nat) (σ σ' : Nat → Int32) : Prop := ∀ k : Nat, k < n → σ' k = σ k
theorem ty_wv_ag {n : Nat} (h : ty_ag n σ σ') : ∀ v : Value, ty_wv n v = true → sx_v σ' v = sx_v σ v
  | .retAddr 0, _ => rfl
  | .retAddr (k + 1), hv => by
    have : k < n := by simpa [ty_wv, Nat.blt_eq] using hv
    simp only [sx_v, h k this]
  | .int _, _ => rfl
  | .ref _, _ => rfl
  | .null, _ => rfl
  | .long _, _ => rfl
  | .float _, _ => rfl
  | .double _, _ => rfl
theorem ty_wl_ag {n : Nat} (h : ty_ag n σ σ') : ∀ l : List Value, ty_wl n l = true → l.map (sx_v σ') = l.map (sx_v σ)
  | [], _ => rfl
  | v :: r, hl => by
    simp only [ty_wl, Bool.and_eq_true] at hl
    simp only [List.map_cons, ty_wv_ag h v hl.1, ty_wl_ag h r hl.2]
theorem ty_wk_ag {n : Nat} (h : ty_ag n σ σ') {q : am_K} (hq : ty_wk n q = true) : sx_k σ' q = sx_k σ q := by
  simp only [ty_wk, Bool.and_eq_true] at hq
  simp only [sx_k, ty_wl_ag h _ hq.1, ty_wl_ag h _ hq.2]
theorem ty_wK_ag {n : Nat} (h : ty_ag n σ σ') : ∀ K : List am_K, ty_wK n K = true → K.map (sx_k σ') = K.map (sx_k σ)
  | [], _ => rfl
  | q :: r, hK => by
    simp only [ty_wK, Bool.and_eq_true] at hK
    simp only [List.map_cons, ty_wk_ag h hK.1, ty_wK_ag h r hK.2]
theorem ty_wF_mem {n : Nat} : ∀ {F : ty_F}, ty_wF n F = true → ∀ q ∈ F, ty_wv n q.2.1 = true ∧ ty_wv n q.2.2 = true
  | [], _, q, hq => absurd hq List.not_mem_nil
  | e :: r, h, q, hq => by
    simp only [ty_wF, Bool.and_eq_true] at h
    rcases List.mem_cons.mp hq with rfl | hq
    · exact ⟨h.1, h.2.1⟩
    · exact ty_wF_mem h.2.2 q hq
theorem ty_wF_ag {n : Nat} (h : ty_ag n σ σ') {F : ty_F} (hw : ty_wF n F = true) {H : am_H} (hF : ty_Fok F σ H) : ty_Fok F σ' H := by
  intro p i v hm
  obtain ⟨w1, w2⟩ := ty_wF_mem hw _ hm
  obtain ⟨x, j, h1, h2, h3, h4⟩ := hF p i v hm
  exact ⟨x, j, h1, by rw [ty_wv_ag h i w1]; exact h2, h3, by rw [ty_wv_ag h v w2]; exact h4⟩
/-- one more unknown -/
def ty_up (σ : Nat → Int32) (n : Nat) (x : Int32) : Nat → Int32 := fun k => if k = n then x else σ k
theorem ty_up_ag (n : Nat) (x : Int32) : ty_ag n σ (ty_up σ n x) := fun k hk => by
  unfold ty_up
  rw [if_neg (by omega)]
theorem ty_up_at (n : Nat) (x : Int32) : ty_up σ n x n = x := by
  unfold ty_up
  rw [if_pos rfl]
/-- what is known of an index -/
theorem ty_ieq_ok {i j : Value} (h : ty_ieq i j = true) : i = j := by
  match i, j, h with
  | .int a, .int b, h => rw [of_decide_eq_true h]
  | .retAddr a, .retAddr b, h => rw [Nat.eq_of_beq_eq_true h]
theorem ty_Fget_mem : ∀ {F : ty_F} {p : Nat} {i v : Value}, ty_Fget F p i = some v → (p, i, v) ∈ F
  | [], _, _, _, h => by cases h
  | q :: r, p, i, v, h => by
    simp only [ty_Fget] at h
    split at h
    · rename_i hq
      simp only [Bool.and_eq_true] at hq
      cases h
      have e1 := Nat.eq_of_beq_eq_true hq.1
      have e2 := ty_ieq_ok hq.2
      subst e1 e2
      exact List.mem_cons_self
    · exact List.mem_cons_of_mem _ (ty_Fget_mem h)
theorem ty_Fset_mem : ∀ {F : ty_F} {p : Nat} {i : Value} {q : Nat × Value × Value}, q ∈ ty_Fset F p i → q ∈ F ∧ (q.1 ≠ p ∨ ty_idf q.2.1 i = true)
  | [], _, _, _, h => absurd h List.not_mem_nil
  | e :: r, p, i, q, h => by
    simp only [ty_Fset] at h
    split at h
    · obtain ⟨h1, h2⟩ := ty_Fset_mem h
      exact ⟨List.mem_cons_of_mem _ h1, h2⟩
    · rename_i hn
      rcases List.mem_cons.mp h with rfl | h
      · refine ⟨List.mem_cons_self, ?_⟩
        simp only [Bool.and_eq_true, Bool.not_eq_true', not_and, Bool.not_eq_false] at hn
        by_cases hp : q.1 = p
        · exact Or.inr (hn (by rw [hp]; exact Nat.beq_refl p))
        · exact Or.inl hp
      · obtain ⟨h1, h2⟩ := ty_Fset_mem h
        exact ⟨List.mem_cons_of_mem _ h1, h2⟩
theorem ty_in_ok : ∀ {m : List Nat} {p : Nat}, ty_in p m = true ↔ p ∈ m
  | [], p => by simp [ty_in]
  | q :: r, p => by
    simp only [ty_in, Bool.or_eq_true, List.mem_cons, ty_in_ok]
    exact ⟨fun h => h.elim (fun q => Or.inl (Nat.eq_of_beq_eq_true q).symm) Or.inr, fun h => h.elim (fun q => Or.inl (by rw [q]; exact Nat.beq_refl _)) Or.inr⟩
theorem ty_sub_ok : ∀ {a m : List Nat}, ty_sub a m = true → ∀ p ∈ a, p ∈ m
  | [], _, _, p, h => absurd h List.not_mem_nil
  | q :: r, m, h, p, hp => by
    simp only [ty_sub, Bool.and_eq_true] at h
    rcases List.mem_cons.mp hp with rfl | hp
    · exact ty_in_ok.mp h.1
    · exact ty_sub_ok h.2 p hp
theorem ty_Fcuts_mem : ∀ {F : ty_F} {m : List Nat} {q : Nat × Value × Value}, q ∈ ty_Fcuts F m → q ∈ F ∧ q.1 ∉ m
  | [], _, _, h => absurd h List.not_mem_nil
  | e :: r, m, q, h => by
    simp only [ty_Fcuts] at h
    split at h
    · obtain ⟨h1, h2⟩ := ty_Fcuts_mem h
      exact ⟨List.mem_cons_of_mem _ h1, h2⟩
    · rename_i hn
      rcases List.mem_cons.mp h with rfl | h
      · exact ⟨List.mem_cons_self, fun q => hn (ty_in_ok.mpr q)⟩
      · obtain ⟨h1, h2⟩ := ty_Fcuts_mem h
        exact ⟨List.mem_cons_of_mem _ h1, h2⟩
/-- cells that are not written stay known -/
theorem ty_Fok_cuts {F : ty_F} {m : List Nat} {h h' : am_H} (hF : ty_Fok F σ h) (hk : ∀ p : Nat, p ∉ m → ∀ x : am_C, h[p]? = some x → h'[p]? = some x) : ty_Fok (ty_Fcuts F m) σ h' := by
  intro p i v hm
  obtain ⟨h1, h2⟩ := ty_Fcuts_mem hm
  obtain ⟨x, j, e1, e2, e3, e4⟩ := hF p i v h1
  exact ⟨x, j, hk p h2 x e1, e2, e3, e4⟩
end TYB
