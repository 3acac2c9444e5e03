/-! ALL CONTRACTS HOLD, written by wip/tools/tabgen.py -/
theorem tf_nil {TT : List ty_C} : ∀ D ∈ ([] : List ty_C), D ∈ TT := fun _ h => absurd h List.not_mem_nil
theorem tf_cons {TT : List ty_C} {C : ty_C} {l : List ty_C} (h : C ∈ TT) (hl : ∀ D ∈ l, D ∈ TT) : ∀ D ∈ C :: l, D ∈ TT := fun D hD => (List.mem_cons.mp hD).elim (fun e => by rw [e]; exact h) (hl D)
def tf_P (TT : List ty_C) (C : ty_C) : Prop := (∀ (d : Nat × Nat) (L : List Value) (h : am_H), ty_ar0 tc_g C d L h → ty_vd tc_g C d L h) ∨ (C.2.2.length ≤ 8 ∧ ∃ (T : List ty_C) (n : Nat), (∀ D ∈ T, D ∈ TT) ∧ ty_ck tc_g T n C = true)
theorem tf_pn {TT : List ty_C} : ∀ C ∈ ([] : List ty_C), tf_P TT C := fun _ h => absurd h List.not_mem_nil
theorem tf_pc {TT : List ty_C} {C : ty_C} {l : List ty_C} (h : tf_P TT C) (hl : ∀ D ∈ l, tf_P TT D) : ∀ D ∈ C :: l, tf_P TT D := fun D hD => (List.mem_cons.mp hD).elim (fun e => by rw [e]; exact h) (hl D)
theorem tf_ap {TT a b : List ty_C} (ha : ∀ D ∈ a, tf_P TT D) (hb : ∀ D ∈ b, tf_P TT D) : ∀ D ∈ a ++ b, tf_P TT D := fun D hD => (List.mem_append.mp hD).elim (ha D) (hb D)
def td_T : List ty_C := [tc_249, tc_258, tc_259, tc_260]
theorem td_m249 : tc_249 ∈ td_T := (.head _)
theorem td_m258 : tc_258 ∈ td_T := (.tail _ (.head _))
theorem td_m259 : tc_259 ∈ td_T := (.tail _ (.tail _ (.head _)))
theorem td_m260 : tc_260 ∈ td_T := (.tail _ (.tail _ (.tail _ (.head _))))
theorem td_e249 : tf_P td_T tc_249 := Or.inr ⟨by decide, tc_u249, 4000, tf_nil, tc_ok249⟩
theorem td_e258 : tf_P td_T tc_258 := Or.inr ⟨by decide, tc_u258, 4000, (tf_cons td_m249 tf_nil), tc_ok258⟩
theorem td_e259 : tf_P td_T tc_259 := Or.inr ⟨by decide, tc_u259, 4000, (tf_cons td_m260 (tf_cons td_m249 (tf_cons td_m258 tf_nil))), tc_ok259⟩
theorem td_e260 : tf_P td_T tc_260 := Or.inr ⟨by decide, tc_u260, 4000, (tf_cons td_m260 (tf_cons td_m249 (tf_cons td_m258 tf_nil))), tc_ok260⟩
theorem td_all : ∀ C ∈ td_T, tf_P td_T C := (tf_pc td_e249 (tf_pc td_e258 (tf_pc td_e259 (tf_pc td_e260 tf_pn))))
theorem tm_dep : ty_vT tc_g od_T := fun C hC d L h ha => by
  rw [List.mem_singleton.mp hC] at ha ⊢
  exact ty_tabs td_all _ td_m259 d L h ha
