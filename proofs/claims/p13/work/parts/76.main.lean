/-! cells are only added; handlers; the theorem -/
theorem am_copy_gr {h h' : am_H} {n dp sp : Int32} {a b : Nat} (hc : am_copy h n dp b sp a = some h') : h.length ≤ h'.length ∧ am_sz h ≤ am_sz h' := by
  unfold am_copy at hc
  split at hc
  · split at hc
    · rename_i tg2 gs hb
      split at hc
      · rename_i hq
        split at hc
        · cases hc
        · split at hc
          · cases hc
          · split at hc
            · cases hc
            · split at hc
              · rename_i hr
                cases hc
                simp only [Bool.and_eq_true] at hr hq
                have g1 := Nat.le_of_ble_eq_true hr.1
                have g2 := Nat.le_of_ble_eq_true hr.2
                obtain rfl := Nat.eq_of_beq_eq_true hq.2.1
                exact ⟨by simp, Nat.le_of_eq (am_sz_set _ _ _ _ hb (by simp [am_csz, am_aty]; omega)).symm⟩
              · cases hc
      · cases hc
    · cases hc
  · cases hc
theorem am_back_gr {rec : am_R} (IH : am_gr rec) {d : Nat × Nat} {mid pc : Nat} {L r : List Value} {o1 o : am_O} {h1 h' : am_H} (hb : am_back rec d mid pc L r (some (o1, h1)) = some (o, h')) : h1.length ≤ h'.length ∧ am_sz h1 ≤ am_sz h' := by
  cases o1 with
  | inl v => exact IH _ _ _ _ _ _ _ _ hb
  | inr X =>
    simp only [am_back] at hb
    split at hb
    · exact IH _ _ _ _ _ _ _ _ hb
    · split at hb
      · cases hb
      · cases hb
        exact ⟨Nat.le_refl _, Nat.le_refl _⟩
theorem am_call_gr {rec : am_R} (IH : am_gr rec) {kd : Nat} {d : Nat × Nat} {mid pc : Nat} {L st : List Value} {h : am_H} {x : Option (Nat × Nat)} {o : am_O} {h' : am_H} (hc : am_call rec kd d mid pc L st h x = some (o, h')) : h.length ≤ h'.length ∧ am_sz h ≤ am_sz h' := by
  match x, hc with
  | none, hc => cases hc
  | some (0, k), hc =>
    simp only [am_call] at hc
    split at hc
    · cases hz : rec (d.1 - 1, d.2 - (am_wt (st.drop (am_na k)) + (am_ml k + 11))) k 0 ((st.take (am_na k)).reverse ++ List.replicate (am_ml k - am_na k) (.retAddr 0)) [] h with
      | none => rw [hz] at hc; cases hc
      | some z =>
        obtain ⟨o1, h1⟩ := z
        rw [hz] at hc
        have g1 := IH _ _ _ _ _ _ _ _ hz
        have g2 := am_back_gr IH hc
        omega
    · cases hc
  | some (1, k), hc =>
    simp only [am_call] at hc
    split at hc
    · split at hc
      · exact IH _ _ _ _ _ _ _ _ hc
      · cases hc
    · cases hc
  | some (2, k), hc =>
    simp only [am_call] at hc
    split at hc
    · split at hc
      · split at hc
        · rename_i hz
          have g1 := am_copy_gr hz
          have g2 := IH _ _ _ _ _ _ _ _ hc
          omega
        · cases hc
      · cases hc
    · cases hc
  | some (n + 3, k), hc => cases hc
theorem am_gr_run : ∀ n : Nat, am_gr (am_run n)
  | 0 => fun _ _ _ _ _ _ _ _ h => by cases h
  | n + 1 => fun d mid pc L st h o h' hr => by
    have IH := am_gr_run n
    have hr : am_body (am_run n) d mid pc L st h = some (o, h') := hr
    unfold am_body at hr
    split at hr
    · cases hr
    · rename_i i hi
      split at hr
      · rename_i pc1 L1 st1 h1 hs
        have g1 := am_step_gr hs
        have g2 := IH _ _ _ _ _ _ _ _ hr
        omega
      · unfold am_ctl at hr
        split at hr
        · split at hr
          · split at hr
            · cases hr; exact ⟨Nat.le_refl _, Nat.le_refl _⟩
            · cases hr
          · cases hr
        · split at hr
          · split at hr
            · cases hr; exact ⟨Nat.le_refl _, Nat.le_refl _⟩
            · cases hr
          · cases hr
        · split at hr
          · split at hr
            · cases hr; exact ⟨Nat.le_refl _, Nat.le_refl _⟩
            · cases hr
          · cases hr
        · exact am_call_gr IH hr
        · exact am_call_gr IH hr
        · exact am_call_gr IH hr
        · split at hr
          · split at hr
            · cases hr
              exact ⟨by simp, by rw [am_sz_app]; omega⟩
            · cases hr
          · cases hr
        · cases hr
/-! handlers -/
theorem am_hcov {own : String} {pc : Nat} : ∀ (hs : List (Nat × Nat × Nat × Nat)) (es : List ExceptionTableEntry), am_hrel own hs (es.map (fun h => (h.startPc, h.endPc, h.handlerPc, h.catchType))) → am_cov hs pc = false → ∀ x ∈ es, covers x pc = false
  | [], [], _, _, x, hx => by cases hx
  | [], _ :: _, h, _, _, _ => h.elim
  | _ :: _, [], h, _, _, _ => h.elim
  | (a, b, q, X) :: r, y :: ys, h, hc, x, hx => by
    obtain ⟨⟨h1, h2, -⟩, h3⟩ := h
    simp only at h1 h2
    simp only [am_cov, Bool.or_eq_false_iff] at hc
    rcases List.mem_cons.mp hx with rfl | hx
    · subst h1 h2
      show (decide (_ ≤ pc) && decide (pc < _)) = false
      have := hc.1
      simp only [Nat.ble_eq, Nat.blt_eq, ← Bool.not_eq_true, Bool.and_eq_true, decide_eq_true_eq] at this ⊢
      exact this
    · exact am_hcov r ys h3 hc.2 x hx
section AMY
variable {p : Program} {l : Launch} {e : Env} {R : Room} {s : State} {m : MethodId} {args : Array Value} {below : List Frame} {meth : Method} {c : Code} {H : Heap} {locs : List Loc} {cells slots : Nat} {Q : State → Prop}
variable {S0 : State} {D : va_G} {base : Nat} {ad : Nat → Nat} {A0 : Array Value}
theorem am_hfind (F : am_Fc) (hZ : am_Z S0 D base ad A0) (hW : S0.WarmedH s.vm) {own : String} {d : ClassId} (hown : s.vm.findClass own = some d) {pl : Platform} (hpl : pl.magicAccessors = ({} : Platform).magicAccessors) {pc X q : Nat} :
    ∀ (hs : List (Nat × Nat × Nat × Nat)) (es : List ExceptionTableEntry), am_hrel own hs (es.map (fun h => (h.startPc, h.endPc, h.handlerPc, h.catchType))) → am_hdl hs pc X = some q → (10 ≤ X ∧ X < 14) ∧ am_sc s pl d pc (D.1 X) es q
  | [], _, _, h2 => by cases h2
  | _ :: _, [], h, _ => h.elim
  | (a, b, q1, Y) :: r, y :: ys, h, h2 => by
    obtain ⟨⟨h1, h3, h4, h5, h6, u, h7, h8⟩, h9⟩ := h
    simp only at h1 h3 h4 h5 h6 h7 h8
    subst h1 h3 h4
    obtain ⟨c', hc', hcl⟩ := Cond.classLink_spec hown (am_word hZ hW h8 rfl #[]) pl hpl
    have hK := (hZ.2.1.1 Y u h7).2.1
    have hcY : c' = D.1 Y := by
      rw [hW.alike.findClass] at hc'
      exact Option.some.inj (hc'.symm.trans hK)
    subst hcY
    simp only [am_hdl] at h2
    by_cases hcv : covers y pc = true
    · have hcv2 : (Nat.ble y.startPc pc && Nat.blt pc y.endPc) = true := by
        simp only [covers, Bool.and_eq_true, decide_eq_true_eq] at hcv
        simp only [Nat.ble_eq, Nat.blt_eq, Bool.and_eq_true]
        exact hcv
      simp only [Bool.and_eq_true] at hcv2
      by_cases hYX : Y = X
      · subst hYX
        rw [if_pos (by simp only [Bool.and_eq_true]; exact ⟨hcv2.1, hcv2.2, Nat.beq_refl Y⟩)] at h2
        cases h2
        refine ⟨h6, Or.inr ⟨hcv, h5, _, hcl, Or.inl ⟨?_, rfl⟩⟩⟩
        obtain ⟨k1, -, -⟩ := F.2.2.2.2.2.2.2.2.1 Y h6.1 h6.2 u h7
        obtain ⟨c3, c4, hc3, hc4, hasg⟩ := Cond.castable_spec (hZ.1 _ k1)
        rw [hW.alike.assignable]
        cases Option.some.inj (hc3.symm.trans hK)
        cases Option.some.inj (hc4.symm.trans hK)
        exact hasg
      · rw [if_neg (by simp only [Bool.and_eq_true]; rintro ⟨-, -, z⟩; exact hYX (Nat.eq_of_beq_eq_true z))] at h2
        obtain ⟨hX, hsc⟩ := am_hfind F hZ hW hown hpl r ys h9 h2
        refine ⟨hX, Or.inr ⟨hcv, h5, _, hcl, Or.inr ⟨?_, hsc⟩⟩⟩
        have hlt : X < am_cl.length := Nat.lt_of_lt_of_le hX.2 (by decide)
        have hKX := (hZ.2.1.1 X _ (List.getElem?_eq_getElem hlt)).2.1
        have hno := hZ.1 _ (F.2.2.2.2.2.2.2.1 X Y hX.1 hX.2 h6.1 h6.2 (fun z => hYX z.symm) _ _ (List.getElem?_eq_getElem hlt) h7)
        have hv := Cond.holds_not_iff.mp hno
        simp only [Cond.value, hKX, hK] at hv
        rw [hW.alike.assignable]
        exact Option.some.inj hv
    · have hcf : covers y pc = false := by simpa using hcv
      rw [if_neg (by
        simp only [Bool.and_eq_true]
        rintro ⟨z1, z2, -⟩
        apply hcv
        simp only [covers, Bool.and_eq_true, decide_eq_true_eq]
        exact ⟨Nat.le_of_ble_eq_true z1, Nat.le_of_ble_eq_true z2⟩)] at h2
      obtain ⟨hX, hsc⟩ := am_hfind F hZ hW hown hpl r ys h9 h2
      exact ⟨hX, Or.inl ⟨hcf, hsc⟩⟩
end AMY
