/-! Object's constructor, System.arraycopy of ints -/
section AMO
variable {p : Program} {l : Launch} {e : Env} {R : Room} {s : State} {m : MethodId} {args : Array Value} {below : List Frame} {meth : Method} {c : Code} {H : Heap} {locs : List Loc} {cells slots : Nat} {Q : State → Prop}
variable {S0 : State} {D : va_G} {base : Nat} {ad : Nat → Nat} {A0 : Array Value}
theorem am_objw : Cond.instanceMethod objectInit ∈ am_tbl ∧ Cond.code objectInit ⟨#[0xb1]⟩ 1 none ∈ am_tbl := ⟨by decide +kernel, List.mem_of_getElem? (i := 99) rfl⟩
theorem am_cpyw : Cond.native arraycopyName ∈ am_tbl ∧ Cond.static arraycopyName ∈ am_tbl ∧ Cond.initialized "java/lang/System" ∈ am_tbl := ⟨by decide +kernel, by decide +kernel, by decide +kernel⟩
theorem am_objinit (hZ : am_Z S0 D base ad A0) {mid : Nat} (hX : am_X p S0 s m meth c mid) {x pc : Nat} (hl : Cond.methodLink (am_y mid).cls x objectInit ∈ am_tbl) {ls : Array Slot} (hsize : ls.size = c.maxLocals) {a : Nat} {r : List Value} (hd : decode c.code pc = .ok (.invokespecial x, 3)) (h1 : 1 ≤ R.frames) (h2 : am_wt r + 12 ≤ R.locals)
    (kk : W p l e R s m args below meth c H locs cells slots Q (F0 m (pc + 3) ls (r.map (am_rv ad)))) : W p l e R s m args below meth c H locs cells slots Q (F0 m pc ls (.ref (ad a) :: r.map (am_rv ad))) := by
  have hown := findClass_of_methodNamed hX.2.2.1
  exact W.objInit hX.1 rfl hown (am_word hZ hX.2.1 hl rfl args) (am_word hZ hX.2.1 am_objw.1 rfl args) (am_word hZ hX.2.1 am_objw.2 rfl args) rfl hsize rfl hd h1 (by show 2 * 0 + _ + 12 ≤ _; rw [am_wt_eq]; omega) kk
theorem am_nn {z : Int32} (hz : ¬ z < 0) : z.toInt = (z.toNatClampNeg : Int) := by
  have hz0 : (0 : Int) ≤ z.toInt := by
    have := Int32.not_lt.mp hz
    simpa using Int32.le_iff_toInt_le.mp this
  show z.toInt = ((z.toInt.toNat : Nat) : Int)
  omega
theorem am_copied {fs gs es ed : List Value} {cs cd : Cell} {sp dp n : Nat} (hs : cs.slots = (fs.map (am_rv ad) ++ es).toArray) (hd : cd.slots = (gs.map (am_rv ad) ++ ed).toArray) (h1 : sp + n ≤ fs.length) (h2 : dp + n ≤ gs.length) :
    (cd.storeRun dp (cs.stretch sp n)).slots = ((gs.take dp ++ (fs.drop sp).take n ++ gs.drop (dp + n)).map (am_rv ad) ++ ed).toArray := by
  have hl : (cs.stretch sp n).length = n := by simp [Cell.stretch]
  have hsz : dp + n ≤ cd.slots.size := by
    rw [hd]
    simp
    omega
  have hM : (gs.take dp ++ (fs.drop sp).take n ++ gs.drop (dp + n)).length = gs.length := by
    simp
    omega
  apply Array.ext_getElem?
  intro j
  rw [Cell.storeRun_get _ _ _ _ (by rw [hl]; exact hsz), hl]
  by_cases hj : dp ≤ j ∧ j < dp + n
  · rw [if_pos hj, List.getElem?_toArray, List.getElem?_append_left (by rw [List.length_map, hM]; omega), List.getElem?_map]
    have e1 : (gs.take dp ++ (fs.drop sp).take n ++ gs.drop (dp + n))[j]? = fs[sp + (j - dp)]? := by
      rw [List.append_assoc, List.getElem?_append_right (by simp; omega)]
      rw [List.getElem?_append_left (by simp; omega)]
      rw [List.getElem?_take_of_lt (by simp; omega), List.getElem?_drop]
      congr 1
      simp
      omega
    rw [e1]
    unfold Cell.stretch
    rw [List.getElem?_map, List.getElem?_range (by omega)]
    have hlt : sp + (j - dp) < fs.length := by omega
    have hv : cs.slots[sp + (j - dp)]? = some (am_rv ad fs[sp + (j - dp)]) := by
      rw [hs]
      exact am_ext_get (List.getElem?_eq_getElem hlt)
    rw [List.getElem?_eq_getElem hlt]
    simp [Array.getD_eq_getD_getElem?, hv]
  · rw [if_neg hj, hd, List.getElem?_toArray, List.getElem?_toArray]
    by_cases hg : j < gs.length
    · rw [List.getElem?_append_left (by rw [List.length_map]; exact hg), List.getElem?_append_left (by rw [List.length_map, hM]; exact hg), List.getElem?_map, List.getElem?_map]
      congr 1
      by_cases hjl : j < dp
      · rw [List.append_assoc, List.getElem?_append_left (by simp; omega), List.getElem?_take_of_lt hjl]
      · have hge : dp + n ≤ j := by omega
        rw [List.getElem?_append_right (by simp; omega), List.getElem?_drop]
        congr 1
        simp
        omega
    · rw [List.getElem?_append_right (by rw [List.length_map]; omega), List.getElem?_append_right (by rw [List.length_map, hM]; omega), List.length_map, List.length_map, hM]
theorem am_copied_sz {fs gs es ed : List Value} {cs cd : Cell} {sp dp n : Nat} (hs : cs.slots = (fs.map (am_rv ad) ++ es).toArray) (hd : cd.slots = (gs.map (am_rv ad) ++ ed).toArray) (h1 : sp + n ≤ fs.length) (h2 : dp + n ≤ gs.length) (h6 : cd.slots.size.toInt32 = Int32.ofNat gs.length) :
    (cd.storeRun dp (cs.stretch sp n)).slots.size.toInt32 = Int32.ofNat (gs.take dp ++ (fs.drop sp).take n ++ gs.drop (dp + n)).length := by
  have hM : (gs.take dp ++ (fs.drop sp).take n ++ gs.drop (dp + n)).length = gs.length := by
    simp
    omega
  have e : (cd.storeRun dp (cs.stretch sp n)).slots.size = cd.slots.size := by
    rw [am_copied hs hd h1 h2, hd]
    simp only [List.size_toArray, List.length_append, List.length_map] at hM ⊢
    omega
  rw [e, hM]
  exact h6
theorem am_arraycopy (hZ : am_Z S0 D base ad A0) {mid : Nat} (hX : am_X p S0 s m meth c mid) {x pc : Nat} (hl : Cond.methodLink (am_y mid).cls x arraycopyName ∈ am_tbl) {ls : Array Slot} (hsize : ls.size = c.maxLocals) {n dp sp : Int32} {a b : Nat} {r : List Value} {h h' : am_H} (hcp : am_copy h n dp b sp a = some h') (hP : am_P S0 D base ad h H) (hlo : ∀ q ∈ locs, base ≤ q.base)
    (hd : decode c.code pc = .ok (.invokestatic x, 3)) (h1 : 1 ≤ R.frames) (h2 : am_wt r + 18 ≤ R.locals)
    (kk : ∀ (H' : Heap) (locs' : List Loc), am_P S0 D base ad h' H' → (∀ q ∈ locs', base ≤ q.base) → h'.length = h.length → am_sz h' = am_sz h → W p l e R s m args below meth c H' locs' cells slots Q (F0 m (pc + 3) ls (r.map (am_rv ad)))) :
    W p l e R s m args below meth c H locs cells slots Q (F0 m pc ls (.int n :: .int dp :: .ref (ad b) :: .int sp :: .ref (ad a) :: r.map (am_rv ad))) := by
  unfold am_copy at hcp
  split at hcp
  · rename_i tg fs ha
    split at hcp
    · rename_i tg2 gs hb
      split at hcp
      · rename_i hq
        simp only [Bool.and_eq_true] at hq
        obtain rfl := Nat.eq_of_beq_eq_true hq.1
        obtain rfl := Nat.eq_of_beq_eq_true hq.2.1
        have hb2 : 2 ≤ b := Nat.le_of_ble_eq_true hq.2.2
        split at hcp
        · cases hcp
        · rename_i hn
          split at hcp
          · cases hcp
          · rename_i hdp
            split at hcp
            · cases hcp
            · rename_i hsp
              split at hcp
              · rename_i hr
                cases hcp
                simp only [Bool.and_eq_true] at hr
                have g1 : sp.toNatClampNeg + n.toNatClampNeg ≤ fs.length := Nat.le_of_ble_eq_true hr.1
                have g2 : dp.toNatClampNeg + n.toNatClampNeg ≤ gs.length := Nat.le_of_ble_eq_true hr.2
                obtain ⟨cs, xs1, s1, s2, s3, s4, s5, s6⟩ := hP.arr ha (ty := .int) rfl
                obtain ⟨cd, xd1, d1, d2, d3, d4, d5, d6⟩ := hP.arr hb (ty := .int) rfl
                obtain ⟨s2a, ks, s2b, scm, s2c⟩ := State.isArrayOf_alike hX.2.1.alike s2
                obtain ⟨d2a, kd, d2b, dcm, d2c⟩ := State.isArrayOf_alike hX.2.1.alike d2
                have hown := findClass_of_methodNamed hX.2.2.1
                have es : fs.length ≤ cs.slots.size := by rw [s4]; simp
                have ed : gs.length ≤ cd.slots.size := by rw [d4]; simp
                intro T hT X
                have hval : ∀ i, i < n.toNatClampNeg → ∃ z : Int32, cs.slots.getD (sp.toNatClampNeg + i) .null = .int z := fun i hi => by
                  have hlt : sp.toNatClampNeg + i < fs.length := by omega
                  have hI := s5 rfl _ (List.getElem_mem hlt)
                  have hg : cs.slots[sp.toNatClampNeg + i]? = some (am_rv ad fs[sp.toNatClampNeg + i]) := by
                    rw [s4]
                    exact am_ext_get (List.getElem?_eq_getElem hlt)
                  generalize hv : fs[sp.toNatClampNeg + i] = v at hI hg
                  cases v with
                  | int z => exact ⟨z, by rw [Array.getD_eq_getD_getElem?, hg]; rfl⟩
                  | _ => cases hI
                obtain ⟨vm', X', step⟩ := X.arraycopy hX.1 hown (am_word hZ hX.2.1 hl rfl args) (am_word hZ hX.2.1 am_cpyw.1 rfl args) (am_word hZ hX.2.1 am_cpyw.2.1 rfl args) (am_word hZ hX.2.1 am_cpyw.2.2 rfl args) (src := ad a) (dst := ad b) (cs := cs) (cd := cd) (srcPos := sp) (destPos := dp) (n := n) (by rw [hT]; exact s1) (by rw [hT]; exact d1)
                  s2a d2a s3 d3 s2b d2b s2c d2c rfl hsp hdp hn (by rw [am_nn hsp, am_nn hn]; omega) (by rw [am_nn hdp, am_nn hn]; omega)
                  (fun vm₁ _ i hi => by
                    obtain ⟨z, hz⟩ := hval i hi
                    rw [hz]
                    exact ⟨rfl, trivial⟩)
                  (g := F0 m pc ls (.int n :: .int dp :: .ref (ad b) :: .int sp :: .ref (ad a) :: r.map (am_rv ad))) rfl hsize (rest := r.map (am_rv ad)) rfl hd h1 (by show 2 * 0 + _ + (5 + 2 + 11) ≤ _; rw [am_wt_eq]; omega)
                have hf := Cell.storeRun_facts cd dp.toNatClampNeg (cs.stretch sp.toNatClampNeg n.toNatClampNeg)
                have hlt : ad b < H.size := (Array.getElem?_eq_some_iff.mp d1).1
                have hheap : ((T.setVm vm').setCell (ad b) (copied cs cd sp dp n)).heap = H.setIfInBounds (ad b) (copied cs cd sp dp n) := by rw [← hT]; rfl
                have hlen : (gs.take dp.toNatClampNeg ++ (fs.drop sp.toNatClampNeg).take n.toNatClampNeg ++ gs.drop (dp.toNatClampNeg + n.toNatClampNeg)).length = gs.length := by simp; omega
                obtain ⟨t, a1, b1⟩ := kk (H.setIfInBounds (ad b) (copied cs cd sp dp n)) _ (hP.set hZ.2.2.2 hb2 (am_arr_ext (ty := .int) (cell := copied cs cd sp dp n) rfl (by simp [Array.getElem?_setIfInBounds, hlt])
                    ⟨fun k z => d2.1 k (by rw [← hf.2.1]; exact z), by rw [hf.1]; exact d2.2⟩ (by rw [hf.2.1]; exact d3) (am_copied s4 d4 g1 g2) (fun _ v hv => by
                      rcases List.mem_append.mp hv with hv | hv
                      · rcases List.mem_append.mp hv with hv | hv
                        · exact d5 rfl v (List.mem_of_mem_take hv)
                        · exact s5 rfl v (List.mem_of_mem_drop (List.mem_of_mem_take hv))
                      · exact d5 rfl v (List.mem_of_mem_drop hv)) (am_copied_sz s4 d4 g1 g2 d6)) (by simp) (fun q hq => by simp [Array.getElem?_setIfInBounds, Ne.symm hq]))
                  (fun q hq => by
                    rcases List.mem_append.mp hq with h9 | h9
                    · exact hlo q h9
                    · obtain ⟨z, -, hz⟩ := List.mem_map.mp h9
                      rw [← hz]
                      exact hZ.2.2.2.bs hb2) (by simp) (am_sz_set h b _ _ hb (by simp only [am_csz, am_aty]; exact hlen)) _ hheap X'
                exact ⟨t, step t a1, b1⟩
              · cases hcp
      · cases hcp
    · cases hcp
  · cases hcp
end AMO
