/-! new int[n][k]; cells are only added; which exception is no other -/
theorem am_over {u U : State} (hvm : u.vm.Alike U.vm) {A A' : Array Value} (h : (Cond.arrayOver (.array .int)).before A u = true) : (Cond.arrayOver (.array .int)).before A' U = true := by
  simp only [Cond.before, Cond.holds, Cond.value, beq_iff_eq, Option.bind_eq_some_iff, Option.map_eq_some_iff] at h ⊢
  obtain ⟨comp, h1, c, h2, k, h3, h4⟩ := h
  obtain ⟨k', hk', he⟩ := hvm.2.2 _ _ h3
  have hkk : k'.kind = k.kind := by rw [he]
  refine ⟨comp, by rw [hvm.findClass]; exact h1, c, ?_, k', hk', ?_⟩
  · refine (va_idx_bare U.vm comp).symm.trans ?_
    first | rw [hvm.bare_eq] | rw [← hvm.bare_eq]
    exact (va_idx_bare u.vm comp).trans h2
  · rw [hkk]
    simp only [hvm.findClass]
    exact h4
section AMM
variable {p : Program} {l : Launch} {e : Env} {R : Room} {s : State} {m : MethodId} {args : Array Value} {below : List Frame} {meth : Method} {c : Code} {H : Heap} {locs : List Loc} {cells slots : Nat} {Q : State → Prop}
variable {S0 : State} {D : va_G} {base : Nat} {ad : Nat → Nat} {A0 : Array Value}
theorem am_P.pushes {h gs : am_H} {H1 : Heap} (hP : am_P S0 D base ad h H) (hA : am_ad base ad) (h2 : 2 ≤ h.length) (hx : ∀ (j : Nat) (x : am_C), gs[j]? = some x → am_cell S0 D ad (H.size + j) x H1) (hz : H1.size = H.size + gs.length) (hq : ∀ q, q < H.size → H1[q]? = H[q]?) : am_P S0 D base ad (h ++ gs) H1 := by
  have hb : base ≤ H.size := by have := hP.1; omega
  refine ⟨by rw [hz, List.length_append]; have := hP.1; omega, fun j y hj => ?_, fun a ha => (hq a (Nat.lt_of_lt_of_le ha hb)).trans (hP.2.2 a ha)⟩
  by_cases e : j < h.length
  · rw [List.getElem?_append_left e] at hj
    refine (hP.2.1 j y hj).kept (hq _ ?_)
    by_cases hj2 : 2 ≤ j
    · rw [hA.ge hj2]
      have := hP.1
      omega
    · exact Nat.lt_of_lt_of_le (hA.lt hj2) hb
  · rw [List.getElem?_append_right (by omega)] at hj
    have := hx _ _ hj
    rw [hA.ge (show 2 ≤ j by omega)]
    have e2 : base + (j - 2) = H.size + (j - h.length) := by have := hP.1; omega
    rw [e2]
    exact this
theorem am_maw : Cond.arrayOver (.array .int) ∈ am_tbl ∧ Cond.arrayClass .int ∈ am_tbl := ⟨by decide +kernel, by decide +kernel⟩
theorem am_outer {cA : ClassId} {N : Nat} {a0 : Nat} (hA : am_ad base ad) {h0 : Nat} (h2 : 2 ≤ h0) (hh : ad h0 = a0) : ∀ i : Nat, i ≤ N → (Jvm.Free.Multi.outerC cA N a0 i).slots = (((List.range N).map (fun j => if j < i then Value.ref (h0 + 1 + j) else Value.null)).map (am_rv ad)).toArray
  | 0, _ => by
    show Array.replicate N Value.null = _
    apply Array.ext'
    simp [am_rv, List.map_const']
  | i + 1, hi => by
    show ((Jvm.Free.Multi.outerC cA N a0 i).setSlot i (.ref (a0 + 1 + i))).slots = _
    have ih := am_outer (cA := cA) (N := N) hA h2 hh i (by omega)
    have hr : (.ref (a0 + 1 + i) : Value) = am_rv ad (.ref (h0 + 1 + i)) := by
      have e1 := hA.ge h2
      have e2 := hA.ge (show 2 ≤ h0 + 1 + i by omega)
      have e3 : a0 + 1 + i = ad (h0 + 1 + i) := by rw [e2, ← hh, e1]; omega
      show Value.ref _ = Value.ref _
      rw [e3]
    rw [hr, am_arr_set ih]
    congr 2
    apply List.ext_getElem?
    intro j
    rw [List.getElem?_set]
    simp only [List.getElem?_map, List.length_map, List.length_range]
    by_cases hj : j < N
    · rw [List.getElem?_range hj]
      by_cases e : i = j
      · subst e
        simp [hj]
      · by_cases e2 : j < i
        · simp [e, e2, Nat.lt_succ_of_lt e2]
        · simp [e, e2, show ¬ j < i + 1 by omega]
    · have hn : (List.range N)[j]? = none := List.getElem?_eq_none (by rw [List.length_range]; omega)
      simp [hn, show ¬ i = j by omega]
theorem am_k_multi (hF : ∀ oc x : Nat, am_ma oc x = true → Cond.classLink (am_on oc) x "[[I" ∈ am_tbl) (x dm : Nat) : am_St p l e R s m args below meth c H locs cells slots Q S0 D base ad A0 (.multianewarray x dm) := by
  intro nL mid pc len L st h pc' L' st' h' ls hX hZ hd hn hs hl hP h2 hlo hc hz kk
  obtain rfl : len = 4 := Nat.eq_of_beq_eq_true hn
  simp only [am_step] at hs
  split at hs
  · rename_i k n r
    split at hs
    · rename_i hq
      simp only [Bool.and_eq_true] at hq
      obtain rfl := Nat.eq_of_beq_eq_true hq.1
      split at hs
      · cases hs
      · rename_i hn0
        split at hs
        · cases hs
        · rename_i hk0
          split at hs
          · rename_i hb
            simp only [Bool.and_eq_true] at hb
            have hb1 : n.toNatClampNeg ≤ 1000 := Nat.le_of_ble_eq_true hb.1
            have hb2 : k.toNatClampNeg ≤ 1000 := Nat.le_of_ble_eq_true hb.2
            cases hs
            generalize hgs : ((35, (List.range n.toNatClampNeg).map (fun i => Value.ref (h.length + 1 + i))) :: List.replicate n.toNatClampNeg (32, List.replicate k.toNatClampNeg (.int 0)) : am_H) = gs at *
            have hgl : gs.length = 1 + n.toNatClampNeg := by rw [← hgs]; simp; omega
            have hrep : ∀ z : Nat, am_sz (List.replicate z (32, List.replicate k.toNatClampNeg (.int 0))) = z * k.toNatClampNeg := fun z => by
              induction z with
              | zero => simp [am_sz]
              | succ z ih => simp only [List.replicate_succ, am_sz, ih, am_csz, am_aty, List.length_replicate]; rw [Nat.succ_mul]; omega
            have hgz : am_sz gs = n.toNatClampNeg + n.toNatClampNeg * k.toNatClampNeg := by
              rw [← hgs]
              simp only [am_sz, hrep, am_csz, am_aty, List.length_map, List.length_range]
            rw [List.length_append, hgl] at hc
            rw [am_sz_app, hgz] at hz
            have hown := findClass_of_methodNamed hX.2.2.1
            rw [hX.2.2.2.2.2.2.2.2.1] at hown
            intro T hT X
            obtain ⟨vm₁, cA, comp, -, fA, fC, hO, hI, X', step⟩ := X.multianewarray2F hX.1 hown (ty := .int) (am_word hZ hX.2.1 (hF _ _ hq.2) rfl args) (am_over hX.2.1.alike (hZ.1 _ am_maw.1)) (am_word hZ hX.2.1 am_maw.2 rfl args) (g := F0 m pc ls (.int k :: .int n :: r.map (am_rv ad))) rfl hd rfl hn0 hk0 (by omega) (by show k.toNatClampNeg * 4 ≤ _; omega) (by omega) rfl rfl (by omega) (by omega)
            have hTh : (T.setVm vm₁).heap = H := hT
            obtain ⟨f1, f2, -, -⟩ := Jvm.Free.Multi.fill_facts (T.setVm vm₁) cA comp n.toNatClampNeg k.toNatClampNeg (defaultValue .int) n.toNatClampNeg
            rw [hTh] at f1 f2
            have hnew := hP.new hZ.2.2.2 h2
            have hPF : am_P S0 D base ad (h ++ gs) (Jvm.Free.Multi.fill (T.setVm vm₁) cA comp n.toNatClampNeg k.toNatClampNeg (defaultValue .int) n.toNatClampNeg).heap := by
              refine hP.pushes hZ.2.2.2 h2 (fun j y hj => ?_) (by rw [f1, hgl]; omega) (fun q hq => by
                have := Jvm.Free.Multi.fill_old (T.setVm vm₁) cA comp n.toNatClampNeg k.toNatClampNeg (defaultValue .int) (a := q) (by rw [hTh]; exact hq) n.toNatClampNeg
                rw [hTh] at this
                exact this)
              rw [← hgs] at hj
              cases j with
              | zero =>
                rw [List.getElem?_cons_zero] at hj
                cases hj
                refine am_arr_cell (ty := .array .int) rfl f2 (State.isArrayOf_alike hX.2.1.alike.symm (hO _ _ _).1) (hO _ _ _).2 ?_ (fun z => by cases z)
                rw [am_outer hZ.2.2.2 h2 hnew n.toNatClampNeg (Nat.le_refl _)]
                congr 2
                apply List.map_congr_left
                intro j hj
                rw [if_pos (List.mem_range.mp hj)]
              | succ j =>
                rw [List.getElem?_cons_succ] at hj
                have hjl : j < n.toNatClampNeg := by have := (List.getElem?_eq_some_iff.mp hj).1; simpa using this
                have hy := List.mem_of_getElem? hj
                rw [List.mem_replicate] at hy
                obtain rfl := hy.2
                have hin := Jvm.Free.Multi.fill_inner (T.setVm vm₁) cA comp n.toNatClampNeg k.toNatClampNeg (defaultValue .int) n.toNatClampNeg j hjl
                rw [hTh] at hin
                rw [show H.size + (j + 1) = H.size + 1 + j by omega]
                exact am_arr_cell (ty := .int) rfl hin (State.isArrayOf_alike hX.2.1.alike.symm (hI _ _).1) (hI _ _).2 (am_rep rfl _) (fun _ v hv => by rw [List.mem_replicate] at hv; rw [hv.2]; rfl)
            have kk2 := kk _ locs (cells + 1 + n.toNatClampNeg) (slots + n.toNatClampNeg + n.toNatClampNeg * k.toNatClampNeg) ls hl hPF (by simp) hlo (by rw [List.length_append, hgl]; omega) (by rw [am_sz_app, hgz]; omega)
            obtain ⟨t, a1, b1⟩ := kk2 _ rfl X'
            refine ⟨t, step t ?_, b1⟩
            rw [List.map_cons, show am_rv ad (.ref h.length) = .ref T.heap.size by simp only [am_rv, hnew, hT]] at a1
            exact a1
          · cases hs
    · cases hs
  · cases hs
end AMM
