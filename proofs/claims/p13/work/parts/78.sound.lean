/-! THE THEOREM: every run of the abstract machine is a walk of the machine -/
section AMZ
variable {p : Program} {l : Launch} {e : Env} {R : Room} {s : State} {m : MethodId} {args : Array Value} {below : List Frame} {meth : Method} {c : Code} {H : Heap} {locs : List Loc} {cells slots : Nat} {Q : State → Prop}
variable {S0 : State} {D : va_G} {base : Nat} {ad : Nat → Nat} {A0 : Array Value}
theorem am_disp (F : am_Fc) (hx : p.tables.exec = Jvm.exec) (i : Jvm.ClassFile.Instr) : am_St p l e R s m args below meth c H locs cells slots Q S0 D base ad A0 i := by
  cases i
  case iconst n => exact am_St.pure (am_k_iconst hx n)
  case bipush n => exact am_St.pure (am_k_bipush hx n)
  case sipush n => exact am_St.pure (am_k_sipush hx n)
  case lconst n => exact am_St.pure (am_k_lconst hx n)
  case iload_n k => exact am_St.pure (am_k_iload_n hx k)
  case iload k => exact am_St.pure (am_k_iload hx k)
  case aload_n k => exact am_St.pure (am_k_aload_n hx k)
  case aload k => exact am_St.pure (am_k_aload hx k)
  case istore_n k => exact am_St.pure (am_k_istore_n hx k)
  case istore k => exact am_St.pure (am_k_istore hx k)
  case astore_n k => exact am_St.pure (am_k_astore_n hx k)
  case astore k => exact am_St.pure (am_k_astore hx k)
  case iinc k n => exact am_St.pure (am_k_iinc hx k n)
  case iadd => exact am_St.pure (am_k_iadd hx)
  case isub => exact am_St.pure (am_k_isub hx)
  case imul => exact am_St.pure (am_k_imul hx)
  case iand => exact am_St.pure (am_k_iand hx)
  case idiv => exact am_St.pure (am_k_idiv hx)
  case i2l => exact am_St.pure (am_k_i2l hx)
  case lcmp => exact am_St.pure (am_k_lcmp hx)
  case dup => exact am_St.pure (am_k_dup hx)
  case pop => exact am_St.pure (am_k_pop hx)
  case dup_x1 => exact am_St.pure (am_k_dup_x1 hx)
  case dup_x2 => exact am_St.pure (am_k_dup_x2 hx)
  case dup2 => exact am_St.pure (am_k_dup2 hx)
  case goto o => exact am_St.pure (am_k_goto hx o)
  case ifCond b o => exact am_St.pure (am_k_ifCond hx b o)
  case if_icmp b o => exact am_St.pure (am_k_if_icmp hx b o)
  case tableswitch d lo hi os => exact am_St.pure (am_k_tableswitch hx d lo hi os)
  case lookupswitch d ps => exact am_St.pure (am_k_lookupswitch hx d ps)
  case iaload => exact am_k_iaload
  case baload => exact am_k_baload
  case laload => exact am_k_laload
  case aaload => exact am_k_aaload
  case iastore => exact am_k_iastore
  case bastore => exact am_k_bastore
  case lastore => exact am_k_lastore
  case arraylength => exact am_k_arraylength
  case newarray t => exact am_k_newarray t
  case getfield x => exact am_k_getfield F.2.1 x
  case putfield x => exact am_k_putfield F.2.1 F.2.2.1 x
  case new x => exact am_k_new F.2.2.2.1 x
  case multianewarray x d => exact am_k_multi F.2.2.2.2.1 x d
  case getstatic x => exact am_k_getstatic F.2.2.2.2.2.2.2.2.2 x
  all_goals
    intro nL mid pc len L st h pc' L' st' h' ls hX hZ hd hn hs hl hP h2 hlo hc hz kk
    simp [am_step] at hs
theorem am_kns_app : ∀ (a b : List Value), am_kns (a ++ b) = (am_kns a && am_kns b)
  | [], b => by simp [am_kns]
  | v :: a, b => by simp [am_kns, am_kns_app a b, Bool.and_assoc]
theorem am_kns_rev : ∀ a : List Value, am_kns a = true → am_kns a.reverse = true
  | [], _ => rfl
  | v :: a, h => by
    simp only [am_kns, Bool.and_eq_true] at h
    rw [List.reverse_cons, am_kns_app, am_kns_rev a h.2]
    simp [am_kns, h.1]
theorem am_rcv_inv {k : Nat} {as : List Value} {h : am_H} (hk : am_kd k ≠ 2) (h1 : am_rcv k as h = true) : ∃ (a : Nat) (as' fs : List Value), as = .ref a :: as' ∧ h[a]? = some (am_oc k, fs) := by
  unfold am_rcv at h1
  split at h1
  · rename_i e
    exact absurd e hk
  · split at h1
    · rename_i a as'
      split at h1
      · rename_i tg fs ha
        obtain rfl := Nat.eq_of_beq_eq_true h1
        exact ⟨a, _, fs, rfl, ha⟩
      · cases h1
    · cases h1
theorem am_callS (F : am_Fc) (hZ : am_Z S0 D base ad A0) {rec : am_R} (IH : am_So p l e S0 D base ad rec) (G : am_gr rec) {mid : Nat} (hX : am_X p S0 s m meth c mid) (hmok : am_mok mid) {kd x pc : Nat} {i : Jvm.ClassFile.Instr} (hd : decode c.code pc = .ok (i, 3)) (hik : (kd = 0 ∧ i = .invokevirtual x) ∨ (kd = 1 ∧ i = .invokespecial x) ∨ (kd = 2 ∧ i = .invokestatic x))
    {d : Nat × Nat} {L st : List Value} {h h' : am_H} {o : am_O} (hr : am_call rec kd d mid pc L st h (am_pm (am_oc mid) x) = some (o, h')) (hR : d.1 ≤ R.frames ∧ d.2 ≤ R.locals) {ls : Array Slot} (hl : am_L ad L (am_ml mid) ls) (hP : am_P S0 D base ad h H) (h2 : 2 ≤ h.length) (hlo : ∀ q ∈ locs, base ≤ q.base)
    (hc : cells + h'.length ≤ R.cells + h.length) (hz : slots + am_sz h' ≤ R.slots + am_sz h) :
    W p l e R s m args below meth c H locs cells slots (am_Q S0 D base ad below s o h' (cells + (h'.length - h.length)) (slots + (am_sz h' - am_sz h))) (F0 m pc ls (st.map (am_rv ad))) := by
  have hsize : ls.size = c.maxLocals := by
    obtain ⟨-, lv, h1, -⟩ := hl
    rw [h1.1]; exact hX.2.2.2.2.1.symm
  have hcn := hX.2.2.2.2.2.2.2.2.1
  have hown := findClass_of_methodNamed hX.2.2.1
  cases hq : am_pm (am_oc mid) x with
  | none => rw [hq] at hr; cases hr
  | some qk =>
    obtain ⟨q, k⟩ := qk
    rw [hq] at hr
    obtain ⟨f0, f1, f2⟩ := F.2.2.2.2.2.1 _ _ _ _ hq
    revert hr f0 f1 f2
    match q with
    | 0 =>
      intro hr f0 f1 f2
      obtain ⟨hk, hlk, hml, np, hnp, hkind⟩ := f0 rfl
      simp only [am_call] at hr
      split at hr
      · rename_i hcd
        simp only [Bool.and_eq_true] at hcd
        obtain ⟨c1, c2, c3, c4, c5, c6⟩ := hcd
        have c1 := Nat.eq_of_beq_eq_true c1
        have c2 : am_na k ≤ st.length := Nat.le_of_ble_eq_true c2
        have c3 : 1 ≤ d.1 := Nat.le_of_ble_eq_true c3
        have c4 : am_wt (st.drop (am_na k)) + (am_ml k + 11) ≤ d.2 := Nat.le_of_ble_eq_true c4
        have hst : st = ((st.take (am_na k)).reverse).reverse ++ st.drop (am_na k) := by rw [List.reverse_reverse, List.take_append_drop]
        have hkr : am_kns (st.take (am_na k)).reverse = true := am_kns_rev _ c5
        have hal : ((st.take (am_na k)).reverse).length = am_na k := by simp; omega
        generalize (st.take (am_na k)).reverse = as at *
        generalize st.drop (am_na k) = r at *
        subst hst
        cases hz1 : rec (d.1 - 1, d.2 - (am_wt r + (am_ml k + 11))) k 0 (as ++ List.replicate (am_ml k - am_na k) (.retAddr 0)) [] h with
        | none => rw [hz1] at hr; cases hr
        | some z =>
          obtain ⟨o1, h1⟩ := z
          rw [hz1] at hr
          have g1 := G _ _ _ _ _ _ _ _ hz1
          have g2 := am_back_gr G hr
          have hlok : am_lok mid x k := by unfold am_lok; rw [hcn]; exact hlk
          have hent : am_Ent p l e R s m args below meth c H locs cells slots k pc ls (as.map (am_rv ad)) (r.map (am_rv ad)) := by
            rcases hkind with ⟨e1, e2, e3⟩ | ⟨e1, e2, e3, e4, e5⟩ | ⟨e1, e2, e3, e4, e5, u, e6, e7⟩
            · rcases hik with ⟨i1, i2⟩ | ⟨i1, i2⟩ | ⟨i1, i2⟩
              · omega
              · omega
              · subst i2
                exact am_entS (as := as.map (am_rv ad)) (rest := r.map (am_rv ad)) (k := k) (x := x) (n := np) hZ hX hk e2 hlok hnp (by rw [List.length_map, hal, e3]) hd
            · rcases hik with ⟨i1, i2⟩ | ⟨i1, i2⟩ | ⟨i1, i2⟩
              · omega
              · subst i2
                obtain ⟨a, as', fs, rfl, ha⟩ := am_rcv_inv (by rw [e1]; decide) c6
                simp only [List.length_cons] at hal
                rw [List.map_cons]
                have hlen : (as'.map (am_rv ad)).length = np := by rw [List.length_map]; omega
                exact am_entI (a := ad a) (as := as'.map (am_rv ad)) (rest := r.map (am_rv ad)) (k := k) (x := x) (n := np) hZ hX hk e3 e2 e4 hlok hnp hlen hd
              · omega
            · rcases hik with ⟨i1, i2⟩ | ⟨i1, i2⟩ | ⟨i1, i2⟩
              · subst i2
                obtain ⟨a, as', fs, rfl, ha⟩ := am_rcv_inv (by rw [e1]; decide) c6
                have hcell := hP.2.1 a _ ha
                unfold am_cell at hcell
                rw [e5] at hcell
                obtain ⟨r1, r2, r3, cell, q1, q2, q3, q4⟩ := hcell
                cases Option.some.inj (r2.symm.trans e6)
                have hKc := (va_K.moved hX.2.1.alike hZ.2.1).1 _ _ e6
                simp only [List.length_cons] at hal
                rw [List.map_cons]
                have hlen : (as'.map (am_rv ad)).length = np := by rw [List.length_map]; omega
                have hcls : s.vm.findClass (am_y k).cls = some cell.cls := by rw [q2, ← e7]; exact hKc.2.1
                exact am_entV (a := ad a) (as := as'.map (am_rv ad)) (rest := r.map (am_rv ad)) (k := k) (x := x) (n := np) (cell := cell) hZ hX hk e2 e3 hlok hnp hlen q1 q3 hcls hd
              · omega
              · omega
          rw [List.map_append, List.map_reverse]
          rw [← hal] at hz1
          refine am_callW hZ IH hX hk hent hkr (by rw [hal]; exact hml) hsize hR c3 c4 hd hz1 g1.1 g1.2 (by omega) (by omega) hP h2 hlo ?_ ?_
          · rintro v rfl H1 locs1 hP1 hlo1
            have hr' : rec d mid (pc + 3) L (v.toList ++ r) h1 = some (o, h') := hr
            have hI := IH _ _ _ _ _ _ _ _ hr' R s m args below meth c H1 locs1 (cells + (h1.length - h.length)) (slots + (am_sz h1 - am_sz h)) ls hX hmok hR hl hP1 (by omega) hlo1 (by omega) (by omega)
            rw [show cells + (h'.length - h.length) = cells + (h1.length - h.length) + (h'.length - h1.length) by omega, show slots + (am_sz h' - am_sz h) = slots + (am_sz h1 - am_sz h) + (am_sz h' - am_sz h1) by omega]
            rw [List.map_append] at hI
            cases v <;> exact hI
          · rintro Xc rfl hlast T1 locs1 X1 hP1 hlo1
            have hpl : e.platform.magicAccessors = ({} : Platform).magicAccessors := by rw [X1.admits.platform]
            simp only [am_back] at hr
            split at hr
            · rename_i q hq1
              obtain ⟨hXr, hsc⟩ := am_hfind F hZ hX.2.1 hown hpl (am_hs mid) c.exceptionTable.toList hX.2.2.2.2.2.2.2.2.2 hq1
              have hlt : Xc < am_cl.length := Nat.lt_of_lt_of_le hXr.2 (by decide)
              obtain ⟨-, -, hat⟩ := F.2.2.2.2.2.2.2.2.1 Xc hXr.1 hXr.2 _ (List.getElem?_eq_getElem hlt)
              have hcell := hP1.2.1 _ _ hlast
              unfold am_cell at hcell
              rw [hat] at hcell
              obtain ⟨r1, r2, r3, cell, q1, q2, q3, q4⟩ := hcell
              have hKc := (va_K.moved hX.2.1.alike hZ.2.1).1 _ _ r2
              obtain ⟨-, kC, hkC, -⟩ := hKc.2
              rw [← q2] at hsc hkC
              obtain ⟨vm', X2, step⟩ := am_caught X1 (g := F0 m pc ls (r.map (am_rv ad))) rfl q1 (fun k z => by rw [q3] at z; cases z) ⟨kC, hkC⟩ hsc
              have hI := IH _ _ _ _ _ _ _ _ hr R s m args below meth c T1.heap locs1 (cells + (h1.length - h.length)) (slots + (am_sz h1 - am_sz h)) ls hX hmok hR hl hP1 (by omega) hlo1 (by omega) (by omega)
              rw [show cells + (h'.length - h.length) = cells + (h1.length - h.length) + (h'.length - h1.length) by omega, show slots + (am_sz h' - am_sz h) = slots + (am_sz h1 - am_sz h) + (am_sz h' - am_sz h1) by omega]
              obtain ⟨t, a1, b1⟩ := hI (T1.setVm vm') rfl X2
              exact ⟨t, step t a1, b1⟩
            · split at hr
              · cases hr
              · rename_i hcv
                cases hr
                have hcv : am_cov (am_hs mid) pc = false := by simpa using hcv
                obtain ⟨k1, k2, k3, k4, k5⟩ := X1.leaveThrown (ad (h'.length - 1)) (g := F0 m pc ls (r.map (am_rv ad))) rfl rfl rfl (am_hcov (am_hs mid) c.exceptionTable.toList hX.2.2.2.2.2.2.2.2.2 hcv) hX.2.2.2.2.2.2.1
                exact ⟨_, k1, _, locs1, k2, k3, ⟨rfl, hlast⟩, k4, k5, hlo1, hP1⟩
      · cases hr
    | 1 =>
      intro hr f0 f1 f2
      simp only [am_call] at hr
      split at hr
      · rename_i a r
        split at hr
        · rename_i hcd
          simp only [Bool.and_eq_true] at hcd
          have c1 := Nat.eq_of_beq_eq_true hcd.1
          have c2 : 1 ≤ d.1 := Nat.le_of_ble_eq_true hcd.2.1
          have c3 : am_wt r + 12 ≤ d.2 := Nat.le_of_ble_eq_true hcd.2.2
          rcases hik with ⟨i1, i2⟩ | ⟨i1, i2⟩ | ⟨i1, i2⟩
          · omega
          · subst i2
            exact am_objinit hZ hX (by rw [hcn]; exact f1 rfl) hsize hd (by omega) (by omega) (IH _ _ _ _ _ _ _ _ hr R s m args below meth c H locs cells slots ls hX hmok hR hl hP h2 hlo hc hz)
          · omega
        · cases hr
      · cases hr
    | 2 =>
      intro hr f0 f1 f2
      simp only [am_call] at hr
      split at hr
      · rename_i n dp b sp a r
        split at hr
        · rename_i hcd
          simp only [Bool.and_eq_true] at hcd
          have c1 := Nat.eq_of_beq_eq_true hcd.1
          have c2 : 1 ≤ d.1 := Nat.le_of_ble_eq_true hcd.2.1
          have c3 : am_wt r + 18 ≤ d.2 := Nat.le_of_ble_eq_true hcd.2.2
          split at hr
          · rename_i h1 hcp
            rcases hik with ⟨i1, i2⟩ | ⟨i1, i2⟩ | ⟨i1, i2⟩
            · omega
            · omega
            · subst i2
              refine am_arraycopy hZ hX (by rw [hcn]; exact f2 rfl) hsize hcp hP hlo hd (by omega) (by omega) (fun H' locs' hP' hlo' e1 e2 => ?_)
              have hI := IH _ _ _ _ _ _ _ _ hr R s m args below meth c H' locs' cells slots ls hX hmok hR hl hP' (by omega) hlo' (by omega) (by omega)
              rw [e1, e2] at hI
              exact hI
          · cases hr
        · cases hr
      · cases hr
    | n + 3 =>
      intro hr f0 f1 f2
      cases hr
theorem am_sound (F : am_Fc) (htr : e.platform.stackTraces = false) (hZ : am_Z S0 D base ad A0) : ∀ n : Nat, am_So p l e S0 D base ad (am_run n)
  | 0 => fun _ _ _ _ _ _ _ _ h => by cases h
  | n + 1 => fun d mid pc L st h o h' hr R s m args below meth c H locs cells slots ls hX hmok hR hl hP h2 hlo hc hz => by
    have IH := am_sound F htr hZ n
    have G := am_gr_run n
    have hr : am_body (am_run n) d mid pc L st h = some (o, h') := hr
    unfold am_body at hr
    split at hr
    · cases hr
    · rename_i i hi
      obtain ⟨len, hdec, hlen⟩ := F.1 mid pc i hi
      have hd : decode c.code pc = .ok (i, len) := by rw [hX.2.2.2.1]; exact hdec
      split at hr
      · rename_i pc1 L1 st1 h1 hs
        have g1 := am_step_gr hs
        have g2 := G _ _ _ _ _ _ _ _ hr
        refine am_disp F hX.1 i (am_ml mid) mid pc len L st h pc1 L1 st1 h1 ls hX hZ hd hlen hs hl hP h2 hlo (by omega) (by omega) (fun H' locs' cells' slots' ls' hl' hP' hle hlo' e1 e2 => ?_)
        rw [show cells + (h'.length - h.length) = cells' + (h'.length - h1.length) by omega, show slots + (am_sz h' - am_sz h) = slots' + (am_sz h' - am_sz h1) by omega]
        exact IH _ _ _ _ _ _ _ _ hr R s m args below meth c H' locs' cells' slots' ls' hX hmok hR hl' hP' (by omega) hlo' (by omega) (by omega)
      · unfold am_ctl at hr
        split at hr
        · split at hr
          · split at hr
            · rename_i hn
              cases hr
              obtain rfl : len = 1 := Nat.eq_of_beq_eq_true hlen
              rw [Nat.sub_self, Nat.sub_self]
              exact am_ireturn hX hP hlo hn hd
            · cases hr
          · cases hr
        · split at hr
          · split at hr
            · rename_i hn
              cases hr
              obtain rfl : len = 1 := Nat.eq_of_beq_eq_true hlen
              rw [Nat.sub_self, Nat.sub_self]
              exact am_return hX hP hlo hn hd
            · cases hr
          · cases hr
        · split at hr
          · split at hr
            · rename_i hn
              cases hr
              obtain rfl : len = 1 := Nat.eq_of_beq_eq_true hlen
              rw [Nat.sub_self, Nat.sub_self]
              exact am_areturn hX hP hlo hn hd
            · cases hr
          · cases hr
        · obtain rfl : len = 3 := Nat.eq_of_beq_eq_true hlen
          exact am_callS F hZ IH G hX hmok hd (Or.inl ⟨rfl, rfl⟩) hr hR hl hP h2 hlo hc hz
        · obtain rfl : len = 3 := Nat.eq_of_beq_eq_true hlen
          exact am_callS F hZ IH G hX hmok hd (Or.inr (Or.inl ⟨rfl, rfl⟩)) hr hR hl hP h2 hlo hc hz
        · obtain rfl : len = 3 := Nat.eq_of_beq_eq_true hlen
          exact am_callS F hZ IH G hX hmok hd (Or.inr (Or.inr ⟨rfl, rfl⟩)) hr hR hl hP h2 hlo hc hz
        · rename_i x hnone
          split at hr
          · rename_i X hpe
            split at hr
            · rename_i hcd
              cases hr
              simp only [Bool.and_eq_true] at hcd
              obtain ⟨c1, c2, c3, c4⟩ := hcd
              have c1 : 6 ≤ d.1 := Nat.le_of_ble_eq_true c1
              have c2 : am_wt st + 82 ≤ d.2 := Nat.le_of_ble_eq_true c2
              obtain rfl : len = 3 := Nat.eq_of_beq_eq_true hlen
              unfold am_thr at c3
              split at c3
              · rename_i it ic t1 t2 t3 t4
                obtain ⟨Xn, tx, hT0, hcl, hat, hns⟩ := F.2.2.2.2.2.2.1 mid pc x X it ic hi hpe t2 t3
                obtain ⟨n1, a1, b1⟩ := F.1 _ _ _ t1
                obtain ⟨n2, a2, b2⟩ := F.1 _ _ _ t2
                obtain ⟨n3, a3, b3⟩ := F.1 _ _ _ t3
                obtain ⟨n4, a4, b4⟩ := F.1 _ _ _ t4
                obtain rfl : n1 = 1 := Nat.eq_of_beq_eq_true b1
                obtain rfl : n2 = 2 := Nat.eq_of_beq_eq_true b2
                obtain rfl : n3 = 3 := Nat.eq_of_beq_eq_true b3
                obtain rfl : n4 = 1 := Nat.eq_of_beq_eq_true b4
                rw [← hX.2.2.2.1] at a1 a2 a3 a4
                have hout : c.exceptionTable.toList = [] := by
                  have hh := hX.2.2.2.2.2.2.2.2.2
                  unfold am_hok at hh
                  rw [List.isEmpty_iff.mp c4] at hh
                  cases hes : c.exceptionTable.toList with
                  | nil => rfl
                  | cons y ys => rw [hes] at hh; exact hh.elim
                have hsize : ls.size = c.maxLocals := by
                  obtain ⟨-, lv, h1, -⟩ := hl
                  rw [h1.1]; exact hX.2.2.2.2.1.symm
                have e1 : (h ++ [(X, [])]).length - h.length = 1 := by simp
                have e2 : am_sz (h ++ [(X, [])]) - am_sz h = 6 := by
                  rw [am_sz_app]
                  simp [am_sz, am_csz, hat, hns]
                rw [e1, e2]
                have e3 : (h ++ [(X, [])]).length = h.length + 1 := by simp
                have e4 : am_sz (h ++ [(X, [])]) = am_sz h + 6 := by
                  rw [am_sz_app]
                  simp [am_sz, am_csz, hat, hns]
                refine am_throw htr hZ hX hT0 hcl hat hns hout hP h2 hlo hsize (by rw [am_wt_eq]; omega) hd a1 a2 a3 a4 (by omega) (by omega) (by omega)
              · cases c3
            · cases hr
          · cases hr
        · cases hr
end AMZ
