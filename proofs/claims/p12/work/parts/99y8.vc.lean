/-! THE CLAIM OUT OF THE ABSTRACT MACHINE'S RUN -/
def R_law : String := "PassCheckerLaw"
def lw_P (b : Addr) (xs : List Int32) (args : Array Value) (s : State) : Prop := args = #[.ref b] ∧ s.IntsAt b xs ∧ xs.length ≤ 3584 ∧ (Jvm.Cond.and given_1 narrow_1).before args s = true
def lw_Q (_ : Array Value) (s : State) (o : Outcome) (t : State) : Prop := o = .returned (some (.int 1)) ∧ Framed s o t [] 601024 7293034
def lw_Z (below : List Frame) (a : Array Value) (s : State) : State → Prop := fun t => ∃ o, t.status = .running ∧ Ended t below o ∧ lw_Q a s o t
theorem am_known {s : State} {A0 : Array Value} (h : ∀ w ∈ am_tbl, w.before A0 s = true) : ∃ D : va_G, va_K D am_cl [] s := by
  have hn : ∀ (C : String) (w : Cond), w ∈ u_ws C am_F10 0 → w ∈ am_tbl := fun C w hw => by simp [u_ws] at hw
  obtain ⟨c0, i0, k0⟩ := u_known h am_cls0.2.2.1 (h (.instantiable "PassChecker" 8) (by decide +kernel))
  obtain ⟨c1, i1, k1⟩ := u_known h am_cls1.2.2.1 (h (.instantiable "PassChecker$Program" 4) (by decide +kernel))
  obtain ⟨c2, i2, k2⟩ := u_known h am_cls2.2.2.1 (h (.instantiable "PassChecker$Folder" 2) (by decide +kernel))
  obtain ⟨c3, i3, k3⟩ := u_known h am_cls3.2.2.1 (h (.instantiable "PassChecker$Reuser" 0) (by decide +kernel))
  obtain ⟨c4, i4, k4⟩ := u_known h am_cls4.2.2.1 (h (.instantiable "PassChecker$Orderer" 2) (by decide +kernel))
  obtain ⟨c5, i5, k5⟩ := u_known h am_cls5.2.2.1 (h (.instantiable "PassChecker$Checker" 9) (by decide +kernel))
  obtain ⟨c6, i6, k6⟩ := u_known h am_cls6.2.2.1 (h (.instantiable "PassChecker$Values" 9) (by decide +kernel))
  obtain ⟨c7, i7, k7⟩ := u_known h am_cls7.2.2.1 (h (.instantiable "PassChecker$Outcome" 10) (by decide +kernel))
  obtain ⟨c8, i8, k8⟩ := u_known h am_cls8.2.2.1 (h (.instantiable "PassChecker$Machine" 6) (by decide +kernel))
  obtain ⟨c9, i9, k9⟩ := u_known h am_cls9.2.2.1 (h (.instantiable "PassCheckerModel" 36) (by decide +kernel))
  obtain ⟨c10, i10, k10⟩ := u_known h (hn "java/lang/IndexOutOfBoundsException") (h (.instantiable "java/lang/IndexOutOfBoundsException" 6) (by decide +kernel))
  obtain ⟨c11, i11, k11⟩ := u_known h (hn "java/lang/IllegalStateException") (h (.instantiable "java/lang/IllegalStateException" 6) (by decide +kernel))
  obtain ⟨c12, i12, k12⟩ := u_known h (hn "java/lang/IllegalArgumentException") (h (.instantiable "java/lang/IllegalArgumentException" 6) (by decide +kernel))
  obtain ⟨c13, i13, k13⟩ := u_known h (hn "java/lang/UnsupportedOperationException") (h (.instantiable "java/lang/UnsupportedOperationException" 6) (by decide +kernel))
  refine ⟨(fun k => match k with
    | 0 => c0 | 1 => c1 | 2 => c2 | 3 => c3 | 4 => c4 | 5 => c5 | 6 => c6 | 7 => c7 | 8 => c8 | 9 => c9 | 10 => c10 | 11 => c11 | 12 => c12 | _ => c13, fun k => match k with
    | 0 => i0 | 1 => i1 | 2 => i2 | 3 => i3 | 4 => i4 | 5 => i5 | 6 => i6 | 7 => i7 | 8 => i8 | 9 => i9 | 10 => i10 | 11 => i11 | 12 => i12 | _ => i13), ?_, fun k q h => by simp at h⟩
  intro k q hq
  match k, hq with
  | 0, hq => cases hq; exact k0
  | 1, hq => cases hq; exact k1
  | 2, hq => cases hq; exact k2
  | 3, hq => cases hq; exact k3
  | 4, hq => cases hq; exact k4
  | 5, hq => cases hq; exact k5
  | 6, hq => cases hq; exact k6
  | 7, hq => cases hq; exact k7
  | 8, hq => cases hq; exact k8
  | 9, hq => cases hq; exact k9
  | 10, hq => cases hq; exact k10
  | 11, hq => cases hq; exact k11
  | 12, hq => cases hq; exact k12
  | 13, hq => cases hq; exact k13
  | k + 14, hq => simp [am_cl] at hq
/-- all words hold at the start -/
theorem am_words {s : State} {b : Nat} (hts : ∀ w ∈ lw_tbl, w.before #[Value.ref b] s = true) (hcode : (Cond.code x code maxLocals ret).before #[Value.ref b] s = true) (hgv : (Jvm.Cond.and given_1 narrow_1).before #[Value.ref b] s = true) : ∀ w ∈ am_tbl, w.before #[Value.ref b] s = true := by
  have hs := flat_of_before _ hgv
  intro w hw
  rcases List.mem_append.mp hw with h | h
  · exact hts w h
  · rcases List.mem_append.mp h with h | h
    · rcases List.mem_cons.mp h with rfl | h
      · exact hs _ (by decide +kernel)
      · rcases List.mem_cons.mp h with rfl | h
        · exact hs _ (by decide +kernel)
        · rcases List.mem_cons.mp h with rfl | h
          · exact hcode
          · exact absurd h List.not_mem_nil
    · exact hs _ ((show ∀ w ∈ am_nots, w ∈ _ by decide +kernel) w h)
/-- the addresses of the places -/
def lw_ad (b t base k : Nat) : Nat := if k = 0 then b else if k = 1 then t else base + (k - 2)
theorem lw_ad2 (b t base k : Nat) : lw_ad b t base (k + 2) = base + k := by
  unfold lw_ad
  rw [if_neg (show ¬ (k + 2 = 0) by omega), if_neg (show ¬ (k + 2 = 1) by omega)]
  simp
def lw_tkf (j : Nat) : Int32 := match j with
  | 4 => 3
  | 7 => 4
  | 8 => 2
  | _ => 1
/-- the table of TAKES, at the start -/
theorem lw_takes {s : State} {A : Array Value} (hgv : (Jvm.Cond.and given_1 narrow_1).before A s = true) : ∃ t : Nat, (Term.static "PassChecker$Orderer" "TAKES" "[I").eval A s none [] s = some (.ref t) ∧ ∃ cell : Cell, s.heap[t]? = some cell ∧ s.isArrayOf cell .int ∧ cell.vm ≠ .unknown ∧ 10 ≤ cell.slots.size ∧ cell.slots.size.toInt32 = Int32.ofNat 10 ∧ (∀ j : Nat, j < 10 → cell.slots[j]? = some (.int (lw_tkf j))) ∧ True := by
  have hs := flat_of_before _ hgv
  have harr : (Cond.arrayOf (.static "PassChecker$Orderer" "TAKES" "[I") .int).before A s = true := hs _ (by decide +kernel)
  have hlen : (Cond.eq (.length (.static "PassChecker$Orderer" "TAKES" "[I")) (.int 10)).before A s = true := hs _ (by decide +kernel)
  have h0 : (Cond.eq (.elem (.static "PassChecker$Orderer" "TAKES" "[I") (.int 0)) (.int 1)).before A s = true := hs _ (by decide +kernel)
  have h1 : (Cond.eq (.elem (.static "PassChecker$Orderer" "TAKES" "[I") (.int 1)) (.int 1)).before A s = true := hs _ (by decide +kernel)
  have h2 : (Cond.eq (.elem (.static "PassChecker$Orderer" "TAKES" "[I") (.int 2)) (.int 1)).before A s = true := hs _ (by decide +kernel)
  have h3 : (Cond.eq (.elem (.static "PassChecker$Orderer" "TAKES" "[I") (.int 3)) (.int 1)).before A s = true := hs _ (by decide +kernel)
  have h4 : (Cond.eq (.elem (.static "PassChecker$Orderer" "TAKES" "[I") (.int 4)) (.int 3)).before A s = true := hs _ (by decide +kernel)
  have h5 : (Cond.eq (.elem (.static "PassChecker$Orderer" "TAKES" "[I") (.int 5)) (.int 1)).before A s = true := hs _ (by decide +kernel)
  have h6 : (Cond.eq (.elem (.static "PassChecker$Orderer" "TAKES" "[I") (.int 6)) (.int 1)).before A s = true := hs _ (by decide +kernel)
  have h7 : (Cond.eq (.elem (.static "PassChecker$Orderer" "TAKES" "[I") (.int 7)) (.int 4)).before A s = true := hs _ (by decide +kernel)
  have h8 : (Cond.eq (.elem (.static "PassChecker$Orderer" "TAKES" "[I") (.int 8)) (.int 2)).before A s = true := hs _ (by decide +kernel)
  have h9 : (Cond.eq (.elem (.static "PassChecker$Orderer" "TAKES" "[I") (.int 9)) (.int 1)).before A s = true := hs _ (by decide +kernel)
  obtain ⟨t, ht, cell, c1, c2, c3, c4, c5, c6, _⟩ := va_Tof (N := 10) (f := fun j => .int (lw_tkf j)) (A := fun _ => False) (by decide) harr (va_eqt hlen) (fun j hj => by
    match j, hj with
    | 0, _ => exact va_eqt h0
    | 1, _ => exact va_eqt h1
    | 2, _ => exact va_eqt h2
    | 3, _ => exact va_eqt h3
    | 4, _ => exact va_eqt h4
    | 5, _ => exact va_eqt h5
    | 6, _ => exact va_eqt h6
    | 7, _ => exact va_eqt h7
    | 8, _ => exact va_eqt h8
    | 9, _ => exact va_eqt h9
    | j + 10, hj => omega) (fun _ _ h => h)
  exact ⟨t, ht, cell, c1, c2, c3, c4, c5, c6, trivial⟩
set_option maxHeartbeats 4000000 in
theorem lw_walk (l : Launch) (hfl : l.flags = flags0) (b : Addr) (xs : List Int32) : MetFree l x (headSpec (Jvm.Cond.code x code maxLocals ret :: tables_1) room_1) (lw_P b xs) (fun _ _ _ _ _ => True) lw_Q := by
  refine MetFree.of_bodyS (code := code) (maxLocals := maxLocals) (ret := ret) (by decide) ?_ ?_
  · intro args s m h hn
    obtain ⟨meth, c, h1, h2, h3, h4, h5, h6, -, -⟩ := Cond.code_spec hn (atoms_spec (ws := Jvm.Cond.code x code maxLocals ret :: tables_1) h _ List.mem_cons_self)
    exact ⟨meth, c, h1, h2, h3, h4, h5, h6⟩
  · intro p e s m args below meth c s₁ B hml0 hP _
    obtain ⟨rfl, hx, hbd, hgv⟩ := hP
    obtain ⟨scr, harrAt, hlist, hof, hsmall⟩ := hx
    obtain ⟨hcb, hkn, -, -⟩ := State.arrayAt?_spec harrAt
    have hts0 : ∀ c ∈ (Jvm.Cond.code x code maxLocals ret :: tables_1), c.before #[Value.ref b] s = true := atoms_spec (ws := Jvm.Cond.code x code maxLocals ret :: tables_1) B.pre
    have hts : ∀ w ∈ lw_tbl, w.before #[Value.ref b] s = true := k2_hts_sels lw_privs (fun w hw => hts0 w (List.mem_cons_of_mem _ hw)) lw_privs_ok
    have hwords := am_words hts (hts0 _ List.mem_cons_self) hgv
    have htr : e.platform.stackTraces = false := Launch.traces_off hfl B.admits
    obtain ⟨D, hK⟩ := am_known hwords
    have X₀ : Stand p l e room_1 s m #[Value.ref b] below meth c s₁ [] 0 0 := Stand.of_body B
    have hh0 : s₁.heap = s.heap := by rw [B.state]; rfl
    have hbl : b < s.heap.size := (Array.getElem?_eq_some_iff.mp hcb).1
    have hml : c.maxLocals = 7 := B.maxLocals_eq (hts0 _ List.mem_cons_self)
    obtain ⟨tk, htk, tcell, k1, k2, k3, k4, k5, k6, k7⟩ := lw_takes hgv
    have htl : tk < s.heap.size := (Array.getElem?_eq_some_iff.mp k1).1
    have hzt : va_Z "PassChecker$Orderer" "TAKES" "[I" (.ref tk) (fun q => s.heap.size ≤ q) s s.heap := va_Zref (args := #[Value.ref b]) (hts0 _ (List.mem_cons_of_mem _ (List.mem_of_getElem? (i := 589) (by decide +kernel)))) (hts0 _ (List.mem_cons_of_mem _ (List.mem_of_getElem? (i := 5) (by decide +kernel)))) htk (fun a ha => Nat.not_le.mpr ha)
    have hZ : am_Z s D s.heap.size (lw_ad b tk s.heap.size) #[Value.ref b] := ⟨hwords, hK, ⟨rfl, hzt⟩, fun k => lw_ad2 b tk s.heap.size k, hbl, htl⟩
    have hX : am_X p s s m meth c 0 := by
      refine ⟨B.exec, State.WarmedH.refl _, B.named, B.bytes, hml, B.returns, B.notSynchronized, B.method, (am_mok_all 0).2.2.2.2, ?_⟩
      obtain ⟨mt, ck, g1, g2, -, -, -, -, g7, -⟩ := Cond.code_spec B.named (hts0 _ List.mem_cons_self)
      cases Option.some.inj (B.method.symm.trans g1)
      cases Option.some.inj (X₀.code.symm.trans g2)
      have : c.exceptionTable = #[] := by simpa using g7
      rw [this]
      trivial
    obtain ⟨h', ⟨n, y, hrun, hy⟩, hlen, hsz⟩ := q_go xs hbd
    cases hy
    have hPs : am_P s D s.heap.size (lw_ad b tk s.heap.size) [(32, xs.map Value.int), lw_tk] s.heap := by
      have hc : am_cell s D (lw_ad b tk s.heap.size) b (32, xs.map Value.int) s.heap := by
        refine am_arr_cell (ty := .int) rfl hcb hof hkn ?_ ?_
        · apply Array.toList_inj.mp
          rw [hlist]
          simp [am_rv]
        · intro _ v hv
          obtain ⟨w, -, rfl⟩ := List.mem_map.mp hv
          rfl
      have hc1 : am_cell s D (lw_ad b tk s.heap.size) tk lw_tk s.heap := by
        refine am_arr_ext (ty := .int) (ext := tcell.slots.toList.drop 10) rfl k1 k2 k3 ?_ ?_ k5
        · apply Array.toList_inj.mp
          have e : tcell.slots.toList.take 10 = lw_tk.2.map (am_rv (lw_ad b tk s.heap.size)) := by
            apply List.ext_getElem?
            intro j
            by_cases hj : j < 10
            · rw [List.getElem?_take_of_lt hj, Array.getElem?_toList, k6 j hj, List.getElem?_map]
              match j, hj with
              | 0, _ => rfl
              | 1, _ => rfl
              | 2, _ => rfl
              | 3, _ => rfl
              | 4, _ => rfl
              | 5, _ => rfl
              | 6, _ => rfl
              | 7, _ => rfl
              | 8, _ => rfl
              | 9, _ => rfl
              | j + 10, hj => omega
            · rw [List.getElem?_eq_none (by rw [List.length_take]; omega), List.getElem?_eq_none (by rw [List.length_map]; show 10 ≤ j; omega)]
          show tcell.slots.toList = lw_tk.2.map (am_rv (lw_ad b tk s.heap.size)) ++ tcell.slots.toList.drop 10
          rw [← e, List.take_append_drop]
        · intro _ v hv
          simp only [lw_tk, List.mem_cons, List.not_mem_nil, or_false] at hv
          rcases hv with rfl | rfl | rfl | rfl | rfl | rfl | rfl | rfl | rfl | rfl <;> rfl
      refine ⟨rfl, ?_, fun a _ => rfl⟩
      intro k x hk
      match k, hk with
      | 0, hk => cases hk; exact hc
      | 1, hk => cases hk; exact hc1
      | k + 2, hk => simp at hk
    have hL := am_L.entry (ad := lw_ad b tk s.heap.size) (as := [.ref 0]) (n := 7) rfl (by decide)
    have K := am_sound (p := p) (l := l) am_facts htr hZ n _ _ _ _ _ _ _ _ hrun room_1 s m #[Value.ref b] below meth c s.heap [] 0 0 _ hX (am_mok_all 0) ⟨Nat.le_refl _, Nat.le_refl _⟩ hL hPs (Nat.le_refl _) (fun q hq => by cases hq) (by show 0 + h'.length ≤ 601024 + 2; omega) (by
      show 0 + am_sz h' ≤ 7293034 + _
      omega)
    obtain ⟨t, a1, oc, L, q1, q2, q3, q4, q5, q6, q7⟩ := K s₁ hh0 X₀
    have q3 : oc = .returned (some (.int 1)) := q3
    refine ⟨t, oc, ?_, q1, q2, q3, ⟨_, q3⟩, q4, ?_⟩
    · have he := lg_entry_eq m ([Value.ref b] : List Value) 7
      rw [show maxLocals = 7 from rfl]
      rw [he]
      exact a1
    · refine q5.weaken (fun q hq hlt => absurd (q6 q hq) (Nat.not_le.mpr hlt)) ?_ ?_
      · show 0 + (h'.length - 2) ≤ 601024
        omega
      · refine Nat.le_trans ?_ (Nat.le_trans hsz (show (50000 : Nat) ≤ 7293034 by decide))
        show 0 + (am_sz h' - _) ≤ am_sz h'
        omega
theorem lw_pre_spec {args : Array Value} {s : State} (h : (Jvm.Cond.and given_1 narrow_1).before args s = true) (hr : rest_1_c.before args s = true) : ∃ (b : Addr) (xs : List Int32), lw_P b xs args s := by
  have hs := flat_of_before _ h
  have hq := flat_of_before _ hr
  have hc : (Cond.count 1).before args s = true := hs _ (by decide +kernel)
  have harr : (Cond.arrayOf (.arg 0) .int).before args s = true := hs _ (by decide +kernel)
  have hle : (Cond.le (.length (.arg 0)) (.int 3584)).before args s = true := hs _ (by decide +kernel)
  have hlen : (Cond.isInt (.length (.arg 0))).before args s = true := hq _ (by decide +kernel)
  have hall : (Cond.all (.arg 0) (.isInt (.elem (.arg 0) (.index 0)))).before args s = true := hq _ (by decide +kernel)
  obtain ⟨b, xs, hb, hx⟩ := State.ints_of_pre rfl harr hlen hall
  have hsm : xs.length < 2 ^ 31 := hx.choose_spec.2.2.2
  have hev : (Term.length (.arg 0)).eval args s none [] s = some (.int xs.length.toInt32) := hx.length_eval hb
  have hv := Cond.le_ints hev (show (Term.int 3584).eval args s none [] s = some (.int 3584) from rfl)
  have hd : xs.length.toInt32 ≤ 3584 := by
    simpa [Cond.before, Cond.holds, hv] using hle
  have hN : xs.length ≤ 3584 := (Int32.ofNat_le_ofNat hsm (by decide)).mp (show Int32.ofNat xs.length ≤ Int32.ofNat 3584 from hd)
  exact ⟨b, xs, Cond.one_arg hc (show args[0]? = some (.ref b) from hb), hx, hN, h⟩
theorem lw_comes (l : Launch) (hfl : l.flags = flags0) : Comes l x (Jvm.Cond.code x code maxLocals ret :: tables_1) room_1 (fun tb e args s => Calls_1 tb e args s ∧ rest_1 tb e args s ∧ Pre_1 tb e args s)
    (fun _ _ args s o t => lw_Q args s o t) := by
  intro p e ha hc hk s m args below hf hfit hheap happ hpre
  obtain ⟨b, xs, hP⟩ := lw_pre_spec hpre.2.2 hpre.2.1
  obtain ⟨k, o, h1, h2, h3, hQ⟩ := lw_walk l hfl b xs p e ha hc hk s m args below hf ((Spec.applies_iff_loose hf).mp happ).1 hP trivial
  exact ⟨k, o, h1, h2, h3, hQ⟩
theorem lw_frame {s t : State} {o : Outcome} {args : Array Value} (h : Framed s o t [] 601024 7293034) :
    Framed s o t (fieldLocs frame_1_writes args s ++ arrayLocs frame_1_arrays args s ++ staticLocs frame_1_statics s) 601024 7293034 := h
theorem lw_limb (L : Cond) (hL : ∀ (args : Array Value) (s t : State), L.after args s (.returned (some (.int 1))) t = true) :
    ArmFor flags0 classFile x code maxLocals ret World_1 tables_1 room_1 Calls_1 rest_1 Pre_1
      (fun tb e a s o t => postC L tb e a s o t ∧ Framed s o t (fieldLocs frame_1_writes a s ++ arrayLocs frame_1_arrays a s ++ staticLocs frame_1_statics s) 601024 7293034) := by
  intro l hfl _ _ p e ha hc hk s m args below hf hfit hheap happ hpre
  obtain ⟨k, o, h1, h2, h3, rfl, hF⟩ := lw_comes l hfl p e ha hc hk s m args below hf hfit hheap happ hpre
  exact ⟨k, _, h1, h2, h3, hL args s _, lw_frame hF⟩
theorem i_vc : Claimed_1_1 ∧ Claimed_1_2 := ⟨lw_limb limb_1_1 (fun args s t => by simp [limb_1_1, Cond.after, Cond.holds, Cond.value]), lw_limb limb_1_2 (fun args s t => Cond.after_iff.mpr (by
  first | (rw [show limb_1_2 = Cond.eq .result (.int 1) from rfl, Cond.eq_ints (x := 1) (y := 1) rfl rfl]; simp; done) | (simp [limb_1_2, Cond.value, Term.eval]; done)))⟩
