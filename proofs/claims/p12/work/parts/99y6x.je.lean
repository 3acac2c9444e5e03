/-! AND, LESS: both sides -/
section EG
variable {v w v' w' : vm_V} {x x1 x2 : vm_Y}
theorem this_n {n a t : Nat} {z : Int32} (hV : VI n a v) (ht : t < n) : c_isThis v (Int32.ofNat t) z = 0 ↔ ¬ ((∀ k : Nat, k < 23 → 1 ≤ k → v.1 (21 + t) k = 0) ∧ v.1 (21 + t) 0 = z) := by
  have n22 := hV.2.2.2.1
  have ct : c_cell v (Int32.ofNat t) 0 = v.1 (21 + t) 0 := cell_n (t := t) (k := 0) (by omega) (by omega)
  unfold c_isThis
  rw [vnum_n hV ht, ct]
  by_cases c1 : ∀ k : Nat, k < 23 → 1 ≤ k → v.1 (21 + t) k = 0
  · rw [if_neg (fun q => bI_z.mp q c1)]
    by_cases c2 : v.1 (21 + t) 0 = z
    · rw [if_pos c2]
      exact ⟨fun q => absurd q i10, fun q => absurd ⟨c1, c2⟩ q⟩
    · rw [if_neg c2]
      exact ⟨fun _ q => c2 q.2, fun _ => rfl⟩
  · rw [if_pos (bI_z.mpr c1)]
    exact ⟨fun _ q => c1 q.1, fun _ => rfl⟩
/-- value t is the number z -/
def tI (v : vm_V) (t : Nat) (z : Int32) : Prop := (∀ k : Nat, k < 23 → 1 ≤ k → v.1 (21 + t) k = 0) ∧ v.1 (21 + t) 0 = z
/-- makeAnd -/
theorem mk_an {n a l r : Nat} (hV : VI n a v) (hn : n < 22) (hl : l < n) (hr : r < n) (e : vE 106 0 [.ref 19, .int (Int32.ofNat l), .int (Int32.ofNat r)] [] v x) : ((l = r ∨ tI v l 0 ∨ tI v r (-1)) → x = vr (Int32.ofNat l) v) ∧ (¬ (l = r ∨ tI v l 0 ∨ tI v r (-1)) → (tI v r 0 ∨ tI v l (-1)) → x = vr (Int32.ofNat r) v) ∧ (¬ (l = r ∨ tI v l 0 ∨ tI v r (-1)) → ¬ (tI v r 0 ∨ tI v l (-1)) → vE 88 0 [.ref 19, .int 5, .int (Int32.ofNat (min l r)), .int (Int32.ofNat (max l r)), .retAddr 0, .retAddr 0] [] v x) := by
  have n22 := hV.2.2.2.1
  simp only [q106_0, q106_1, q106_2] at e
  by_cases c1 : l = r
  · rw [if_pos (by rw [c1])] at e
    simp only [q106_23, q106_24] at e
    exact ⟨fun _ => e, fun q => absurd (Or.inl c1) q, fun q => absurd (Or.inl c1) q⟩
  · rw [if_neg (fun q => c1 (on_inj (by omega) (by omega) q))] at e
    simp only [q106_5, q106_6, q106_7, q106_8, ct107, exists_eq_left, vB_r, Nat.reduceAdd, q106_11] at e
    by_cases c2 : tI v l 0
    · rw [if_neg (fun q => (this_n hV hl).mp q c2)] at e
      simp only [q106_23, q106_24] at e
      exact ⟨fun _ => e, fun q => absurd (Or.inr (Or.inl c2)) q, fun q => absurd (Or.inr (Or.inl c2)) q⟩
    · rw [if_pos ((this_n hV hl).mpr c2)] at e
      simp only [q106_14, q106_15, q106_16, q106_17, ct107, exists_eq_left, vB_r, Nat.reduceAdd, q106_20] at e
      by_cases c3 : tI v r (-1)
      · rw [if_neg (fun q => (this_n hV hr).mp q c3)] at e
        simp only [q106_23, q106_24] at e
        exact ⟨fun _ => e, fun q => absurd (Or.inr (Or.inr c3)) q, fun q => absurd (Or.inr (Or.inr c3)) q⟩
      · rw [if_pos ((this_n hV hr).mpr c3)] at e
        have no : ¬ (l = r ∨ tI v l 0 ∨ tI v r (-1)) := fun q => by
          rcases q with q | q | q
          · exact c1 q
          · exact c2 q
          · exact c3 q
        refine ⟨fun q => absurd q no, fun _ q => ?_, fun _ q => ?_⟩
        · simp only [q106_25, q106_26, q106_27, q106_28, ct107, exists_eq_left, vB_r, Nat.reduceAdd, q106_31] at e
          by_cases d1 : tI v r 0
          · rw [if_neg (fun q => (this_n hV hr).mp q d1)] at e
            simpa only [q106_43, q106_44] using e
          · rw [if_pos ((this_n hV hr).mpr d1)] at e
            simp only [q106_34, q106_35, q106_36, q106_37, ct107, exists_eq_left, vB_r, Nat.reduceAdd, q106_40] at e
            have d2 : tI v l (-1) := by
              rcases q with q | q
              · exact absurd q d1
              · exact q
            rw [if_neg (fun q => (this_n hV hl).mp q d2)] at e
            simpa only [q106_43, q106_44] using e
        · simp only [q106_25, q106_26, q106_27, q106_28, ct107, exists_eq_left, vB_r, Nat.reduceAdd, q106_31] at e
          rw [if_pos ((this_n hV hr).mpr (fun z => q (Or.inl z)))] at e
          simp only [q106_34, q106_35, q106_36, q106_37, ct107, exists_eq_left, vB_r, Nat.reduceAdd, q106_40] at e
          rw [if_pos ((this_n hV hl).mpr (fun z => q (Or.inr z)))] at e
          simp only [q106_45, q106_46, q106_47, q106_48, q106_49, ct64, exists_eq_left, vB_r, Nat.reduceAdd, q106_52, q106_53, q106_54, ct67, q106_57, min_n (show l < 100 by omega) (show r < 100 by omega), max_n (show l < 100 by omega) (show r < 100 by omega)] at e
          obtain ⟨y, e1, e2⟩ := e
          obtain ⟨s', v', rfl⟩ := at_v (mk_at hV hn e1)
          simp only [vB_r, Nat.reduceAdd, q106_60] at e2
          rw [e2]
          exact e1
theorem s0e {z : Int32} : vE 179 0 [.ref 77, .int 0, .int z, .retAddr 0] [] w x ↔ x = vd (v_up 77 0 24 (fun k => if k = 0 then z else 0) w) := ct179 (p := 77) (i := 0) (z := z) (by omega)
theorem m0e {i : Nat} (hi : i < 1000) : vE 183 0 [.ref 72, .int (Int32.ofNat i), .ref 77, .int 0, .retAddr 0] [] w x ↔ x = vd (v_up 77 0 24 (fun k => w.1 72 (i + k)) w) := ct183 (p := 72) (q := 77) (i := i) (j := 0) (by omega) hi (by omega)
/-- AND, the reference's -/
theorem rc_5 {n a l r i j : Nat} (hV : VI n a v) (hn : n < 22) (hA : AR n a v w) (hl : l < n) (hr : r < n) (hi : i < 1000) (hj : j < 1000) (h1 : sv v w l 72 i) (h2 : sv v w r 72 j) (e : vE 191 0 [.ref 64, .int 5, .int (Int32.ofNat i), .int (Int32.ofNat j), .retAddr 0, .retAddr 0, .retAddr 0, .retAddr 0, .retAddr 0, .retAddr 0] [] w x) : ((∀ k : Nat, k < 23 → 1 ≤ k → v.1 (21 + l) k = 0) → (∀ k : Nat, k < 23 → 1 ≤ k → v.1 (21 + r) k = 0) → x = vd (v_up 77 0 24 (fun k => if k = 0 then r_rk5 w (w.1 72 i) (w.1 72 j) else 0) w)) ∧ (¬ ((∀ k : Nat, k < 23 → 1 ≤ k → v.1 (21 + l) k = 0) ∧ (∀ k : Nat, k < 23 → 1 ≤ k → v.1 (21 + r) k = 0)) → (l = r → x = vd (v_up 77 0 24 (fun k => w.1 72 (i + k)) w)) ∧ (¬ l = r → (tI v l 0 ∨ tI v r 0) → x = vd (v_up 77 0 24 (fun k => if k = 0 then 0 else 0) w)) ∧ (¬ l = r → ¬ (tI v l 0 ∨ tI v r 0) → tI v l (-1) → x = vd (v_up 77 0 24 (fun k => w.1 72 (j + k)) w)) ∧ (¬ l = r → ¬ (tI v l 0 ∨ tI v r 0) → ¬ tI v l (-1) → tI v r (-1) → x = vd (v_up 77 0 24 (fun k => w.1 72 (i + k)) w)) ∧ (¬ l = r → ¬ (tI v l 0 ∨ tI v r 0) → ¬ tI v l (-1) → ¬ tI v r (-1) → ∃ y : vm_Y, vE 188 0 [.ref 64, .int 5, .ref 72, .int (Int32.ofNat i), .ref 72, .int (Int32.ofNat j), .retAddr 0, .retAddr 0] [] w y ∧ ∃ (c : Int32) (w1 : vm_V), y = vr c w1 ∧ vE 189 0 [.ref 64, .int c] [] w1 x)) := by
  have wi : w.1 72 i = v.1 (21 + l) 0 := sv_0 h1
  have wj : w.1 72 j = v.1 (21 + r) 0 := sv_0 h2
  have ni := nn_nat (show i < 2147483648 by omega)
  have nj := nn_nat (show j < 2147483648 by omega)
  rw [rc_0 hi hj] at e
  simp only [q191_35, q191_36, q191_37] at e
  rw [if_neg (show ¬ (5 : Int32) = 2 from by decide)] at e
  simp only [q191_40, q191_41, q191_42] at e
  rw [if_neg (show ¬ (5 : Int32) = 3 from by decide)] at e
  simp only [q191_117, q191_118, q191_119] at e
  rw [if_neg (show ¬ (5 : Int32) = 4 from by decide)] at e
  simp only [q191_205, q191_207] at e
  constructor
  · intro c1 c2
    rw [if_neg (fun z => (nz1 h1).mp z c1)] at e
    simp only [q191_210, q191_212] at e
    rw [if_neg (fun z => (nz1 h2).mp z c2)] at e
    simp only [q191_215, q191_216, q191_218] at e
    rw [if_neg (show ¬ (7 : Int32) ≤ 5 from by decide)] at e
    simpa only [q191_221, q191_222, q191_225, q191_226, q191_227, q191_228, q191_231, q191_232, q191_233, q191_234, q191_237, q191_238, q191_239, ct166_5, exists_eq_left, vB_r, Nat.reduceAdd, q191_242, s0e, vB_d, q191_245, q191_431, ni, nj] using e
  · intro nb
    have go : vE 191 248 [.ref 64, .int 5, .int (Int32.ofNat i), .int (Int32.ofNat j), .int (bI (∀ k : Nat, k < 24 → 1 ≤ k → w.1 72 (i + k) = 0)), .int (bI (∀ k : Nat, k < 24 → 1 ≤ k → w.1 72 (j + k) = 0)), .int (bI (∀ k : Nat, k < 24 → w.1 72 (i + k) = w.1 72 (j + k))), .retAddr 0, .retAddr 0, .retAddr 0] [] w x := by
      by_cases c1 : ∀ k : Nat, k < 23 → 1 ≤ k → v.1 (21 + l) k = 0
      · rw [if_neg (fun z => (nz1 h1).mp z c1)] at e
        simp only [q191_210, q191_212] at e
        rw [if_pos ((nz1 h2).mpr (fun z => nb ⟨c1, z⟩))] at e
        exact e
      · rw [if_pos ((nz1 h1).mpr c1)] at e
        exact e
    clear e
    simp only [q191_248, q191_249, q191_250] at go
    rw [if_pos trivial] at go
    simp only [q191_253, q191_255] at go
    refine ⟨fun eq => ?_, ?_⟩
    · rw [if_neg (fun z => (sz1 hV hl hr h1 h2).mp z eq)] at go
      simpa only [q191_258, q191_259, q191_262, q191_263, q191_264, q191_267, q191_268, Nat.reduceAdd, m0e hi, exists_eq_left, vB_d, q191_271, q191_431] using go
    · by_cases eq : l = r
      · exact ⟨fun z => absurd eq z, fun z => absurd eq z, fun z => absurd eq z, fun z => absurd eq z⟩
      · rw [if_pos ((sz1 hV hl hr h1 h2).mpr eq)] at go
        simp only [q191_274, q191_275, q191_276] at go
        rw [if_pos trivial] at go
        simp only [q191_279, q191_281] at go
        have zero : vE 191 307 [.ref 64, .int 5, .int (Int32.ofNat i), .int (Int32.ofNat j), .int (bI (∀ k : Nat, k < 24 → 1 ≤ k → w.1 72 (i + k) = 0)), .int (bI (∀ k : Nat, k < 24 → 1 ≤ k → w.1 72 (j + k) = 0)), .int (bI (∀ k : Nat, k < 24 → w.1 72 (i + k) = w.1 72 (j + k))), .retAddr 0, .retAddr 0, .retAddr 0] [] w x → x = vd (v_up 77 0 24 (fun k => if k = 0 then 0 else 0) w) := fun e => by
          simpa only [q191_307, q191_308, q191_311, q191_312, q191_313, Nat.reduceAdd, s0e, exists_eq_left, vB_d, q191_316, q191_431] using e
        have at293 : ¬ tI v l 0 → vE 191 293 [.ref 64, .int 5, .int (Int32.ofNat i), .int (Int32.ofNat j), .int (bI (∀ k : Nat, k < 24 → 1 ≤ k → w.1 72 (i + k) = 0)), .int (bI (∀ k : Nat, k < 24 → 1 ≤ k → w.1 72 (j + k) = 0)), .int (bI (∀ k : Nat, k < 24 → w.1 72 (i + k) = w.1 72 (j + k))), .retAddr 0, .retAddr 0, .retAddr 0] [] w x := fun hno => by
          by_cases c1 : ∀ k : Nat, k < 23 → 1 ≤ k → v.1 (21 + l) k = 0
          · rw [if_neg (fun z => (nz1 h1).mp z c1)] at go
            simp only [q191_284, q191_285, q191_288, q191_289, q191_290, Nat.reduceAdd, ni] at go
            rw [if_neg (fun z => hno ⟨c1, wi.symm.trans z⟩)] at go
            exact go
          · rw [if_pos ((nz1 h1).mpr c1)] at go
            exact go
        have at319 : ¬ tI v l 0 → ¬ tI v r 0 → vE 191 319 [.ref 64, .int 5, .int (Int32.ofNat i), .int (Int32.ofNat j), .int (bI (∀ k : Nat, k < 24 → 1 ≤ k → w.1 72 (i + k) = 0)), .int (bI (∀ k : Nat, k < 24 → 1 ≤ k → w.1 72 (j + k) = 0)), .int (bI (∀ k : Nat, k < 24 → w.1 72 (i + k) = w.1 72 (j + k))), .retAddr 0, .retAddr 0, .retAddr 0] [] w x := fun hn1 hn2 => by
          have g := at293 hn1
          simp only [q191_293, q191_295] at g
          by_cases c2 : ∀ k : Nat, k < 23 → 1 ≤ k → v.1 (21 + r) k = 0
          · rw [if_neg (fun z => (nz1 h2).mp z c2)] at g
            simp only [q191_298, q191_299, q191_302, q191_303, q191_304, Nat.reduceAdd, nj] at g
            rw [if_neg (fun z => hn2 ⟨c2, wj.symm.trans z⟩)] at g
            exact g
          · rw [if_pos ((nz1 h2).mpr c2)] at g
            exact g
        have at339 : ¬ tI v l 0 → ¬ tI v r 0 → ¬ tI v l (-1) → vE 191 339 [.ref 64, .int 5, .int (Int32.ofNat i), .int (Int32.ofNat j), .int (bI (∀ k : Nat, k < 24 → 1 ≤ k → w.1 72 (i + k) = 0)), .int (bI (∀ k : Nat, k < 24 → 1 ≤ k → w.1 72 (j + k) = 0)), .int (bI (∀ k : Nat, k < 24 → w.1 72 (i + k) = w.1 72 (j + k))), .retAddr 0, .retAddr 0, .retAddr 0] [] w x := fun hn1 hn2 hn3 => by
          have g := at319 hn1 hn2
          simp only [q191_319, q191_320, q191_321] at g
          rw [if_pos trivial] at g
          simp only [q191_324, q191_326] at g
          by_cases c1 : ∀ k : Nat, k < 23 → 1 ≤ k → v.1 (21 + l) k = 0
          · rw [if_neg (fun z => (nz1 h1).mp z c1)] at g
            simp only [q191_329, q191_330, q191_333, q191_334, q191_335, q191_336, Nat.reduceAdd, ni] at g
            rw [if_neg (fun z => hn3 ⟨c1, wi.symm.trans z⟩)] at g
            exact g
          · rw [if_pos ((nz1 h1).mpr c1)] at g
            exact g
        refine ⟨fun _ q => ?_, fun _ q c1 => ?_, fun _ q c1 c2 => ?_, fun _ q c1 c2 => ?_⟩
        · by_cases t1 : tI v l 0
          · rw [if_neg (fun z => (nz1 h1).mp z t1.1)] at go
            simp only [q191_284, q191_285, q191_288, q191_289, q191_290, Nat.reduceAdd, ni] at go
            rw [if_pos (wi.trans t1.2)] at go
            exact zero go
          · have g := at293 t1
            have t2 : tI v r 0 := by
              rcases q with q | q
              · exact absurd q t1
              · exact q
            simp only [q191_293, q191_295] at g
            rw [if_neg (fun z => (nz1 h2).mp z t2.1)] at g
            simp only [q191_298, q191_299, q191_302, q191_303, q191_304, Nat.reduceAdd, nj] at g
            rw [if_pos (wj.trans t2.2)] at g
            exact zero g
        · have g := at319 (fun z => q (Or.inl z)) (fun z => q (Or.inr z))
          simp only [q191_319, q191_320, q191_321] at g
          rw [if_pos trivial] at g
          simp only [q191_324, q191_326] at g
          rw [if_neg (fun z => (nz1 h1).mp z c1.1)] at g
          simp only [q191_329, q191_330, q191_333, q191_334, q191_335, q191_336, Nat.reduceAdd, ni] at g
          rw [if_pos (wi.trans c1.2)] at g
          simp only [q191_354, q191_355, q191_358, q191_360, Nat.reduceAdd] at g
          rw [if_neg (fun z => (nz1 h1).mp z c1.1)] at g
          simp only [q191_363, q191_364, q191_367, q191_368, q191_369, q191_370, Nat.reduceAdd, ni] at g
          rw [if_pos (wi.trans c1.2)] at g
          simpa only [q191_373, q191_374, q191_378, q191_379, q191_382, q191_383, Nat.reduceAdd, m0e hj, exists_eq_left, vB_d, q191_386, q191_431] using g
        · have g := at339 (fun z => q (Or.inl z)) (fun z => q (Or.inr z)) c1
          simp only [q191_339, q191_341] at g
          rw [if_neg (fun z => (nz1 h2).mp z c2.1)] at g
          simp only [q191_344, q191_345, q191_348, q191_349, q191_350, q191_351, Nat.reduceAdd, nj] at g
          rw [if_pos (wj.trans c2.2)] at g
          simp only [q191_354, q191_355, q191_358, q191_360, Nat.reduceAdd] at g
          by_cases d1 : ∀ k : Nat, k < 23 → 1 ≤ k → v.1 (21 + l) k = 0
          · rw [if_neg (fun z => (nz1 h1).mp z d1)] at g
            simp only [q191_363, q191_364, q191_367, q191_368, q191_369, q191_370, Nat.reduceAdd, ni] at g
            rw [if_neg (fun z => c1 ⟨d1, wi.symm.trans z⟩)] at g
            simpa only [q191_377, q191_378, q191_379, q191_382, q191_383, Nat.reduceAdd, m0e hi, exists_eq_left, vB_d, q191_386, q191_431] using g
          · rw [if_pos ((nz1 h1).mpr d1)] at g
            simpa only [q191_377, q191_378, q191_379, q191_382, q191_383, Nat.reduceAdd, m0e hi, exists_eq_left, vB_d, q191_386, q191_431] using g
        · have g := at339 (fun z => q (Or.inl z)) (fun z => q (Or.inr z)) c1
          have g2 : vE 191 389 [.ref 64, .int 5, .int (Int32.ofNat i), .int (Int32.ofNat j), .int (bI (∀ k : Nat, k < 24 → 1 ≤ k → w.1 72 (i + k) = 0)), .int (bI (∀ k : Nat, k < 24 → 1 ≤ k → w.1 72 (j + k) = 0)), .int (bI (∀ k : Nat, k < 24 → w.1 72 (i + k) = w.1 72 (j + k))), .retAddr 0, .retAddr 0, .retAddr 0] [] w x := by
            simp only [q191_339, q191_341] at g
            by_cases d2 : ∀ k : Nat, k < 23 → 1 ≤ k → v.1 (21 + r) k = 0
            · rw [if_neg (fun z => (nz1 h2).mp z d2)] at g
              simp only [q191_344, q191_345, q191_348, q191_349, q191_350, q191_351, Nat.reduceAdd, nj] at g
              rw [if_neg (fun z => c2 ⟨d2, wj.symm.trans z⟩)] at g
              exact g
            · rw [if_pos ((nz1 h2).mpr d2)] at g
              exact g
          simp only [q191_389, q191_390, q191_392] at g2
          rw [if_neg (show ¬ (5 : Int32) = 6 from by decide)] at g2
          exact rc_at hV hn hA hi hj g2
theorem tI_rx {t k : Nat} {z : Int32} (h : tI v t z) (hk : k < 24) : rx v t k = if k = 0 then z else 0 := by
  unfold rx
  by_cases e : k < 23
  · rw [if_pos e]
    by_cases k0 : k = 0
    · rw [if_pos k0, k0]
      exact h.2
    · rw [if_neg k0]
      exact h.1 k e (by omega)
  · rw [if_neg e, if_neg (by omega)]
theorem jc_5 {n a l r o i j : Nat} (hV : VI n a v) (hn : n < 22) (hA : AR n a v w) (hl : l < n) (hr : r < n) (hi : i < 1000) (hj : j < 1000) (h1 : sv v w l 72 i) (h2 : sv v w r 72 j) (e1 : vE 103 0 [.ref o, .ref 19, .int 5, .int (Int32.ofNat l), .int (Int32.ofNat r), .retAddr 0] [] v x1) (e2 : vE 191 0 [.ref 64, .int 5, .int (Int32.ofNat i), .int (Int32.ofNat j), .retAddr 0, .retAddr 0, .retAddr 0, .retAddr 0, .retAddr 0, .retAddr 0] [] w x2) : JR n a v w x1 x2 := by
  obtain ⟨R1, R2⟩ := rc_5 hV hn hA hl hr hi hj h1 h2 e2
  have wi : w.1 72 i = v.1 (21 + l) 0 := sv_0 h1
  have wj : w.1 72 j = v.1 (21 + r) 0 := sv_0 h2
  rcases cc_x hV hn hl hr e1 with ⟨_, c2, c3, _, m⟩ | ⟨c1, z, e1⟩
  · refine jk hA m (R1 c2 c3) (fun k hk => ?_) rfl
    by_cases k0 : k = 0
    · rw [if_pos k0, if_pos k0, wi, wj]
      rfl
    · rw [if_neg k0, if_neg k0]
  · have nb : ¬ ((∀ k : Nat, k < 23 → 1 ≤ k → v.1 (21 + l) k = 0) ∧ (∀ k : Nat, k < 23 → 1 ≤ k → v.1 (21 + r) k = 0)) := by
      rcases c1 with c1 | c1 | c1
      · exact absurd c1 (by unfold c_isCalc; decide)
      · exact c1
      · exact absurd (show c_divZero v 5 (v.1 (21 + r) 0) = 0 from if_neg (by decide)) c1
    obtain ⟨Q1, Q2, Q3, Q4, Q5⟩ := R2 nb
    simp only [q103_69, q103_70] at e1
    rw [if_neg (show ¬ (5 : Int32) = 2 from by decide), if_neg (show ¬ (5 : Int32) = 3 from by decide), if_neg (show ¬ (5 : Int32) = 4 from by decide), if_pos trivial] at e1
    simp only [q103_138, q103_139, q103_140, q103_142] at e1
    obtain ⟨y, e3, e4⟩ := e1
    obtain ⟨P1, P2, P3⟩ := mk_an hV hn hl hr e3
    have dl : (l = r ∨ tI v l 0 ∨ tI v r (-1)) → x1 = vr (Int32.ofNat l) v := fun q => by
      rw [P1 q] at e4
      simpa only [vB_r, Nat.reduceAdd, q103_145] using e4
    have dr : ¬ (l = r ∨ tI v l 0 ∨ tI v r (-1)) → (tI v r 0 ∨ tI v l (-1)) → x1 = vr (Int32.ofNat r) v := fun q q2 => by
      rw [P2 q q2] at e4
      simpa only [vB_r, Nat.reduceAdd, q103_145] using e4
    by_cases eq : l = r
    · exact jm hV hA hl (dl (Or.inl eq)) (Q1 eq) (fun k hk => h1 k hk)
    · by_cases t1 : tI v l 0
      · refine jm hV hA hl (dl (Or.inr (Or.inl t1))) (Q2 eq (Or.inl t1)) (fun k hk => ?_)
        rw [tI_rx t1 hk]
      · by_cases t2 : tI v r 0
        · have no : ¬ (l = r ∨ tI v l 0 ∨ tI v r (-1)) := fun q => by
            rcases q with q | q | q
            · exact eq q
            · exact t1 q
            · exact absurd (t2.2.symm.trans q.2) (by decide)
          refine jm hV hA hr (dr no (Or.inl t2)) (Q2 eq (Or.inr t2)) (fun k hk => ?_)
          rw [tI_rx t2 hk]
        · have no2 : ¬ (tI v l 0 ∨ tI v r 0) := fun q => by
            rcases q with q | q
            · exact t1 q
            · exact t2 q
          by_cases t3 : tI v l (-1)
          · have no : ¬ (l = r ∨ tI v l 0 ∨ tI v r (-1)) := fun q => by
              rcases q with q | q | q
              · exact eq q
              · exact t1 q
              · exact nb ⟨t3.1, q.1⟩
            exact jm hV hA hr (dr no (Or.inr t3)) (Q3 eq no2 t3) (fun k hk => h2 k hk)
          · by_cases t4 : tI v r (-1)
            · exact jm hV hA hl (dl (Or.inr (Or.inr t4))) (Q4 eq no2 t3 t4) (fun k hk => h1 k hk)
            · have no : ¬ (l = r ∨ tI v l 0 ∨ tI v r (-1)) := fun q => by
                rcases q with q | q | q
                · exact eq q
                · exact t1 q
                · exact t4 q
              have no3 : ¬ (tI v r 0 ∨ tI v l (-1)) := fun q => by
                rcases q with q | q
                · exact t2 q
                · exact t3 q
              have e5 := P3 no no3
              obtain ⟨s', v', rfl⟩ := at_v (mk_at hV hn e5)
              simp only [vB_r, Nat.reduceAdd, q103_145] at e4
              rw [e4]
              exact jb hV hn hA (by omega) (by omega) hi hj (by decide) (ne_s (Or.inr rfl) hl hr h1 h2) e5 (Q5 eq no2 t3 t4)
theorem jc_6 {n a l r o i j : Nat} (hV : VI n a v) (hn : n < 22) (hA : AR n a v w) (hl : l < n) (hr : r < n) (hi : i < 1000) (hj : j < 1000) (h1 : sv v w l 72 i) (h2 : sv v w r 72 j) (e1 : vE 103 0 [.ref o, .ref 19, .int 6, .int (Int32.ofNat l), .int (Int32.ofNat r), .retAddr 0] [] v x1) (e2 : vE 191 0 [.ref 64, .int 6, .int (Int32.ofNat i), .int (Int32.ofNat j), .retAddr 0, .retAddr 0, .retAddr 0, .retAddr 0, .retAddr 0, .retAddr 0] [] w x2) : JR n a v w x1 x2 := by
  have n22 := hV.2.2.2.1
  have wi : w.1 72 i = v.1 (21 + l) 0 := sv_0 h1
  have wj : w.1 72 j = v.1 (21 + r) 0 := sv_0 h2
  have ni := nn_nat (show i < 2147483648 by omega)
  have nj := nn_nat (show j < 2147483648 by omega)
  rw [rc_0 hi hj] at e2
  simp only [q191_35, q191_36, q191_37] at e2
  rw [if_neg (show ¬ (6 : Int32) = 2 from by decide)] at e2
  simp only [q191_40, q191_41, q191_42] at e2
  rw [if_neg (show ¬ (6 : Int32) = 3 from by decide)] at e2
  simp only [q191_117, q191_118, q191_119] at e2
  rw [if_neg (show ¬ (6 : Int32) = 4 from by decide)] at e2
  simp only [q191_205, q191_207] at e2
  rcases cc_x hV hn hl hr e1 with ⟨_, c2, c3, _, m⟩ | ⟨c1, z, e1⟩
  · rw [if_neg (fun z => (nz1 h1).mp z c2)] at e2
    simp only [q191_210, q191_212] at e2
    rw [if_neg (fun z => (nz1 h2).mp z c3)] at e2
    simp only [q191_215, q191_216, q191_218] at e2
    rw [if_neg (show ¬ (7 : Int32) ≤ 6 from by decide)] at e2
    simp only [q191_221, q191_222, q191_225, q191_226, q191_227, q191_228, q191_231, q191_232, q191_233, q191_234, q191_237, q191_238, q191_239, ct166_6, exists_eq_left, vB_r, Nat.reduceAdd, q191_242, s0e, vB_d, q191_245, q191_431, ni, nj] at e2
    refine jk hA m e2 (fun k hk => ?_) rfl
    by_cases k0 : k = 0
    · rw [if_pos k0, if_pos k0, wi, wj]
      rfl
    · rw [if_neg k0, if_neg k0]
  · have nb : ¬ ((∀ k : Nat, k < 23 → 1 ≤ k → v.1 (21 + l) k = 0) ∧ (∀ k : Nat, k < 23 → 1 ≤ k → v.1 (21 + r) k = 0)) := by
      rcases c1 with c1 | c1 | c1
      · exact absurd c1 (by unfold c_isCalc; decide)
      · exact c1
      · exact absurd (show c_divZero v 6 (v.1 (21 + r) 0) = 0 from if_neg (by decide)) c1
    have go : vE 191 248 [.ref 64, .int 6, .int (Int32.ofNat i), .int (Int32.ofNat j), .int (bI (∀ k : Nat, k < 24 → 1 ≤ k → w.1 72 (i + k) = 0)), .int (bI (∀ k : Nat, k < 24 → 1 ≤ k → w.1 72 (j + k) = 0)), .int (bI (∀ k : Nat, k < 24 → w.1 72 (i + k) = w.1 72 (j + k))), .retAddr 0, .retAddr 0, .retAddr 0] [] w x2 := by
      by_cases c1 : ∀ k : Nat, k < 23 → 1 ≤ k → v.1 (21 + l) k = 0
      · rw [if_neg (fun z => (nz1 h1).mp z c1)] at e2
        simp only [q191_210, q191_212] at e2
        rw [if_pos ((nz1 h2).mpr (fun z => nb ⟨c1, z⟩))] at e2
        exact e2
      · rw [if_pos ((nz1 h1).mpr c1)] at e2
        exact e2
    clear e2
    simp only [q191_248, q191_249, q191_250] at go
    rw [if_neg (show ¬ (6 : Int32) = 5 from by decide)] at go
    simp only [q191_274, q191_275, q191_276] at go
    rw [if_neg (show ¬ (6 : Int32) = 5 from by decide)] at go
    simp only [q191_319, q191_320, q191_321] at go
    rw [if_neg (show ¬ (6 : Int32) = 5 from by decide)] at go
    simp only [q191_389, q191_390, q191_392] at go
    rw [if_pos trivial] at go
    simp only [q191_395, q191_397] at go
    simp only [q103_69, q103_70] at e1
    rw [if_neg (show ¬ (6 : Int32) = 2 from by decide), if_neg (show ¬ (6 : Int32) = 3 from by decide), if_neg (show ¬ (6 : Int32) = 4 from by decide), if_neg (show ¬ (6 : Int32) = 5 from by decide), if_pos trivial] at e1
    simp only [q103_146, q103_147, q103_149] at e1
    by_cases eq : l = r
    · rw [if_neg (fun z => (sz1 hV hl hr h1 h2).mp z eq)] at go
      simp only [q191_400, q191_401, q191_404, q191_405, q191_406, Nat.reduceAdd, s0e, exists_eq_left, vB_d, q191_409, q191_431] at go
      rw [if_pos (by rw [eq])] at e1
      simp only [q103_152, q103_153, q103_154] at e1
      obtain ⟨y, e3, e4⟩ := e1
      obtain ⟨s, n', v', f1, f2, f3, f4, f5⟩ := mk_num hV hn e3
      subst f1
      simp only [vB_r, Nat.reduceAdd, q103_157, q103_169] at e4
      exact jk hA ⟨s, n', v', e4, f2, f3, f4, f5⟩ go (fun k hk => rfl) rfl
    · rw [if_pos ((sz1 hV hl hr h1 h2).mpr eq)] at go
      rw [if_neg (fun q => eq (on_inj (by omega) (by omega) q))] at e1
      simp only [q103_160, q103_161, q103_163, q103_164, q103_166] at e1
      obtain ⟨y, e3, e4⟩ := e1
      obtain ⟨s', v', rfl⟩ := at_v (mk_at hV hn e3)
      simp only [vB_r, Nat.reduceAdd, q103_169] at e4
      rw [e4]
      exact jb hV hn hA (by omega) (by omega) hi hj (by decide) (ne_d (Or.inl rfl) hl hr h1 h2) e3 (rc_at hV hn hA hi hj go)
end EG
