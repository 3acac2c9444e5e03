/-! run: the loop, both sides -/
section DL
variable {v w v0 : vm_V} {x : vm_Y}
theorem ih_no {p c b : Nat} (h1 : v.1 p 3 = Int32.ofNat c) (hc : c ≤ 6) (hb : b < 6) (h : ¬ b < c) : c_lengthOf v p (Int32.ofNat b) = 0 ∧ c_endAt v p (Int32.ofNat b) 0 = 2 ∧ c_endAt v p (Int32.ofNat b) 1 = 0 := by
  have e : Int32.ofNat c ≤ Int32.ofNat b := (nn_le (by omega) (by omega)).mpr (by omega)
  refine ⟨?_, ?_, ?_⟩
  · unfold c_lengthOf c_hasBlock
    rw [h1, if_neg (nn_n0 (by omega)), if_pos e, if_pos rfl]
  · unfold c_endAt
    rw [h1, if_neg (nn_n0 (by omega)), if_pos e, if_pos rfl]
  · unfold c_endAt
    rw [h1, if_neg (nn_n0 (by omega)), if_pos e, if_neg i10]
def rng (q j : Nat) : Prop := q = 65 ∧ j < 2 ∨ q = 66 ∧ j < 12 ∨ q = 67 ∧ j < 384 ∨ q = 68 ∧ j < 48
/-- what both leave -/
def rnF (v w w0 : vm_V) : Prop := v.1 61 4 = w.1 64 33 ∧ v.1 61 5 = w.1 64 34 ∧ (∀ a : Nat, a < 8 → v.1 63 a = w.1 91 a) ∧ w.2 = w0.2 ∧ w.1 64 0 = w0.1 64 0
theorem rn_lp {p P c most : Nat} (hP : P < 2) (hp : p + 3 < 61) (hD : prD p P c v0) (hm : most ≤ 500) : ∀ (k st bn i : Nat) (v w : vm_V) (l2 l3 l7 l8 l9 l10 : Value), st + k = most → bn < 6 → i ≤ 8 → (∀ q j : Nat, q < 61 → v.1 q j = v0.1 q j) → (∀ q j : Nat, rng q j → w.1 q j = v0.1 q j) → rLS bn i st v w → vE 199 126 [.ref 64, .int (Int32.ofNat P), l2, l3, .int (Int32.ofNat most), .int (Int32.ofNat bn), .int (Int32.ofNat i), l7, l8, l9, l10] [] w x → ∃ (a : Int32) (v' w' : vm_V), exR p k 0 v = vr a v' ∧ x = vr a w' ∧ rnF v' w' w
  | 0, st, bn, i, v, w, l2, l3, l7, l8, l9, l10, hk, hb, hi, hv, hw, hL, e => by
    obtain ⟨s1, s2, s3, s4, s5, s6⟩ := hL
    rw [q199_126] at e
    simp only [q199_127, q199_130, q199_132, s4] at e
    rw [if_pos (by rw [show st = most by omega]; exact Int32.le_refl _)] at e
    simp only [q199_333, q199_334] at e
    exact ⟨0, v, w, rfl, e, s3.trans s4.symm, s5, s6.2, rfl, rfl⟩
  | k + 1, st, bn, i, v, w, l2, l3, l7, l8, l9, l10, hk, hb, hi, hv, hw, hL, e => by
    obtain ⟨s1, s2, s3, s4, s5, s6⟩ := hL
    obtain ⟨d1, d2, d3, d4, d5, d6, d7, d8⟩ := hD
    have hD : prD p P c v0 := ⟨d1, d2, d3, d4, d5, d6, d7, d8⟩
    have c2 : v.1 p 3 = Int32.ofNat c := (hv p 3 (by omega)).trans d2
    have r65 : w.1 65 P = Int32.ofNat c := (hw 65 P (by unfold rng; omega)).trans d3
    have nP : (Int32.ofNat P).toNatClampNeg = P := nn_nat (by omega)
    have ib : (6 : Int32) * Int32.ofNat P + Int32.ofNat bn = Int32.ofNat (6 * P + bn) := by
      rw [show (6 : Int32) = Int32.ofNat 6 from rfl, nn_mul, nn_add]
    rw [q199_126] at e
    simp only [q199_127, q199_130, q199_132, s4] at e
    rw [if_neg (nl (by omega) (by omega) (by omega))] at e
    simp only [q199_135, q199_137, q199_138, q199_141, q199_142, q199_143, Nat.reduceAdd, nP, r65] at e
    by_cases hbc : bn < c
    · rw [if_neg (nl (by omega) (by omega) hbc)] at e
      simp only [q199_146, q199_147, q199_151, q199_153, q199_155, q199_156, q199_157, q199_159, q199_160, q199_162, q199_164, ib] at e
      rw [if_neg i10] at e
      obtain ⟨n, n1, n2, n3⟩ := d4 bn hb
      have m6 : w.1 66 (6 * P + bn) = Int32.ofNat n := (hw 66 _ (by unfold rng; omega)).trans n3
      have c6 : c_lengthOf v p (v.1 61 2) = Int32.ofNat n := by
        rw [s1, pu_len c2 d1 hbc]
        exact (hv _ _ (by omega)).trans n2
      simp only [q199_167, q199_169, q199_170, q199_173, q199_175, q199_176, Nat.reduceAdd, nn_nat (show 6 * P + bn < 2147483648 by omega), m6] at e
      by_cases hin : i < n
      · rw [if_neg (nl (by omega) (by omega) hin)] at e
        simp only [q199_179, q199_180, q199_182, q199_184, q199_185, q199_186, q199_188, q199_189, q199_190] at e
        obtain ⟨y, e1, e2⟩ := e
        have iq : (32 : Int32) * Int32.ofNat (6 * P + bn) + 4 * Int32.ofNat i = Int32.ofNat (192 * P + 4 * (8 * bn + i)) := by
          rw [show (32 : Int32) = Int32.ofNat 32 from rfl, show (4 : Int32) = Int32.ofNat 4 from rfl, nn_mul, nn_mul, nn_add, show 32 * (6 * P + bn) + 4 * i = 192 * P + 4 * (8 * bn + i) by omega]
        rw [iq] at e1
        obtain ⟨o, d, a, o1, o2, o3, o4, o5, o6, o7⟩ := d7 (8 * bn + i) (by omega)
        have w0 := (hw 67 (192 * P + 4 * (8 * bn + i)) (by unfold rng; omega)).trans o4
        have w1 := (hw 67 (192 * P + 4 * (8 * bn + i) + 1) (by unfold rng; omega)).trans o5
        have w2 := (hw 67 (192 * P + 4 * (8 * bn + i) + 2) (by unfold rng; omega)).trans o6
        have w3 := hw 67 (192 * P + 4 * (8 * bn + i) + 3) (by unfold rng; omega)
        have cf : ∀ f : Nat, f < 4 → c_codeAt v p (v.1 61 2) (v.1 61 3) (Int32.ofNat f) = v0.1 67 (192 * P + 4 * (8 * bn + i) + f) := fun f hf => by
          rw [s1, s2, pu_code c2 d1 hbc (by omega) hf, hv _ _ (by omega), d5 _ (by omega), show 192 * P + (32 * bn + 4 * i + f) = 192 * P + 4 * (8 * bn + i) + f by omega]
        have dc := dc_x (p := p) ((cf 0 (by omega)).trans o4) ((cf 1 (by omega)).trans o5) ((cf 2 (by omega)).trans o6) (cf 3 (by omega)) o2 o3
        rw [ct200 (by rw [nn_nat (by omega), w0]; exact in10 o1)] at e1
        have hb2 := xbb (v := v) (w := w) (y := v0.1 67 (192 * P + 4 * (8 * bn + i) + 3)) o1 o7 s6 (w.1 90 a)
        rw [ex_x (by omega) w0 w1 w2 w3 o2 o3 (in10 o1), hb2.1, hb2.2 d, ← s6.1 a o3] at e1
        have cs : c_stp v p = c_doCode v p := if_neg (by rw [c6, s2]; exact nl (by omega) (by omega) hin)
        by_cases hT : xT (Int32.ofNat o) (v.1 62 a) (c_mval v (v0.1 67 (192 * P + 4 * (8 * bn + i) + 3))) = 0
        · rw [if_pos hT] at e1 dc
          subst e1
          simp only [vB_r, Nat.reduceAdd, q199_193, q199_195, q199_197] at e2
          rw [if_pos (Int32.le_refl _)] at e2
          simp only [q199_203, q199_206, q199_320, q199_321, q199_322, q199_325, q199_326, q199_327, q199_330, nn_s] at e2
          rw [ex_s (cs.trans dc)]
          have g := xW_s (y := v0.1 67 (192 * P + 4 * (8 * bn + i) + 3)) (d := d) o2 hT s6
          obtain ⟨a', v', w', f1, f2, f3⟩ := rn_lp hP hp hD hm k (st + 1) bn (i + 1) (c_adv (xW 62 63 v (Int32.ofNat o) d (v0.1 67 (192 * P + 4 * (8 * bn + i) + 3)) (v.1 62 a) (c_mval v (v0.1 67 (192 * P + 4 * (8 * bn + i) + 3))))) _ _ _ _ _ _ _ (by omega) hb (by omega) (fun q j hq => by
            unfold c_adv
            rw [vm_si1b, if_neg (by omega), vm_si1b, if_neg (by omega), xW_o (by omega) (by omega)]
            exact hv q j hq) (fun q j q1 => by
            have q2 : 65 ≤ q ∧ q ≤ 68 := by
              unfold rng at q1
              omega
            rw [vm_si1b, if_neg (by omega), xW_o (by omega) (by omega)]
            exact hw q j q1) (by
            refine ⟨?_, ?_, ?_, ?_, ?_, ?_, ?_⟩
            · unfold c_adv
              rw [vm_si1b, if_neg (by omega), vm_si1b, if_neg (by omega), xW_o (by omega) (by omega)]
              exact s1
            · unfold c_adv
              rw [vm_si1b, if_neg (by omega), vm_si1b, if_pos ⟨rfl, rfl⟩, xW_o (by omega) (by omega), s2, nn_s]
            · unfold c_adv
              rw [vm_si1b, if_pos ⟨rfl, rfl⟩, vm_si1b, if_neg (by omega), xW_o (by omega) (by omega), s3, nn_s]
            · rw [vm_si1b, if_pos ⟨rfl, rfl⟩, xW_o (by omega) (by omega), s4, nn_s]
            · unfold c_adv
              rw [vm_si1b, if_neg (by omega), vm_si1b, if_neg (by omega), xW_o (by omega) (by omega), vm_si1b, if_neg (by omega), xW_o (by omega) (by omega)]
              exact s5
            · intro r hr
              unfold c_adv
              rw [vm_si1b, if_neg (by omega), vm_si1b, if_neg (by omega), vm_si1b, if_neg (by omega)]
              exact g.1 r hr
            · intro r hr
              unfold c_adv
              rw [vm_si1b, if_neg (by omega), vm_si1b, if_neg (by omega), vm_si1b, if_neg (by omega)]
              exact g.2 r hr) e2
          refine ⟨a', v', w', f1, f2, f3.1, f3.2.1, f3.2.2.1, ?_, ?_⟩
          · rw [f3.2.2.2.1]
            exact xW_2
          · rw [f3.2.2.2.2, vm_si1b, if_neg (by omega), xW_o (by omega) (by omega)]
        · rw [if_neg hT] at e1 dc
          subst e1
          simp only [vB_r, Nat.reduceAdd, q199_193, q199_195, q199_197] at e2
          rw [if_neg (xT_p hT)] at e2
          simp only [q199_200, q199_202] at e2
          rw [ex_s (cs.trans dc), ex_n hT]
          exact ⟨_, v, w, rfl, e2, s3.trans s4.symm, s5, s6.2, rfl, rfl⟩
      · rw [if_pos ((nn_le (by omega) (by omega)).mpr (by omega))] at e
        simp only [q199_209, q199_211] at e
        rw [if_neg i10] at e
        obtain ⟨kk, a, s, t, k1, k2, k3, k4, k5, k6, k7, k8⟩ := d8 bn hb
        have i4 : (4 : Int32) * Int32.ofNat (6 * P + bn) = Int32.ofNat (24 * P + 4 * bn) := by
          rw [show (4 : Int32) = Int32.ofNat 4 from rfl, nn_mul, show 4 * (6 * P + bn) = 24 * P + 4 * bn by omega]
        have j1 : (Int32.ofNat (24 * P + 4 * bn) + 1).toNatClampNeg = 24 * P + 4 * bn + 1 := by rw [nn_s, nn_nat (by omega)]
        have j2 : (Int32.ofNat (24 * P + 4 * bn) + 2).toNatClampNeg = 24 * P + 4 * bn + 2 := by rw [show (2 : Int32) = Int32.ofNat 2 from rfl, nn_add, nn_nat (by omega)]
        have j3 : (Int32.ofNat (24 * P + 4 * bn) + 3).toNatClampNeg = 24 * P + 4 * bn + 3 := by rw [show (3 : Int32) = Int32.ofNat 3 from rfl, nn_add, nn_nat (by omega)]
        have w0 := (hw 68 (24 * P + 4 * bn) (by unfold rng; omega)).trans k5
        have w1 := (hw 68 (24 * P + 4 * bn + 1) (by unfold rng; omega)).trans k6
        have w2 := (hw 68 (24 * P + 4 * bn + 2) (by unfold rng; omega)).trans k7
        have w3 := (hw 68 (24 * P + 4 * bn + 3) (by unfold rng; omega)).trans k8
        have cE : ∀ (u : vm_V) (f : Nat), (∀ q j : Nat, q < 61 → u.1 q j = v0.1 q j) → u.1 61 2 = Int32.ofNat bn → f < 4 → c_endAt u p (u.1 61 2) (Int32.ofNat f) = v0.1 68 (24 * P + 4 * bn + f) := fun u f hu hu2 hf => by
          rw [hu2, pu_end ((hu p 3 (by omega)).trans d2) d1 hbc hf, hu _ _ (by omega), d6 _ (by omega), show 24 * P + (4 * bn + f) = 24 * P + 4 * bn + f by omega]
        have cs : c_stp v p = c_doEnd v p := if_pos (by rw [c6, s2]; exact (nn_le (by omega) (by omega)).mpr (by omega))
        have E0 : c_endAt v p (v.1 61 2) 0 = Int32.ofNat kk := (cE v 0 hv s1 (by omega)).trans k5
        have E1 : c_endAt v p (v.1 61 2) 1 = Int32.ofNat a := (cE v 1 hv s1 (by omega)).trans k6
        have hv4 : ∀ q j : Nat, q < 61 → (vm_si v 61 4 (v.1 61 4 + 1)).1 q j = v0.1 q j := fun q j hq => by
          rw [vm_si1b, if_neg (by omega)]
          exact hv q j hq
        have hv42 : (vm_si v 61 4 (v.1 61 4 + 1)).1 61 2 = Int32.ofNat bn := by
          rw [vm_si1b, if_neg (by omega)]
          exact s1
        have E2 := (cE (vm_si v 61 4 (v.1 61 4 + 1)) 2 hv4 hv42 (by omega)).trans k7
        have E3 := (cE (vm_si v 61 4 (v.1 61 4 + 1)) 3 hv4 hv42 (by omega)).trans k8
        have E2 : c_endAt (vm_si v 61 4 (v.1 61 4 + 1)) p ((vm_si v 61 4 (v.1 61 4 + 1)).1 61 2) 2 = Int32.ofNat s := E2
        have E3 : c_endAt (vm_si v 61 4 (v.1 61 4 + 1)) p ((vm_si v 61 4 (v.1 61 4 + 1)).1 61 2) 3 = Int32.ofNat t := E3
        have sa := s6.1 a k2
        simp only [q199_214, q199_215, q199_218, q199_219, q199_221, q199_222, q199_223, q199_227, q199_229, q199_230, q199_233, q199_235, Nat.reduceAdd, i4, nn_nat (show 24 * P + 4 * bn < 2147483648 by omega), w0] at e
        rw [if_neg i10] at e
        simp only [q199_238, q199_239, q199_242, q199_243, q199_245, q199_246, q199_247, q199_248, q199_249, q199_253, q199_254, q199_256, q199_258, q199_259, Nat.reduceAdd, i4, j1, w1, nn_nat (show a < 2147483648 by omega)] at e
        have dn : c_doEnd v p = if Int32.ofNat kk = 2 then vr 1 (vm_si (vm_si v 61 4 ((v.1 61 4) + 1)) 61 5 (v.1 62 a)) else vr 0 (vm_si (vm_si (vm_si v 61 4 ((v.1 61 4) + 1)) 61 2 (if Int32.ofNat kk = 1 then if v.1 62 a = 0 then Int32.ofNat t else Int32.ofNat s else Int32.ofNat s)) 61 3 0) := by
          unfold c_doEnd
          simp only [E0, E1, E2, E3, mval_n k2]
        by_cases h2 : Int32.ofNat kk = 2
        · rw [if_pos h2] at e dn
          simp only [q199_262, q199_263, q199_264, q199_267, q199_268, q199_269, q199_272, q199_273, q199_275, q199_278, q199_279] at e
          rw [ex_s (cs.trans dn), ex_n i10]
          refine ⟨1, _, _, rfl, e, ?_, ?_, fun r hr => ?_, rfl, ?_⟩
          · rw [vm_si1b, if_neg (by omega), vm_si1b, if_pos ⟨rfl, rfl⟩, vm_si1b, if_neg (by omega), vm_si1b, if_pos ⟨rfl, rfl⟩, s3, s4]
          · rw [vm_si1b, if_pos ⟨rfl, rfl⟩, vm_si1b, if_pos ⟨rfl, rfl⟩]
            exact sa
          · rw [vm_si1b, if_neg (by omega), vm_si1b, if_neg (by omega), vm_si1b, if_neg (by omega), vm_si1b, if_neg (by omega)]
            exact s6.2 r hr
          · rw [vm_si1b, if_neg (by omega), vm_si1b, if_neg (by omega)]
        · rw [if_neg h2] at e dn
          rw [ex_s (cs.trans dn)]
          have go : ∀ (nb : Nat) (m9 m10 : Value), nb < 6 → vE 199 315 [.ref 64, .int (Int32.ofNat P), l2, l3, .int (Int32.ofNat most), .int (Int32.ofNat bn), .int (Int32.ofNat i), .int 1, .int (Int32.ofNat (6 * P + bn)), m9, m10] [.int (Int32.ofNat nb)] w x → ∃ (a' : Int32) (v' w' : vm_V), exR p k 0 (vm_si (vm_si (vm_si v 61 4 ((v.1 61 4) + 1)) 61 2 (Int32.ofNat nb)) 61 3 0) = vr a' v' ∧ x = vr a' w' ∧ rnF v' w' w := fun nb m9 m10 hnb e => by
            simp only [q199_315, q199_317, q199_318, q199_320, q199_321, q199_322, q199_325, q199_326, q199_327, q199_330] at e
            obtain ⟨a', v', w', f1, f2, f3⟩ := rn_lp hP hp hD hm k (st + 1) nb 0 (vm_si (vm_si (vm_si v 61 4 ((v.1 61 4) + 1)) 61 2 (Int32.ofNat nb)) 61 3 0) (vm_si w 64 33 (w.1 64 33 + 1)) _ _ _ _ _ _ (by omega) hnb (by omega) (fun q j hq => by
              rw [vm_si1b, if_neg (by omega), vm_si1b, if_neg (by omega)]
              exact hv4 q j hq) (fun q j q1 => by
              have q2 : 65 ≤ q ∧ q ≤ 68 := by
                unfold rng at q1
                omega
              rw [vm_si1b, if_neg (by omega)]
              exact hw q j q1) (by
              refine ⟨?_, ?_, ?_, ?_, ?_, fun r hr => ?_, fun r hr => ?_⟩
              · rw [vm_si1b, if_neg (by omega), vm_si1b, if_pos ⟨rfl, rfl⟩]
              · rw [vm_si1b, if_pos ⟨rfl, rfl⟩]
                rfl
              · rw [vm_si1b, if_neg (by omega), vm_si1b, if_neg (by omega), vm_si1b, if_pos ⟨rfl, rfl⟩, s3, nn_s]
              · rw [vm_si1b, if_pos ⟨rfl, rfl⟩, s4, nn_s]
              · rw [vm_si1b, if_neg (by omega), vm_si1b, if_neg (by omega), vm_si1b, if_neg (by omega), vm_si1b, if_neg (by omega)]
                exact s5
              · rw [vm_si1b, if_neg (by omega), vm_si1b, if_neg (by omega), vm_si1b, if_neg (by omega), vm_si1b, if_neg (by omega)]
                exact s6.1 r hr
              · rw [vm_si1b, if_neg (by omega), vm_si1b, if_neg (by omega), vm_si1b, if_neg (by omega), vm_si1b, if_neg (by omega)]
                exact s6.2 r hr) e
            refine ⟨a', v', w', f1, f2, f3.1, f3.2.1, f3.2.2.1, f3.2.2.2.1, ?_⟩
            rw [f3.2.2.2.2, vm_si1b, if_neg (by omega)]
          simp only [q199_280, q199_282] at e
          by_cases h0 : Int32.ofNat kk = 0
          · rw [if_pos h0] at e
            simp only [q199_290, q199_291, q199_294, q199_295, q199_297, q199_298, q199_299, q199_300, q199_301, Nat.reduceAdd, i4, j2, w2] at e
            rw [if_neg (by rw [h0]; decide)]
            exact go s _ _ k3 e
          · rw [if_neg h0] at e
            have h1 : Int32.ofNat kk = 1 := by
              have : kk = 0 ∨ kk = 1 ∨ kk = 2 := by omega
              rcases this with rfl | rfl | rfl
              · exact absurd rfl h0
              · rfl
              · exact absurd rfl h2
            rw [if_pos h1]
            simp only [q199_285, q199_287, ← sa] at e
            by_cases hz : v.1 62 a = 0
            · rw [if_pos hz] at e
              rw [if_pos hz]
              simp only [q199_304, q199_305, q199_308, q199_309, q199_311, q199_312, q199_313, q199_314, Nat.reduceAdd, i4, j3, w3] at e
              exact go t _ _ k4 e
            · rw [if_neg hz] at e
              rw [if_neg hz]
              simp only [q199_290, q199_291, q199_294, q199_295, q199_297, q199_298, q199_299, q199_300, q199_301, Nat.reduceAdd, i4, j2, w2] at e
              exact go s _ _ k3 e
    · rw [if_pos ((nn_le (by omega) (by omega)).mpr (by omega))] at e
      obtain ⟨z1, z2, z3⟩ := ih_no (p := p) (b := bn) c2 d1 hb hbc
      simp only [q199_150, q199_151, q199_153, q199_155, q199_156, q199_157, q199_159, q199_160, q199_162, q199_164, reduceIte, vm_n0, q199_209, q199_211, q199_226, q199_227, q199_229, q199_230, q199_233, q199_235, q199_252, q199_253, q199_254, q199_256, q199_258, q199_259, q199_262, q199_263, q199_264, q199_267, q199_268, q199_269, q199_272, q199_273, q199_275, q199_278, q199_279, Nat.reduceAdd] at e
      have cs : c_stp v p = c_doEnd v p := if_pos (by
        rw [s1, z1, s2]
        exact (nn_le (a := 0) (by omega) (by omega)).mpr (by omega))
      have dn : c_doEnd v p = vr 1 (vm_si (vm_si v 61 4 ((v.1 61 4) + 1)) 61 5 (v.1 62 0)) := by
        unfold c_doEnd
        rw [s1, z2, z3, if_pos rfl]
        exact congrArg (fun z => vr 1 (vm_si (vm_si v 61 4 ((v.1 61 4) + 1)) 61 5 z)) (mval_n (n := 0) (by omega))
      rw [ex_s (cs.trans dn), ex_n i10]
      refine ⟨1, _, _, rfl, e, ?_, ?_, fun r hr => ?_, rfl, ?_⟩
      · rw [vm_si1b, if_neg (by omega), vm_si1b, if_pos ⟨rfl, rfl⟩, vm_si1b, if_neg (by omega), vm_si1b, if_pos ⟨rfl, rfl⟩, s3, s4]
      · rw [vm_si1b, if_pos ⟨rfl, rfl⟩, vm_si1b, if_pos ⟨rfl, rfl⟩]
        exact s6.1 0 (by omega)
      · rw [vm_si1b, if_neg (by omega), vm_si1b, if_neg (by omega), vm_si1b, if_neg (by omega), vm_si1b, if_neg (by omega)]
        exact s6.2 r hr
      · rw [vm_si1b, if_neg (by omega), vm_si1b, if_neg (by omega)]
end DL
