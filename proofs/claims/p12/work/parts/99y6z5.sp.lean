/-! one instruction: both sides, from one to the next -/
section EM
variable {v w v' w' v0 : vm_V} {x x1 x2 : vm_Y}
theorem wr_st {n a o S c st s d : Nat} (h : ST n a v w o S c st) (ho : 48 < o ∧ o + 4 < 64) (hs : s < n) (hsv : sv v w s 77 0) (hd : d < 6) : ST n a (vm_si v (o + 1) d (Int32.ofNat s)) (v_up 72 (144 * S + 24 * d) 24 (fun k => w.1 77 (0 + k)) w) o S c st ∧ GF o S n v w (vm_si v (o + 1) d (Int32.ofNat s)) (v_up 72 (144 * S + 24 * d) 24 (fun k => w.1 77 (0 + k)) w) := by
  obtain ⟨hV, hA, hO, hL, h5, h78⟩ := h
  have n22 := hV.2.2.2.1
  have uo : ∀ P k : Nat, ¬ (P = o + 1 ∧ k = d) → (vm_si v (o + 1) d (Int32.ofNat s)).1 P k = v.1 P k := fun P k q => by rw [vm_si1b, if_neg q]
  have zo : ∀ P k : Nat, P ≠ 72 → (v_up 72 (144 * S + 24 * d) 24 (fun k => w.1 77 (0 + k)) w).1 P k = w.1 P k := fun P k q => v_upo q
  have z72 : ∀ k : Nat, ¬ (144 * S + 24 * d ≤ k ∧ k < 144 * S + 24 * d + 24) → (v_up 72 (144 * S + 24 * d) 24 (fun k => w.1 77 (0 + k)) w).1 72 k = w.1 72 k := fun k q => by rw [v_up1, if_neg (fun y => q y.2)]
  have hr : ∀ t k : Nat, t < n → k < 23 → (vm_si v (o + 1) d (Int32.ofNat s)).1 (21 + t) k = v.1 (21 + t) k := fun t k _ _ => uo _ _ (by omega)
  obtain ⟨o1, o2, o3⟩ := hO
  refine ⟨⟨VI_f hV (fun P k _ _ => uo _ _ (by omega)) rfl, AR_f n22 hA (fun P k _ _ => uo _ _ (by omega)) (zo _ _ (by omega)) (fun P k _ _ => zo _ _ (by omega)), ⟨fun r hr6 => ?_, ⟨(uo _ _ (by omega)).trans o2.1, (zo _ _ (by omega)).trans o2.2.1, o2.2.2⟩, fun e he => ?_⟩, ?_, (uo _ _ (by omega)).trans h5, nv_x (fun k _ => zo _ _ (by omega)) h78⟩, ⟨hr, fun P k q1 q2 => uo _ _ (by omega), rfl, fun P k q => zo _ _ (by omega), fun k _ => zo _ _ (by omega), fun k q => z72 k (by omega), fun k _ => zo _ _ (by omega), fun k _ => zo _ _ (by omega), fun k _ => ⟨zo _ _ (by omega), zo _ _ (by omega)⟩, rfl⟩⟩
  · by_cases z : r = d
    · subst z
      refine ⟨s, hs, by rw [vm_si1b, if_pos ⟨rfl, rfl⟩], fun k hk => ?_⟩
      rw [v_upi hk, hsv k hk]
      unfold rx
      by_cases e : k < 23
      · rw [if_pos e, if_pos e, hr s k hs e]
      · rw [if_neg e, if_neg e]
    · obtain ⟨t, t1, t2, t3⟩ := o1 r hr6
      exact ⟨t, t1, (uo _ _ (by omega)).trans t2, sv_r hr t1 (fun k hk => z72 _ (by omega)) t3⟩
  · exact EE_r hr (Nat.le_refl n) (uo _ _ (by omega)) (uo _ _ (by omega)) (uo _ _ (by omega)) (zo _ _ (by omega)) (fun k _ => zo _ _ (by omega)) (fun k _ => zo _ _ (by omega)) (o3 e he)
  · exact LD_x n22 n22 (AR_l hA) hr (Nat.le_refl a) (fun q _ => ⟨uo _ _ (by omega), uo _ _ (by omega), uo _ _ (by omega)⟩) (fun q q1 q2 => by omega) (Nat.le_refl c) (fun P e q1 q2 _ => uo _ _ (by omega)) (fun e q1 q2 => by omega) (fun q => zo _ _ (by omega)) hL
theorem ovin_n {o n : Nat} (h : n < 6) : c_ovin v o (Int32.ofNat n) = v.1 (o + 1) n := by
  unfold c_ovin
  rw [is_reg h, if_neg i10, nn_nat (by omega)]
/-- the class: what is made is written -/
theorem ct_t {o p b i s : Nat} {L4 l6 l7 l8 l9 l10 : Value} (e : vE 90 130 [.ref o, .ref 19, .ref p, .int (Int32.ofNat b), L4, .int (Int32.ofNat i), l6, l7, l8, l9, l10] [.int (Int32.ofNat s)] v x) : vE 90 45 [.ref o, .ref 19, .ref p, .int (Int32.ofNat b), L4, .int (Int32.ofNat (i + 1)), l6, l7, l8, l9, .int (Int32.ofNat s)] [] (c_owr v o (c_writtenAt v p (Int32.ofNat b) (Int32.ofNat i)) (Int32.ofNat s)) x := by
  simpa only [q90_130, q90_132, q90_133, q90_134, q90_135, q90_137, ct62, exists_eq_left, vB_r, Nat.reduceAdd, q90_140, q90_142, ct109, vB_d, q90_145, q90_148, nn_s] using e
/-- the reference's perform: the beginning -/
theorem pf_0 {S q aa jj : Nat} {K : Int32} (hS : S < 2) (hq : q + 3 < 1000) (ha : aa < 6) (hj : jj < 6) (h0 : w.1 67 q = K) (h2 : w.1 67 (q + 2) = Int32.ofNat aa) (h3 : (if r_readsB w K = 0 then 0 else w.1 67 (q + 3)) = Int32.ofNat jj) : vE 181 0 [.ref 64, .int (Int32.ofNat S), .int (Int32.ofNat q), .retAddr 0, .retAddr 0, .retAddr 0, .retAddr 0] [] w x ↔ vE 181 57 [.ref 64, .int (Int32.ofNat S), .int (Int32.ofNat q), .int K, .int (Int32.ofNat (144 * S)), .int (Int32.ofNat (144 * S + 24 * aa)), .int (Int32.ofNat (144 * S + 24 * jj))] [] w x := by
  have n0 : (Int32.ofNat q).toNatClampNeg = q := nn_nat (by omega)
  have n2 : (Int32.ofNat q + 2).toNatClampNeg = q + 2 := by rw [show (2 : Int32) = Int32.ofNat 2 from rfl, nn_add, nn_nat (by omega)]
  have n3 : (Int32.ofNat q + 3).toNatClampNeg = q + 3 := by rw [show (3 : Int32) = Int32.ofNat 3 from rfl, nn_add, nn_nat (by omega)]
  have b1 : (144 : Int32) * Int32.ofNat S = Int32.ofNat (144 * S) := nn_mul 144 S
  simp only [q181_0, q181_1, q181_4, q181_5, q181_6, q181_7, q181_10, q181_11, q181_12, q181_14, q181_16, q181_18, q181_19, q181_22, q181_23, q181_24, q181_25, q181_26, q181_27, q181_28, q181_30, q181_32, q181_34, q181_35, ct156, exists_eq_left, vB_r, Nat.reduceAdd, q181_38, n0, n2, h0, h2, b1, c24, nn_add]
  by_cases z : r_readsB w K = 0
  · rw [if_pos z] at h3
    have : jj = 0 := on_inj (by omega) (by omega) h3.symm
    subst this
    rw [if_pos z]
    simp only [q181_52, q181_53, q181_54, q181_55]
    rw [show (24 : Int32) * 0 = Int32.ofNat 0 from by decide, nn_add]
  · rw [if_neg z] at h3
    rw [if_neg z]
    simp only [q181_41, q181_42, q181_45, q181_46, q181_47, q181_48, q181_49, q181_53, q181_54, q181_55, Nat.reduceAdd, n3, h3, c24, nn_add]
theorem pf_w {S q d : Nat} {l3 l5 l6 : Value} (hS : S < 2) (hq : q + 3 < 1000) (hd : d < 6) (h1 : w.1 67 (q + 1) = Int32.ofNat d) : vE 181 181 [.ref 64, .int (Int32.ofNat S), .int (Int32.ofNat q), l3, .int (Int32.ofNat (144 * S)), l5, l6] [] w x ↔ x = vd (v_up 72 (144 * S + 24 * d) 24 (fun k => w.1 77 (0 + k)) w) := by
  have n1 : (Int32.ofNat q + 1).toNatClampNeg = q + 1 := by rw [nn_s, nn_nat (by omega)]
  have m : ∀ y : vm_Y, vE 183 0 [.ref 77, .int 0, .ref 72, .int (Int32.ofNat (144 * S + 24 * d)), .retAddr 0] [] w y ↔ y = vd (v_up 72 (144 * S + 24 * d) 24 (fun k => w.1 77 (0 + k)) w) := fun y => ct183 (p := 77) (q := 72) (i := 0) (j := 144 * S + 24 * d) (by omega) (by omega) (by omega)
  simp only [q181_181, q181_182, q181_185, q181_186, q181_187, q181_190, q181_192, q181_194, q181_195, q181_198, q181_199, q181_200, q181_201, q181_202, q181_203, q181_204, q181_207, Nat.reduceAdd, n1, h1, c24, nn_add, m, exists_eq_left, vB_d]
/-- what is said of an instruction and the next -/
def NX (n a : Nat) (v w : vm_V) (o S c p b i : Nat) (L4 : Value) (x1 x2 : vm_Y) : Prop := ∃ (n' a' c' st' : Nat) (v' w' : vm_V) (m6 m7 m8 m9 m10 : Value), vE 90 45 [.ref o, .ref 19, .ref p, .int (Int32.ofNat b), L4, .int (Int32.ofNat (i + 1)), m6, m7, m8, m9, m10] [] v' x1 ∧ x2 = vd w' ∧ ST n' a' v' w' o S c' st' ∧ n ≤ n' ∧ n' ≤ n + 1 ∧ c' ≤ c + 1 ∧ GF o S n v w v' w'
theorem nx_i {n a o S c c1 st p b i q d : Nat} {L4 l3 l5 l6 m6 m7 m8 m9 m10 : Value} {y1 y2 : vm_Y} (ho : 48 < o ∧ o + 4 < 64) (hS : S < 2) (hd : d < 6) (hq : q + 3 < 1000) (hc : c1 ≤ c + 1) (hI : IR n a v w o S c1 st y1 y2) (hp : ∀ v' w' : vm_V, GF o S n v w v' w' → c_writtenAt v' p (Int32.ofNat b) (Int32.ofNat i) = Int32.ofNat d ∧ w'.1 67 (q + 1) = Int32.ofNat d) (b1 : ∀ (s : Nat) (v' : vm_V), y1 = vr (Int32.ofNat s) v' → vE 90 130 [.ref o, .ref 19, .ref p, .int (Int32.ofNat b), L4, .int (Int32.ofNat i), m6, m7, m8, m9, m10] [.int (Int32.ofNat s)] v' x1) (b2 : ∀ w' : vm_V, y2 = vd w' → vE 181 181 [.ref 64, .int (Int32.ofNat S), .int (Int32.ofNat q), l3, .int (Int32.ofNat (144 * S)), l5, l6] [] w' x2) : NX n a v w o S c p b i L4 x1 x2 := by
  obtain ⟨s, n', a', v', w', f1, f2, f3, f4, f5, f6, f7, f8⟩ := hI
  obtain ⟨p1, p2⟩ := hp v' w' f8
  have g1 := ct_t (b1 s v' f1)
  have g2 := (pf_w hS hq hd p2).mp (b2 w' f2)
  rw [p1] at g1
  have ow : c_owr v' o (Int32.ofNat d) (Int32.ofNat s) = vm_si v' (o + 1) d (Int32.ofNat s) := by
    unfold c_owr
    rw [is_reg hd, if_neg i10, nn_nat (by omega)]
  rw [ow] at g1
  obtain ⟨h1, h2⟩ := wr_st f3 ho f4 f5 hd
  exact ⟨n', a', c1, st, _, _, _, _, _, _, _, g1, g2, h1, f6, f7, hc, GF_tr f8 h2 f6⟩
end EM
