/-! differences, a block at a time -/
section DFA
variable {v w : vm_V} {c b n : Nat}
theorem hol_0 {i : Nat} (h3 : v.1 3 3 = Int32.ofNat c) (h7 : v.1 7 3 = Int32.ofNat c) (hc : c ≤ 6) (hb : b < c) (hi : i < 8) : ∀ (k f : Nat), f + k = 4 → (c_hol v (Int32.ofNat b) (Int32.ofNat i) 7 3 k (Int32.ofNat f) = 0 ↔ ∀ q : Nat, f ≤ q → q < 4 → v.1 8 (32 * b + 4 * i + q) = v.1 4 (32 * b + 4 * i + q))
  | 0, f, hf => ⟨fun _ q q1 q2 => by omega, fun _ => rfl⟩
  | k + 1, f, hf => by
    unfold c_hol
    rw [pu_code h7 hc hb hi (by omega), pu_code h3 hc hb hi (by omega), nn_s]
    show (if v.1 8 (32 * b + 4 * i + f) = v.1 4 (32 * b + 4 * i + f) then _ else _) = 0 ↔ _
    by_cases e : v.1 8 (32 * b + 4 * i + f) = v.1 4 (32 * b + 4 * i + f)
    · rw [if_pos e, hol_0 h3 h7 hc hb hi k (f + 1) (by omega)]
      constructor
      · intro h q q1 q2
        by_cases e2 : q = f
        · rw [e2]; exact e
        · exact h q (by omega) q2
      · intro h q q1 q2
        exact h q (by omega) q2
    · rw [if_neg e]
      exact ⟨fun h => absurd h i10', fun h => absurd (h f (by omega) (by omega)) e⟩
theorem hel_0 (h3 : v.1 3 3 = Int32.ofNat c) (h7 : v.1 7 3 = Int32.ofNat c) (hc : c ≤ 6) (hb : b < c) : ∀ (k f : Nat), f + k = 4 → (c_hel v (Int32.ofNat b) 7 3 k (Int32.ofNat f) = 0 ↔ ∀ q : Nat, f ≤ q → q < 4 → v.1 9 (4 * b + q) = v.1 5 (4 * b + q))
  | 0, f, hf => ⟨fun _ q q1 q2 => by omega, fun _ => rfl⟩
  | k + 1, f, hf => by
    unfold c_hel
    rw [pu_end h7 hc hb (by omega), pu_end h3 hc hb (by omega), nn_s]
    show (if v.1 9 (4 * b + f) = v.1 5 (4 * b + f) then _ else _) = 0 ↔ _
    by_cases e : v.1 9 (4 * b + f) = v.1 5 (4 * b + f)
    · rw [if_pos e, hel_0 h3 h7 hc hb k (f + 1) (by omega)]
      constructor
      · intro h q q1 q2
        by_cases e2 : q = f
        · rw [e2]; exact e
        · exact h q (by omega) q2
      · intro h q q1 q2
        exact h q (by omega) q2
    · rw [if_neg e]
      exact ⟨fun h => absurd h i10', fun h => absurd (h f (by omega) (by omega)) e⟩
theorem dol_0 {mn I : Int32} {A : Nat} (hA : A < 1000) : ∀ (k f : Nat) (ot : Int32), f + k = 4 → (r_dol w (Int32.ofNat b) mn I (Int32.ofNat A) k (Int32.ofNat f) ot = 0 ↔ ot = 0 ∧ ∀ q : Nat, f ≤ q → q < 4 → (if I = w.1 66 (Int32.ofNat b).toNatClampNeg then w.1 68 (A + q) else w.1 67 (A + q)) = (if I = w.1 66 (Int32.ofNat b).toNatClampNeg then w.1 68 (24 + A + q) else w.1 67 (192 + A + q)))
  | 0, f, ot, hf => ⟨fun h => ⟨h, fun q q1 q2 => by omega⟩, fun h => h.1⟩
  | k + 1, f, ot, hf => by
    unfold r_dol
    rw [show (24 : Int32) + Int32.ofNat A = Int32.ofNat (24 + A) from nn_add 24 A, show (192 : Int32) + Int32.ofNat A = Int32.ofNat (192 + A) from nn_add 192 A, nn_s, fixf (by omega), fixf (by omega), fixf (by omega), dol_0 hA k (f + 1) _ (by omega)]
    by_cases o : ot = 0
    · rw [if_pos o]
      by_cases e : (if I = w.1 66 (Int32.ofNat b).toNatClampNeg then w.1 68 (A + f) else w.1 67 (A + f)) = (if I = w.1 66 (Int32.ofNat b).toNatClampNeg then w.1 68 (24 + A + f) else w.1 67 (192 + A + f))
      · rw [if_pos e]
        constructor
        · rintro ⟨_, h⟩
          refine ⟨o, fun q q1 q2 => ?_⟩
          by_cases e2 : q = f
          · rw [e2]; exact e
          · exact h q (by omega) q2
        · rintro ⟨_, h⟩
          exact ⟨rfl, fun q q1 q2 => h q (by omega) q2⟩
      · rw [if_neg e]
        exact ⟨fun h => absurd h.1 i10', fun h => absurd (h.2 f (by omega) (by omega)) e⟩
    · rw [if_neg o]
      exact ⟨fun h => absurd h.1 i10', fun h => absurd h.1 o⟩
/-- the block b of v and of w -/
def bE (b : Nat) (v w : vm_V) : Prop := (∀ k : Nat, k < 32 → v.1 8 (32 * b + k) = w.1 67 (192 + (32 * b + k)) ∧ v.1 4 (32 * b + k) = w.1 67 (32 * b + k)) ∧ ∀ k : Nat, k < 4 → v.1 9 (4 * b + k) = w.1 68 (24 + (4 * b + k)) ∧ v.1 5 (4 * b + k) = w.1 68 (4 * b + k)
theorem di_ls (h3 : v.1 3 3 = Int32.ofNat c) (h7 : v.1 7 3 = Int32.ofNat c) (hc : c ≤ 6) (hb : b < c) (hn8 : n ≤ 8) (h66 : w.1 66 b = Int32.ofNat n) (hE : bE b v w) : ∀ (k i : Nat) (mn : Int32), i + k = n → r_dfl w (Int32.ofNat b) (k + 1) (Int32.ofNat i) mn = (if c_otherEnd v 7 3 (Int32.ofNat b) = 0 then c_dfi v (Int32.ofNat b) (Int32.ofNat n) k (Int32.ofNat i) mn else (c_dfi v (Int32.ofNat b) (Int32.ofNat n) k (Int32.ofNat i) mn) + 1)
  | 0, i, mn, hi => by
    have hi' : i = n := by omega
    subst hi'
    have e1 : c_otherEnd v 7 3 (Int32.ofNat b) = 0 ↔ ∀ q : Nat, 0 ≤ q → q < 4 → v.1 9 (4 * b + q) = v.1 5 (4 * b + q) := hel_0 h3 h7 hc hb 4 0 rfl
    have e2 := dol_0 (w := w) (b := b) (mn := mn) (I := Int32.ofNat i) (A := 4 * b) (by omega) 4 0 0 rfl
    unfold r_dfl r_dfl c_dfi
    rw [nn_nat (by omega), h66] at *
    rw [if_pos rfl, show (4 : Int32) * Int32.ofNat b = Int32.ofNat (4 * b) from nn_mul 4 b, show ((4 : Int32).toInt - (0 : Int32).toInt).toNat = 4 from rfl]
    simp only [if_true] at e2
    have e3 : (r_dol w (Int32.ofNat b) mn (Int32.ofNat i) (Int32.ofNat (4 * b)) 4 0 0 = 0) ↔ c_otherEnd v 7 3 (Int32.ofNat b) = 0 := by
      refine Iff.trans e2 (Iff.trans ?_ e1.symm)
      constructor
      · rintro ⟨_, h⟩ q q1 q2
        rw [(hE.2 q q2).1, (hE.2 q q2).2, ← Nat.add_assoc]
        exact (h q q1 q2).symm
      · intro h
        refine ⟨by trivial, fun q q1 q2 => ?_⟩
        have := h q q1 q2
        rw [(hE.2 q q2).1, (hE.2 q q2).2, ← Nat.add_assoc] at this
        exact this.symm
    by_cases z : c_otherEnd v 7 3 (Int32.ofNat b) = 0
    · rw [if_pos z, if_pos (e3.mpr z), Int32.add_zero]
    · rw [if_neg z, if_neg (fun q => z (e3.mp q))]
  | k + 1, i, mn, hi => by
    have e1 : c_otherCode v 7 3 (Int32.ofNat b) (Int32.ofNat i) = 0 ↔ ∀ q : Nat, 0 ≤ q → q < 4 → v.1 8 (32 * b + 4 * i + q) = v.1 4 (32 * b + 4 * i + q) := hol_0 h3 h7 hc hb (by omega) 4 0 rfl
    have e2 := dol_0 (w := w) (b := b) (mn := mn) (I := Int32.ofNat i) (A := 32 * b + 4 * i) (by omega) 4 0 0 rfl
    have ne : ¬ Int32.ofNat i = Int32.ofNat n := fun q => by
      have := (nn_eq (by omega) (by omega)).mp q
      omega
    have st : r_dfl w (Int32.ofNat b) (k + 1 + 1) (Int32.ofNat i) mn = r_dfl w (Int32.ofNat b) (k + 1) (Int32.ofNat (i + 1)) (if c_otherCode v 7 3 (Int32.ofNat b) (Int32.ofNat i) = 0 then mn else mn + 1) := by
      conv => lhs; unfold r_dfl
      rw [nn_nat (by omega), h66] at *
      rw [if_neg ne, show (32 : Int32) * Int32.ofNat b = Int32.ofNat (32 * b) from nn_mul 32 b, show (4 : Int32) * Int32.ofNat i = Int32.ofNat (4 * i) from nn_mul 4 i, nn_add, show ((4 : Int32).toInt - (0 : Int32).toInt).toNat = 4 from rfl, nn_s]
      simp only [if_neg ne] at e2
      have e3 : (r_dol w (Int32.ofNat b) mn (Int32.ofNat i) (Int32.ofNat (32 * b + 4 * i)) 4 0 0 = 0) ↔ c_otherCode v 7 3 (Int32.ofNat b) (Int32.ofNat i) = 0 := by
        refine Iff.trans e2 (Iff.trans ?_ e1.symm)
        have g : ∀ q : Nat, q < 4 → v.1 8 (32 * b + 4 * i + q) = w.1 67 (192 + (32 * b + 4 * i) + q) ∧ v.1 4 (32 * b + 4 * i + q) = w.1 67 (32 * b + 4 * i + q) := fun q hq => by
          have := hE.1 (4 * i + q) (by omega)
          rw [← Nat.add_assoc, ← Nat.add_assoc] at this
          exact this
        constructor
        · rintro ⟨_, h⟩ q q1 q2
          rw [(g q q2).1, (g q q2).2]
          exact (h q q1 q2).symm
        · intro h
          refine ⟨by trivial, fun q q1 q2 => ?_⟩
          rw [← (g q q2).1, ← (g q q2).2]
          exact (h q q1 q2).symm
      by_cases z : c_otherCode v 7 3 (Int32.ofNat b) (Int32.ofNat i) = 0
      · rw [if_pos z, if_pos (e3.mpr z), Int32.add_zero]
      · rw [if_neg z, if_neg (fun q => z (e3.mp q))]
    rw [st, di_ls h3 h7 hc hb hn8 h66 hE k (i + 1) _ (by omega)]
    conv => rhs; unfold c_dfi
    rw [nn_s]
theorem dfi_add {B N : Int32} : ∀ (k : Nat) (i s m : Int32), c_dfi v B N k i (s + m) = s + c_dfi v B N k i m
  | 0, _, _, _ => rfl
  | k + 1, i, s, m => by
    unfold c_dfi
    split
    · exact dfi_add k _ s m
    · rw [Int32.add_assoc]
      exact dfi_add k _ s (m + 1)
/-- a block's share of the differences -/
theorem df_ls {s : Int32} (h3 : v.1 3 3 = Int32.ofNat c) (h7 : v.1 7 3 = Int32.ofNat c) (hc : c ≤ 6) (hb : b < c) (hn8 : n ≤ 8) (h10 : v.1 10 b = Int32.ofNat n) (h66 : w.1 66 b = Int32.ofNat n) (hE : bE b v w) : (if c_otherEnd v 7 3 (Int32.ofNat b) = 0 then c_dfi v (Int32.ofNat b) (c_lengthOf v 7 (Int32.ofNat b)) (((c_lengthOf v 7 (Int32.ofNat b)) : Int32).toInt - (0 : Int32).toInt).toNat 0 s else (c_dfi v (Int32.ofNat b) (c_lengthOf v 7 (Int32.ofNat b)) (((c_lengthOf v 7 (Int32.ofNat b)) : Int32).toInt - (0 : Int32).toInt).toNat 0 s) + 1) = s + r_diff w (Int32.ofNat b) := by
  have hl : c_lengthOf v 7 (Int32.ofNat b) = Int32.ofNat n := by
    rw [pu_len h7 hc hb]
    exact h10
  have hn0 : ((Int32.ofNat n).toInt - (0 : Int32).toInt).toNat = n := by
    rw [Int32.toInt_ofNat_of_lt (by omega), show (0 : Int32).toInt = 0 from rfl]
    omega
  have hn1 : ((Int32.ofNat n).toInt + 1 - (0 : Int32).toInt).toNat = n + 1 := by
    rw [Int32.toInt_ofNat_of_lt (by omega), show (0 : Int32).toInt = 0 from rfl]
    omega
  unfold r_diff
  rw [hl, hn0, nn_nat (by omega), h66, hn1, show r_dfl w (Int32.ofNat b) (n + 1) 0 0 = _ from di_ls h3 h7 hc hb hn8 h66 hE n 0 0 (by omega)]
  have e := dfi_add (v := v) (B := Int32.ofNat b) (N := Int32.ofNat n) n 0 s 0
  rw [Int32.add_zero] at e
  rw [e]
  split
  · rfl
  · rw [Int32.add_assoc]
    rfl
end DFA
