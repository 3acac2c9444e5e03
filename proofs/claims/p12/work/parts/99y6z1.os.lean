/-! a block that is worked out: what is the same on both sides -/
section EI
variable {v w v' w' v1 w1 : vm_V} {x x1 x2 : vm_Y}
def OS (n : Nat) (v w : vm_V) (o S c : Nat) : Prop := (∀ r : Nat, r < 6 → ∃ t : Nat, t < n ∧ v.1 (o + 1) r = Int32.ofNat t ∧ sv v w t 72 (144 * S + 24 * r)) ∧ (v.1 o 4 = Int32.ofNat c ∧ w.1 73 S = Int32.ofNat c ∧ c ≤ 8) ∧ ∀ e : Nat, e < c → EE n v w o S e
/-- LOAD from here may trap -/
def unS (v : vm_V) (t : Nat) : Prop := ¬ ((∀ k : Nat, k < 23 → 1 ≤ k → v.1 (21 + t) k = 0) ∧ ¬ xB (v.1 (21 + t) 0) = 0)
def LD (n a : Nat) (v w : vm_V) (o c : Nat) : Prop := (∀ e : Nat, e < c → v.1 (o + 2) e = 8 → ∃ i : Nat, i < a ∧ aM v 8 (v.1 (o + 3) e) (v.1 (o + 4) e) i) ∧ (∀ i : Nat, i < a → v.1 44 i = 8 → (w.1 92 i = 0 → ∀ e : Nat, e < c → ¬ eM v o 8 (v.1 45 i) (v.1 46 i) e) ∧ (¬ w.1 92 i = 0 → ∀ t : Nat, t < n → v.1 45 i = Int32.ofNat t → unS v t → ∃ e : Nat, e < c ∧ eM v o 8 (v.1 45 i) (v.1 46 i) e)) ∧ ∀ i : Nat, a ≤ i → i < 22 → w.1 92 i = 0
def GF (o S n : Nat) (v w v' w' : vm_V) : Prop := (∀ t k : Nat, t < n → k < 23 → v'.1 (21 + t) k = v.1 (21 + t) k) ∧ (∀ P j : Nat, (P < 19 ∨ 48 < P) → ¬ (o ≤ P ∧ P ≤ o + 4) → v'.1 P j = v.1 P j) ∧ v'.2 = v.2 ∧ (∀ P j : Nat, (P < 64 ∨ (64 < P ∧ P < 69) ∨ (78 < P ∧ P ≠ 92)) → w'.1 P j = w.1 P j) ∧ (∀ j : Nat, j ≠ 5 → w'.1 64 j = w.1 64 j) ∧ (∀ j : Nat, ¬ (144 * S ≤ j ∧ j < 144 * S + 144) → w'.1 72 j = w.1 72 j) ∧ (∀ j : Nat, j ≠ S → w'.1 73 j = w.1 73 j) ∧ (∀ j : Nat, ¬ (8 * S ≤ j ∧ j < 8 * S + 8) → w'.1 74 j = w.1 74 j) ∧ (∀ j : Nat, ¬ (192 * S ≤ j ∧ j < 192 * S + 192) → w'.1 75 j = w.1 75 j ∧ w'.1 76 j = w.1 76 j) ∧ w'.2 = w.2
theorem GF_rf {o S n : Nat} : GF o S n v w v w := ⟨fun _ _ _ _ => rfl, fun _ _ _ _ => rfl, rfl, fun _ _ _ => rfl, fun _ _ => rfl, fun _ _ => rfl, fun _ _ => rfl, fun _ _ => rfl, fun _ _ => ⟨rfl, rfl⟩, rfl⟩
theorem GF_tr {o S n n1 : Nat} (h1 : GF o S n v w v1 w1) (h2 : GF o S n1 v1 w1 v' w') (hn : n ≤ n1) : GF o S n v w v' w' := by
  obtain ⟨a1, a2, a3, a4, a5, a6, a7, a8, a9, a10⟩ := h1
  obtain ⟨b1, b2, b3, b4, b5, b6, b7, b8, b9, b10⟩ := h2
  exact ⟨fun t k ht hk => (b1 t k (by omega) hk).trans (a1 t k ht hk), fun P j p q => (b2 P j p q).trans (a2 P j p q), b3.trans a3, fun P j p => (b4 P j p).trans (a4 P j p), fun j p => (b5 j p).trans (a5 j p), fun j p => (b6 j p).trans (a6 j p), fun j p => (b7 j p).trans (a7 j p), fun j p => (b8 j p).trans (a8 j p), fun j p => ⟨(b9 j p).1.trans (a9 j p).1, (b9 j p).2.trans (a9 j p).2⟩, b10.trans a10⟩
theorem sv_r {n t p i : Nat} (hr : ∀ t k : Nat, t < n → k < 23 → v'.1 (21 + t) k = v.1 (21 + t) k) (ht : t < n) (hw : ∀ k : Nat, k < 24 → w'.1 p (i + k) = w.1 p (i + k)) (hs : sv v w t p i) : sv v' w' t p i := fun k hk => by
  rw [hw k hk, hs k hk]
  unfold rx
  by_cases e : k < 23
  · rw [if_pos e, if_pos e, hr t k ht e]
  · rw [if_neg e, if_neg e]
theorem EE_r {n n' o S e : Nat} (hr : ∀ t k : Nat, t < n → k < 23 → v'.1 (21 + t) k = v.1 (21 + t) k) (hn : n ≤ n') (h2 : v'.1 (o + 2) e = v.1 (o + 2) e) (h3 : v'.1 (o + 3) e = v.1 (o + 3) e) (h4 : v'.1 (o + 4) e = v.1 (o + 4) e) (g4 : w'.1 74 (8 * S + e) = w.1 74 (8 * S + e)) (g5 : ∀ k : Nat, k < 24 → w'.1 75 (24 * (8 * S + e) + k) = w.1 75 (24 * (8 * S + e) + k)) (g6 : ∀ k : Nat, k < 24 → w'.1 76 (24 * (8 * S + e) + k) = w.1 76 (24 * (8 * S + e) + k)) (h : EE n v w o S e) : EE n' v' w' o S e := by
  unfold EE at h ⊢
  rw [h2, h3, h4, g4]
  obtain ⟨e1, l, l1, l2, l3, e2⟩ := h
  refine ⟨e1, l, by omega, l2, sv_r hr l1 g5 l3, ?_⟩
  rcases e2 with ⟨m1, m2⟩ | ⟨m1, r, r1, r2, r3⟩
  · exact Or.inl ⟨m1, nv_x g6 m2⟩
  · exact Or.inr ⟨m1, r, by omega, r2, sv_r hr r1 g6 r3⟩
/-- no effect more -/
theorem OS_same {n n' o S c : Nat} (hr : ∀ t k : Nat, t < n → k < 23 → v'.1 (21 + t) k = v.1 (21 + t) k) (hn : n ≤ n') (ho1 : ∀ r : Nat, v'.1 (o + 1) r = v.1 (o + 1) r) (ho4 : v'.1 o 4 = v.1 o 4) (ho : ∀ P e : Nat, o + 2 ≤ P → P ≤ o + 4 → e < c → v'.1 P e = v.1 P e) (g2 : ∀ k : Nat, 144 * S ≤ k → k < 144 * S + 144 → w'.1 72 k = w.1 72 k) (g3 : w'.1 73 S = w.1 73 S) (g4 : ∀ e : Nat, e < 8 → w'.1 74 (8 * S + e) = w.1 74 (8 * S + e)) (g5 : ∀ k : Nat, 192 * S ≤ k → k < 192 * S + 192 → w'.1 75 k = w.1 75 k ∧ w'.1 76 k = w.1 76 k) (h : OS n v w o S c) : OS n' v' w' o S c := by
  obtain ⟨h1, ⟨h2, h3, h4⟩, h5⟩ := h
  refine ⟨fun r hr6 => ?_, ⟨ho4.trans h2, g3.trans h3, h4⟩, fun e he => ?_⟩
  · obtain ⟨t, t1, t2, t3⟩ := h1 r hr6
    exact ⟨t, by omega, (ho1 r).trans t2, sv_r hr t1 (fun k hk => g2 _ (by omega) (by omega)) t3⟩
  · exact EE_r hr hn (ho _ _ (by omega) (by omega) he) (ho _ _ (by omega) (by omega) he) (ho _ _ (by omega) (by omega) he) (g4 e (by omega)) (fun k hk => (g5 _ (by omega) (by omega)).1) (fun k hk => (g5 _ (by omega) (by omega)).2) (h5 e he)
/-- one effect more -/
theorem OS_add {n n' o S c p i q j : Nat} {K A B : Int32} (hr : ∀ t k : Nat, t < n → k < 23 → v'.1 (21 + t) k = v.1 (21 + t) k) (hn : n ≤ n') (h8 : c < 8) (ho1 : ∀ r : Nat, v'.1 (o + 1) r = v.1 (o + 1) r) (ho4 : v'.1 o 4 = Int32.ofNat (c + 1)) (ho : ∀ P e : Nat, o + 2 ≤ P → P ≤ o + 4 → e < c → v'.1 P e = v.1 P e) (hc : eM v' o K A B c) (g2 : ∀ k : Nat, 144 * S ≤ k → k < 144 * S + 144 → w'.1 72 k = w.1 72 k) (g3 : w'.1 73 S = Int32.ofNat (c + 1)) (g4 : ∀ e : Nat, e < c → w'.1 74 (8 * S + e) = w.1 74 (8 * S + e)) (g4c : w'.1 74 (8 * S + c) = K) (g5 : ∀ k : Nat, 192 * S ≤ k → k < 24 * (8 * S + c) → w'.1 75 k = w.1 75 k ∧ w'.1 76 k = w.1 76 k) (g5c : ∀ k : Nat, k < 24 → w'.1 75 (24 * (8 * S + c) + k) = w.1 p (i + k) ∧ w'.1 76 (24 * (8 * S + c) + k) = w.1 q (j + k)) (hQ : QE n v w K A B p i q j) (h : OS n v w o S c) : OS n' v' w' o S (c + 1) := by
  obtain ⟨h1, ⟨h2, h3, h4⟩, h5⟩ := h
  refine ⟨fun r hr6 => ?_, ⟨ho4, g3, by omega⟩, fun e he => ?_⟩
  · obtain ⟨t, t1, t2, t3⟩ := h1 r hr6
    exact ⟨t, by omega, (ho1 r).trans t2, sv_r hr t1 (fun k hk => g2 _ (by omega) (by omega)) t3⟩
  · by_cases z : e = c
    · subst z
      obtain ⟨c1, c2, c3⟩ := hc
      obtain ⟨l, l1, l2, l3, hQ⟩ := hQ
      have rx' : ∀ t k : Nat, t < n → rx v' t k = rx v t k := fun t k ht => by
        unfold rx
        by_cases e : k < 23
        · rw [if_pos e, if_pos e, hr t k ht e]
        · rw [if_neg e, if_neg e]
      unfold EE
      rw [c1, c2, c3, g4c]
      refine ⟨rfl, l, by omega, l2, fun k hk => ?_, ?_⟩
      · rw [(g5c k hk).1, rx' l k l1]
        exact l3 k hk
      · rcases hQ with ⟨m1, m2⟩ | ⟨m1, r, r1, r2, r3⟩
        · refine Or.inl ⟨m1, fun k hk => ?_⟩
          rw [(g5c k hk).2]
          exact m2 k hk
        · refine Or.inr ⟨m1, r, by omega, r2, fun k hk => ?_⟩
          rw [(g5c k hk).2, rx' r k r1]
          exact r3 k hk
    · exact EE_r hr hn (ho _ _ (by omega) (by omega) (by omega)) (ho _ _ (by omega) (by omega) (by omega)) (ho _ _ (by omega) (by omega) (by omega)) (g4 e (by omega)) (fun k hk => (g5 _ (by omega) (by omega)).1) (fun k hk => (g5 _ (by omega) (by omega)).2) (h5 e (by omega))
/-- loads: nothing of theirs is new -/
theorem LD_x {n n' a a' o c c' : Nat} (n22 : n ≤ 22) (n22' : n' ≤ 22) (hA : ∀ i : Nat, i < a → v.1 44 i = 8 → ∃ l : Nat, l < n ∧ v.1 45 i = Int32.ofNat l) (hr : ∀ t k : Nat, t < n → k < 23 → v'.1 (21 + t) k = v.1 (21 + t) k) (ha : a ≤ a') (ha2 : ∀ i : Nat, i < a → v'.1 44 i = v.1 44 i ∧ v'.1 45 i = v.1 45 i ∧ v'.1 46 i = v.1 46 i) (ha3 : ∀ i : Nat, a ≤ i → i < a' → ¬ v'.1 44 i = 8) (hc : c ≤ c') (hc2 : ∀ P e : Nat, o + 2 ≤ P → P ≤ o + 4 → e < c → v'.1 P e = v.1 P e) (hc3 : ∀ e : Nat, c ≤ e → e < c' → ¬ v'.1 (o + 2) e = 8) (hw : ∀ i : Nat, w'.1 92 i = w.1 92 i) (h : LD n a v w o c) : LD n' a' v' w' o c' := by
  obtain ⟨h1, h2, h3⟩ := h
  have em : ∀ (e : Nat) (K A B : Int32), e < c → (eM v' o K A B e ↔ eM v o K A B e) := fun e K A B he => by
    unfold eM
    rw [hc2 _ _ (by omega) (by omega) he, hc2 _ _ (by omega) (by omega) he, hc2 _ _ (by omega) (by omega) he]
  refine ⟨fun e he h8 => ?_, fun i hi h8 => ?_, fun i hi hi2 => (hw i).trans (h3 i (by omega) hi2)⟩
  · by_cases z : e < c
    · rw [hc2 _ _ (by omega) (by omega) z] at h8
      obtain ⟨i, i1, i2⟩ := h1 e z h8
      obtain ⟨b1, b2, b3⟩ := ha2 i i1
      refine ⟨i, by omega, ?_⟩
      unfold aM at i2 ⊢
      rw [b1, b2, b3, hc2 _ _ (by omega) (by omega) z, hc2 _ _ (by omega) (by omega) z]
      exact i2
    · exact absurd h8 (hc3 e (by omega) he)
  · by_cases z : i < a
    · obtain ⟨b1, b2, b3⟩ := ha2 i z
      rw [b1] at h8
      obtain ⟨m1, m2⟩ := h2 i z h8
      rw [hw i, b2, b3]
      refine ⟨fun q e he => ?_, fun q t ht ht2 hu => ?_⟩
      · by_cases y : e < c
        · rw [em _ _ _ _ y]
          exact m1 q e y
        · exact fun y2 => hc3 e (by omega) he y2.1
      · obtain ⟨l, l1, l2⟩ := hA i z h8
        obtain rfl : l = t := on_inj (by omega) (by omega) (l2.symm.trans ht2)
        obtain ⟨e, e1, e2⟩ := m2 q l l1 l2 (fun y => hu ⟨fun k hk hk1 => (hr l k l1 hk).trans (y.1 k hk hk1), by rw [hr l 0 l1 (by omega)]; exact y.2⟩)
        exact ⟨e, by omega, (em _ _ _ _ e1).mpr e2⟩
    · exact absurd h8 (ha3 i (by omega) hi)
theorem AR_l {n a : Nat} (hA : AR n a v w) (i : Nat) (hi : i < a) (h8 : v.1 44 i = 8) : ∃ l : Nat, l < n ∧ v.1 45 i = Int32.ofNat l := by
  obtain ⟨_, hE⟩ := hA.2.1 i hi
  rcases hE with hE | ⟨l, l1, l2, _⟩
  · rw [h8] at hE
    exact absurd hE (by decide)
  · exact ⟨l, l1, l2⟩
/-- another outcome is written: the values stay -/
theorem VI_f {n a : Nat} (h : VI n a v) (h1 : ∀ P j : Nat, 19 ≤ P → P ≤ 48 → v'.1 P j = v.1 P j) (h2 : v'.2 = v.2) : VI n a v' := by
  obtain ⟨a1, a2, a3, a4, a5, a6, a7, a8, a9⟩ := h
  refine ⟨(h1 _ _ (by omega) (by omega)).trans a1, (h1 _ _ (by omega) (by omega)).trans a2, a3, a4, by rw [h2]; exact a5, fun t ht => ?_, fun s t hs ht q => a7 s t hs ht (fun k hk => ?_), fun t k ht hk hk2 => (h1 _ _ (by omega) (by omega)).trans (a8 t k ht hk hk2), fun i hi => ?_⟩
  · rw [h1 _ _ (by omega) (by omega), a6 t ht]
    exact bI_c ⟨fun q k hk hk1 => (h1 _ _ (by omega) (by omega)).trans (q k hk hk1), fun q k hk hk1 => (h1 _ _ (by omega) (by omega)).symm.trans (q k hk hk1)⟩
  · have := q k hk
    rwa [h1 _ _ (by omega) (by omega), h1 _ _ (by omega) (by omega)] at this
  · obtain ⟨t, t1, t2, t3⟩ := a9 i hi
    exact ⟨t, t1, (h1 _ _ (by omega) (by omega)).trans t2, fun k hk => (h1 _ _ (by omega) (by omega)).trans (t3 k hk)⟩
theorem AR_f {n a : Nat} (n22 : n ≤ 22) (hA : AR n a v w) (h1 : ∀ P j : Nat, 19 ≤ P → P ≤ 48 → v'.1 P j = v.1 P j) (h5 : w'.1 64 5 = w.1 64 5) (h9 : ∀ P k : Nat, 69 ≤ P → P ≤ 71 → w'.1 P k = w.1 P k) : AR n a v' w' := by
  have hr : ∀ t k : Nat, t < n → k < 23 → v'.1 (21 + t) k = v.1 (21 + t) k := fun t k _ _ => h1 _ _ (by omega) (by omega)
  refine ⟨h5.trans hA.1, fun i hi => ?_, fun i j hi hj q => hA.2.2 i j hi hj ?_⟩
  · have hE := hA.2.1 i hi
    unfold AE at hE ⊢
    rw [h1 44 i (by omega) (by omega), h1 45 i (by omega) (by omega), h1 46 i (by omega) (by omega), h9 _ _ (by omega) (by omega)]
    obtain ⟨e1, e2⟩ := hE
    refine ⟨e1, ?_⟩
    rcases e2 with e2 | ⟨l, l1, l2, e2⟩
    · exact Or.inl e2
    · refine Or.inr ⟨l, l1, l2, ?_⟩
      have g0 : ∀ k : Nat, k < 24 → w'.1 70 (24 * i + k) = w.1 70 (24 * i + k) := fun k _ => h9 _ _ (by omega) (by omega)
      have g1 : ∀ k : Nat, k < 24 → w'.1 71 (24 * i + k) = w.1 71 (24 * i + k) := fun k _ => h9 _ _ (by omega) (by omega)
      rcases e2 with ⟨m1, m2, m3⟩ | ⟨m1, r, r1, r2, m2, m3⟩
      · exact Or.inl ⟨m1, sv_r hr l1 g0 m2, nv_x g1 m3⟩
      · refine Or.inr ⟨m1, r, r1, r2, ?_, m3⟩
        rcases m2 with ⟨m4, m5⟩ | ⟨m4, m5, m6⟩
        · exact Or.inl ⟨sv_r hr l1 g0 m4, sv_r hr r1 g1 m5⟩
        · exact Or.inr ⟨m4, sv_r hr r1 g0 m5, sv_r hr l1 g1 m6⟩
  · unfold aM at q ⊢
    rw [h1 44 i (by omega) (by omega), h1 45 i (by omega) (by omega), h1 46 i (by omega) (by omega), h1 44 j (by omega) (by omega), h1 45 j (by omega) (by omega), h1 46 j (by omega) (by omega)] at q
    exact q
end EI
