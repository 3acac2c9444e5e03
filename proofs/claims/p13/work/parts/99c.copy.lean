/-! copy: 192 words, one by one; by hand -/
section HCA
def hc_C (fr to : Nat) (pc : Nat) (k : ty_V) (ms : List Nat) (ps : List ty_P) : ty_C := ((161, pc, [(1, 64, 0), (7, fr, 0), (7, to, 0), k], (0, 0)), ([], [], ms, [], ps), [(0, 1)])
/-- at the head of the loop of words -/
def hc_stp (S : ty_S) : Bool := Nat.beq S.2.2.1.2.2.1 50
def hc_hd (fr to : Nat) (f : List ty_B → Value → Bool) (S : ty_S) : Bool := match S with
  | (iv, _, (d, mid, pc, [.ref a, .int x, .int y, v], []), []) => Nat.beq mid 161 && (Nat.beq pc 50 && (Nat.beq a 64 && (decide (x = Int32.ofInt fr) && (decide (y = Int32.ofInt to) && (Nat.ble 0 d.1 && (ty_isi v && f iv v))))))
  | _ => false
theorem hc_hd_ok {g : List ty_X} {C0 : ty_C} {l0 : Nat → Int32} {H0 : am_H} {σ : Nat → Int32} {fr to : Nat} {f : List ty_B → Value → Bool} {S : ty_S} {c : am_G} (ho : ty_ho g C0 l0 H0 σ S c) (hs : hc_hd fr to f S = true) : ∃ (d' : Nat × Nat) (L' : List Value) (H : am_H) (v : Value) (x : Int32), c = ((d', 161, 50, L', []), H, []) ∧ L'.length = 4 ∧ L'[0]? = some (.ref 64) ∧ L'[1]? = some (.int (Int32.ofInt fr)) ∧ L'[2]? = some (.int (Int32.ofInt to)) ∧ L'[3]? = some (.int x) ∧ sx_v σ v = .int x ∧ f S.1 v = true := by
  unfold hc_hd at hs
  split at hs
  · rename_i iv F d mid pc a x y v
    simp only [Bool.and_eq_true, decide_eq_true_eq] at hs
    obtain ⟨h1, h2, h3, h4, h5, _, h6, h7⟩ := hs
    obtain ⟨⟨d', mid', pc', L', st'⟩, H, K'⟩ := c
    obtain ⟨a1, a2, a3, ⟨k1, k2, k3, k4, k5⟩, a5, a6⟩ := ho
    dsimp only at a1 a2 a3 k1 k2 k3 k4 k5 a5 a6
    have e1 := Nat.eq_of_beq_eq_true h1
    have e2 := Nat.eq_of_beq_eq_true h2
    have e3 := Nat.eq_of_beq_eq_true h3
    subst e1 e2 e3 h4 h5
    have hK : K' = [] := by
      cases K' with
      | nil => rfl
      | cons _ _ => exact a5.elim
    subst k2 k3 k5 hK
    obtain ⟨z, hz⟩ := ty_isi_ok (σ := σ) h6
    refine ⟨d', L', H, v, z, rfl, by rw [← k4.1]; rfl, k4.2 0 _ rfl rfl, k4.2 1 _ rfl rfl, k4.2 2 _ rfl rfl, k4.2 3 _ (by rw [← hz]; rfl) rfl, hz, h7⟩
  · cases hs
def hc_k1 (iv : List ty_B) (v : Value) : Bool := match ty_or iv v with
  | some (b, o) => Nat.beq b 4 && decide (o = 1)
  | none => false
def hc_in (fr to : Nat) (S : ty_S) : Bool := match S.2.2.1.2.2.2.2 with
  | v :: j :: _ => (match ty_or S.1 j with
    | some (b, o) => Nat.beq b 4 && decide (o = 192 * (to : Int))
    | none => false) && (match ty_op S.1 67 4 (192 * (fr : Int) + 3) S.2.1 with
    | some v' => ty_ieq v' v
    | none => false)
  | _ => false
/-- one word -/
def hc_one (fr to : Nat) : Bool := ty_sg hp_g [] (hc_C fr to 50 (0, 0, 191) [] [(0, 0, 2, 0)]) (ty_bef 161 80 67) (fun S' => ty_sok 67 384 S' && (hc_in fr to S' && ty_sg hp_g [] (hc_C fr to 50 (0, 0, 191) [] [(0, 0, 2, 0)]) hc_stp (hc_hd fr to hc_k1) 10 (ty_aft S'))) 40 (ty_S0 (hc_C fr to 50 (0, 0, 191) [] [(0, 0, 2, 0)]))
theorem hc_none {g : List ty_X} {C0 : ty_C} {l0 : Nat → Int32} {H0 : am_H} {σ : Nat → Int32} {S : ty_S} {c : am_G} (ho : ty_ho g C0 l0 H0 σ S c) (hm : C0.2.1.2.2.1 = []) (hh : (am_hs S.2.2.1.2.1).isEmpty = true) : c.2.1 = H0 := by
  have h1 := ho.2.2.2.2.2.1
  rw [hm] at h1
  refine ty_un_nil h1 ?_
  rcases ho.2.2.2.2.2.2 with q | ⟨_, _, _, q⟩
  · exact q
  · rw [hh] at q
    cases q
theorem ty_bef_mid {mid pc a : Nat} {S : ty_S} (h : ty_bef mid pc a S = true) : S.2.2.1.2.1 = mid := by
  unfold ty_bef at h
  split at h
  · simp only [Bool.and_eq_true] at h
    exact Nat.eq_of_beq_eq_true h.1
  · cases h
theorem hc_hd_mid {fr to : Nat} {f : List ty_B → Value → Bool} {S : ty_S} (h : hc_hd fr to f S = true) : S.2.2.1.2.1 = 161 := by
  unfold hc_hd at h
  split at h
  · simp only [Bool.and_eq_true] at h
    exact Nat.eq_of_beq_eq_true h.1
  · cases h
theorem hc_one_ok {fr to : Nat} (hfr : fr ≤ 1) (hto : to ≤ 1) (hck : hc_one fr to = true) {d : Nat × Nat} {L : List Value} {h : am_H} {k : Nat} {fs : List Value} (hk : k < 192) (l1 : L.length = 4) (l2 : L[0]? = some (.ref 64)) (l3 : L[1]? = some (.int (Int32.ofInt fr))) (l4 : L[2]? = some (.int (Int32.ofInt to))) {z : Int32} (hz : z.toInt = (k : Int)) (l5 : L[3]? = some (.int z)) (hg : ty_gok hp_g h) (hf : h[67]? = some (32, fs)) :
    ∃ (d' : Nat × Nat) (L' : List Value) (x z' : Int32), L'.length = 4 ∧ L'[0]? = some (.ref 64) ∧ L'[1]? = some (.int (Int32.ofInt fr)) ∧ L'[2]? = some (.int (Int32.ofInt to)) ∧ L'[3]? = some (.int z') ∧ z'.toInt = (k : Int) + 1 ∧ fs[192 * fr + k]? = some (.int x) ∧ ty_gok hp_g (h.set 67 (32, fs.set (192 * to + k) (.int x))) ∧ ∀ r : am_O × am_H, am_Ev ((d', 161, 50, L', []), h.set 67 (32, fs.set (192 * to + k) (.int x)), []) r → am_Ev ((d, 161, 50, L, []), h, []) r := by
  have ha : ty_ar0 hp_g (hc_C fr to 50 (0, 0, 191) [] [(0, 0, 2, 0)]) d L h := by
    refine ⟨⟨Nat.zero_le _, Nat.zero_le _⟩, l1, fun n s hn hs => ?_, hg, fun q hq => absurd hq List.not_mem_nil⟩
    match n, hn with
    | 0, hn => cases hn; exact ⟨_, l2, rfl⟩
    | 1, hn => cases hn; exact ⟨_, l3, rfl⟩
    | 2, hn => cases hn; exact ⟨_, l4, rfl⟩
    | 3, hn => cases hn; exact ⟨_, l5, z, rfl, by show (0 : Int) ≤ _; omega, by show _ ≤ (191 : Int); omega⟩
    | n + 4, hn => cases hn
  obtain ⟨σ, ho⟩ := ty_start ha
  unfold hc_one at hck
  have hl3 : ty_l00 (hc_C fr to 50 (0, 0, 191) [] [(0, 0, 2, 0)]).1.2.2.1.length L h (hc_C fr to 50 (0, 0, 191) [] [(0, 0, 2, 0)]).2.1.2.2.2.1 3 = z := by
    unfold ty_l00
    rw [if_pos (by show 3 < 4; omega)]
    simp only [ty_lv, l5]
  rcases ty_sg_ok hg (fun C hC => absurd hC List.not_mem_nil) _ _ _ _ hck ho with ⟨r, _, r2⟩ | ⟨S', σ', c', b1, b2, b3, b4⟩
  · exact absurd r2 (ty_rs_no rfl List.mem_cons_self r)
  · simp only [Bool.and_eq_true] at b2
    obtain ⟨d1, d2, d3⟩ := b2
    have hh : c'.2.1 = h := hc_none b3 rfl (by rw [ty_bef_mid b1]; rfl)
    obtain ⟨v, j, r, x, w, fs1, c2, e1, e2, e3, e4, e5, e6, e7, e8, e9, e10⟩ := ty_hand b3 b1 d1 rfl hp_g1 rfl
    rw [hh, hf] at e7
    cases e7
    unfold hc_in at d2
    rw [e1] at d2
    simp only [Bool.and_eq_true] at d2
    obtain ⟨f1, f2⟩ := d2
    have hσ : σ' 3 = z := by
      rw [b3.1.2.2.2 3 (by show 3 < 4; omega)]
      exact hl3
    split at f1
    · rename_i b o hor
      simp only [Bool.and_eq_true, decide_eq_true_eq] at f1
      obtain ⟨f1, f3⟩ := f1
      obtain rfl := Nat.eq_of_beq_eq_true f1
      subst f3
      obtain ⟨w2, g1, g2⟩ := ty_or_ok b3.1 hor
      rw [e3] at g1
      cases g1
      have g2 : w.toInt = (σ' 3).toInt + 192 * (to : Int) := g2
      rw [hσ, hz] at g2
      have hw : w.toNatClampNeg = 192 * to + k := by
        have := ty_cl e4
        omega
      split at f2
      · rename_i v' hop
        obtain ⟨i', o', m1, m2, m3⟩ := ty_op_ok hop
        obtain ⟨w3, o3, o4⟩ := ty_or_ok b3.1 m2
        obtain ⟨y, j', p1, p2, p3, p4⟩ := b3.2.2.1 _ _ _ m1
        rw [hh, hf] at p1
        cases p1
        rw [o3] at p2
        cases p2
        have o4 : w3.toInt = (σ' 3).toInt + o' := o4
        rw [hσ, hz] at o4
        have hw3 : w3.toNatClampNeg = 192 * fr + k := by
          have := ty_cl p3
          omega
        have hv : v' = v := ty_ieq_ok f2
        rw [hv, e2, hw3] at p4
        rw [hh, hw] at e8
        have hg2 : ty_gok hp_g c2.2.1 := e9.2.1
        rcases ty_sg_ok hg2 (fun C hC => absurd hC List.not_mem_nil) _ _ _ _ d3 e9 with ⟨r, _, r2⟩ | ⟨S2, σ2, c3, t1, t2, t3, t4⟩
        · exact absurd r2 (ty_rs_no rfl List.mem_cons_self r)
        · have hh3 : c3.2.1 = c2.2.1 := hc_none t3 rfl (by rw [hc_hd_mid t2]; rfl)
          obtain ⟨d', L', H', v2, x2, u1, u2, u3, u4, u5, u6, u7, u8⟩ := hc_hd_ok t3 t2
          subst u1
          have hh3 : H' = h.set 67 (32, fs.set (192 * to + k) (.int x)) := by
            rw [← e8]
            exact hh3
          subst hh3
          refine ⟨d', L', x, x2, u2, u3, u4, u5, u6, ?_, p4, by rw [← e8]; exact hg2, fun R hR => b4 R (e10 R (t4 R hR))⟩
          unfold hc_k1 at u8
          split at u8
          · rename_i b o hor2
            simp only [Bool.and_eq_true, decide_eq_true_eq] at u8
            obtain ⟨u8, u9⟩ := u8
            obtain rfl := Nat.eq_of_beq_eq_true u8
            subst u9
            obtain ⟨w4, g3, g4⟩ := ty_or_ok t3.1 hor2
            rw [u7] at g3
            cases g3
            have g4 : x2.toInt = (σ2 3).toInt + 1 := g4
            rw [t3.1.2.2.2 3 (by show 3 < 4; omega), hl3, hz] at g4
            exact g4
          · cases u8
      · cases f2
    · cases f1
/-- the rest: from a word on -/
theorem hc_loop {fr to : Nat} (hft : (fr = 0 ∧ to = 1) ∨ (fr = 1 ∧ to = 0)) (hck : hc_one fr to = true) (hend : ty_ck hp_g [] 2000 (hc_C fr to 50 (7, 192, 0) [68] []) = true) : ∀ (m k : Nat), k + m = 192 → ∀ (d : Nat × Nat) (L : List Value) (h : am_H) (fs : List Value) (z : Int32), L.length = 4 → L[0]? = some (.ref 64) → L[1]? = some (.int (Int32.ofInt fr)) → L[2]? = some (.int (Int32.ofInt to)) → z.toInt = (k : Int) → L[3]? = some (.int z) → ty_gok hp_g h → h[67]? = some (32, fs) → fs.length = 384 →
    ∃ (h' : am_H) (fs' : List Value), am_Ev ((d, 161, 50, L, []), h, []) (.inl none, h') ∧ ty_gok hp_g h' ∧ h'.length = h.length ∧ (∀ p : Nat, p ≠ 67 → p ≠ 68 → h'[p]? = h[p]?) ∧ h'[67]? = some (32, fs') ∧ fs'.length = 384 ∧ ∀ f : Nat, fs'[f]? = if 192 * to + k ≤ f ∧ f < 192 * to + 192 then fs[f - 192 * to + 192 * fr]? else fs[f]? := by
  intro m
  induction m with
  | zero =>
    intro k hk d L h fs z l1 l2 l3 l4 hz l5 hg hf hfl
    have hz : z = Int32.ofInt 192 := by
      rw [show (192 : Int) = z.toInt by omega, Int32.ofInt_toInt]
    have ha : ty_ar0 hp_g (hc_C fr to 50 (7, 192, 0) [68] []) d L h := by
      refine ⟨⟨Nat.zero_le _, Nat.zero_le _⟩, l1, fun n s hn hs => ?_, hg, fun q hq => absurd hq List.not_mem_nil⟩
      match n, hn with
      | 0, hn => cases hn; exact ⟨_, l2, rfl⟩
      | 1, hn => cases hn; exact ⟨_, l3, rfl⟩
      | 2, hn => cases hn; exact ⟨_, l4, rfl⟩
      | 3, hn => cases hn; exact ⟨_, l5, by rw [hz]; rfl⟩
      | n + 4, hn => cases hn
    obtain ⟨⟨o, h'⟩, r1, r2, r3, r4⟩ := ty_tabs (g := hp_g) (TT := [hc_C fr to 50 (7, 192, 0) [68] []]) (fun C hC => Or.inr (by
      rw [List.mem_singleton.mp hC]
      exact ⟨by show 1 ≤ 8; omega, [], 2000, fun D hD => absurd hD List.not_mem_nil, hend⟩)) _ (List.mem_singleton.mpr rfl) d L h ha
    cases o with
    | inr X => exact absurd r4.1 List.not_mem_nil
    | inl v =>
      obtain ⟨y1, _, y3⟩ := r4
      have hl : h'.length = h.length := by
        rcases y1 with y1 | ⟨_, y1⟩
        · exact y1
        · cases y1
      have hv : v = none := by
        cases v with
        | none => rfl
        | some w =>
          obtain ⟨s, hs, _⟩ := y3
          exact absurd hs List.not_mem_nil
      subst hv
      have same : ∀ p : Nat, p ≠ 68 → h'[p]? = h[p]? := fun p hp => by
        cases hq : h[p]? with
        | some x => exact r3 p (fun q => hp (List.mem_singleton.mp q)) x hq
        | none =>
          rw [List.getElem?_eq_none_iff] at hq ⊢
          omega
      refine ⟨h', fs, r1, r2, hl, fun p _ hp => same p hp, by rw [same 67 (by omega)]; exact hf, hfl, fun f => ?_⟩
      rw [if_neg (by omega)]
  | succ m ih =>
    intro k hk d L h fs z l1 l2 l3 l4 hz l5 hg hf hfl
    obtain ⟨d', L', x, z', u1, u2, u3, u4, u5, u6, u7, u8, u9⟩ := hc_one_ok (by omega) (by omega) hck (d := d) (by omega) l1 l2 l3 l4 hz l5 hg hf
    have hl67 : 67 < h.length := (List.getElem?_eq_some_iff.mp hf).1
    obtain ⟨h', fs', v1, v2, v3, v4, v5, v6, v7⟩ := ih (k + 1) (by omega) d' L' (h.set 67 (32, fs.set (192 * to + k) (.int x))) (fs.set (192 * to + k) (.int x)) z' u1 u2 u3 u4 (by omega) u5 u8 (List.getElem?_set_self hl67) (by rw [List.length_set]; exact hfl)
    refine ⟨h', fs', u9 _ v1, v2, by rw [v3, List.length_set], fun p hp hq => by rw [v4 p hp hq, List.getElem?_set_ne (fun e => hp e.symm)], v5, v6, fun f => ?_⟩
    rw [v7]
    by_cases q1 : 192 * to + (k + 1) ≤ f ∧ f < 192 * to + 192
    · rw [if_pos q1, if_pos (by omega), List.getElem?_set_ne (by omega)]
    · rw [if_neg q1]
      by_cases q2 : f = 192 * to + k
      · rw [if_pos (by omega), q2, List.getElem?_set_self (by omega), show 192 * to + k - 192 * to + 192 * fr = 192 * fr + k by omega, u7]
      · rw [if_neg (by omega), List.getElem?_set_ne (by omega)]
theorem hc_rows {fr to : Nat} (hft : (fr = 0 ∧ to = 1) ∨ (fr = 1 ∧ to = 0)) {fs fs' : List Value} (hc : ty_cok (32, 384, hp_rows) (32, fs)) (hl : fs'.length = 384) (hf : ∀ f : Nat, fs'[f]? = if 192 * to ≤ f ∧ f < 192 * to + 192 then fs[f - 192 * to + 192 * fr]? else fs[f]?) : ty_cok (32, 384, hp_rows) (32, fs') := by
  rw [ty_cok_arr rfl] at hc ⊢
  obtain ⟨c1, c2, c3, c4⟩ := hc
  dsimp only at c2 c3 c4
  refine ⟨rfl, hl, fun f k v hk hv => ?_, fun lo hi hq f v hr hv => ?_⟩
  · have hk4 : hp_rows[f % 4]? = some k := hk
    dsimp only at hv
    rw [hf] at hv
    split at hv
    · refine c3 (f - 192 * to + 192 * fr) k v ?_ hv
      show hp_rows[(f - 192 * to + 192 * fr) % 4]? = _
      rw [show (f - 192 * to + 192 * fr) % 4 = f % 4 by omega]
      exact hk4
    · exact c3 f k v hk hv
  · dsimp only at hv ⊢
    rw [hf] at hv ⊢
    by_cases q : 192 * to ≤ f ∧ f < 192 * to + 192
    · rw [if_pos q] at hv
      rw [if_pos (by omega)]
      have := c4 lo hi hq (f - 192 * to + 192 * fr) v (by omega) hv
      rw [show f - 192 * to + 192 * fr - 3 = f - 3 - 192 * to + 192 * fr by omega] at this
      exact this
    · rw [if_neg q] at hv
      rw [if_neg (by omega)]
      exact c4 lo hi hq f v hr hv
def hc_k0 (_ : List ty_B) (v : Value) : Bool := ty_ieq v (.int 0)
theorem hc_ok {fr to : Nat} (hft : (fr = 0 ∧ to = 1) ∨ (fr = 1 ∧ to = 0)) (hck : hc_one fr to = true) (hend : ty_ck hp_g [] 2000 (hc_C fr to 50 (7, 192, 0) [68] []) = true) (hst : ty_sg hp_g [] (hc_C fr to 0 (3, 0, 0) [65, 66] [(0, 0, 2, 0)]) hc_stp (hc_hd fr to hc_k0) 300 (ty_S0 (hc_C fr to 0 (3, 0, 0) [65, 66] [(0, 0, 2, 0)])) = true)
    (rk : List (Nat × Nat)) (d : Nat × Nat) (L : List Value) (h : am_H) (ha : ty_ar0 tc_g ((161, 0, [(1, 64, 0), (7, fr, 0), (7, to, 0), (3, 0, 0)], (0, 0)), ([], [], [65, 66, 67, 68], [], []), rk) d L h) : ty_vd tc_g ((161, 0, [(1, 64, 0), (7, fr, 0), (7, to, 0), (3, 0, 0)], (0, 0)), ([], [], [65, 66, 67, 68], [], []), rk) d L h := by
  obtain ⟨a1, a2, a3, a4, a5⟩ := ha
  have hg1 := hp_gok a4
  obtain ⟨⟨tx, fs⟩, f1, f2⟩ := a4 67 _ hp_g67
  have f3 := f2
  rw [ty_cok_arr rfl] at f3
  obtain ⟨p1, p2, _⟩ := f3
  dsimp only at p1 p2
  subst p1
  have ha1 : ty_ar0 hp_g (hc_C fr to 0 (3, 0, 0) [65, 66] [(0, 0, 2, 0)]) d L h := ⟨a1, a2, a3, hg1, a5⟩
  obtain ⟨σ, ho⟩ := ty_start ha1
  rcases ty_sg_ok hg1 (fun C hC => absurd hC List.not_mem_nil) _ _ _ _ hst ho with ⟨r, _, r2⟩ | ⟨S', σ', c', b1, b2, b3, b4⟩
  · exact absurd r2 (ty_rs_no rfl List.mem_cons_self r)
  · obtain ⟨d', L', H', v2, x2, u1, u2, u3, u4, u5, u6, u7, u8⟩ := hc_hd_ok b3 b2
    subst u1
    have hl : H'.length = h.length := by
      rcases b3.2.2.2.2.2.2 with q | ⟨_, _, _, q⟩
      · exact q
      · rw [hc_hd_mid b2] at q
        cases q
    have hun : ty_un [65, 66] h H' := b3.2.2.2.2.2.1
    have hx : x2 = 0 := by
      have := ty_ieq_ok u8
      rw [this] at u7
      cases u7
      rfl
    obtain ⟨h', fs', i1, i2, i3, i4, i5, i6, i7⟩ := hc_loop hft hck hend 192 0 rfl d' L' H' fs x2 u2 u3 u4 u5 (by rw [hx]; rfl) u6 b3.2.1 (hun 67 (by decide) _ f1) p2
    have hcok : ty_cok (32, 384, hp_rows) (32, fs') := hc_rows hft f2 i6 (fun f => by rw [i7 f, Nat.add_zero])
    refine ⟨(.inl none, h'), b4 _ i1, hp_gok2 i2 i5 hcok, fun p hp y hy => ?_, Or.inl (by show h'.length = h.length; rw [i3, hl]), fun q hq => absurd hq List.not_mem_nil, rfl⟩
    have hp : p ∉ [65, 66, 67, 68] := hp
    have hp1 : p ≠ 65 ∧ p ≠ 66 ∧ p ≠ 67 ∧ p ≠ 68 := by simpa using hp
    show h'[p]? = some y
    rw [i4 p hp1.2.2.1 hp1.2.2.2]
    exact hun p (by simp [hp1.1, hp1.2.1]) y hy
end HCA
