/-! INTS THAT ARE NOT KNOWN: .retAddr (k + 1) stands for the int that σ gives to k; what the abstract machine does with it, it does with every int there -/
def sx_v (σ : Nat → Int32) : Value → Value
  | .retAddr (k + 1) => .int (σ k)
  | v => v
def sx_c (σ : Nat → Int32) (x : am_C) : am_C := (x.1, x.2.map (sx_v σ))
def sx_k (σ : Nat → Int32) (q : am_K) : am_K := (q.1, q.2.1, q.2.2.1, q.2.2.2.1.map (sx_v σ), q.2.2.2.2.map (sx_v σ))
def sx_g (σ : Nat → Int32) (c : am_G) : am_G := (sx_k σ c.1, c.2.1.map (sx_c σ), c.2.2.map (sx_k σ))
section SXA
variable {σ : Nat → Int32}
theorem sx_kn : ∀ {v : Value}, am_kn v = true → sx_v σ v = v
  | .int _, _ => rfl
  | .ref _, _ => rfl
theorem sx_fit {t : FieldType} {v : Value} (h : am_fit t v = true) : sx_v σ v = v := by
  unfold am_fit at h
  split at h <;> first | rfl | cases h
theorem sx_vref (a : Addr) : sx_v σ (.ref a) = .ref a := rfl
theorem sx_vint (a : Int32) : sx_v σ (.int a) = .int a := rfl
theorem sx_dv (k : Nat) : sx_v σ (am_dv k) = am_dv k := by
  unfold am_dv
  split <;> rfl
theorem sx_df (ci : Nat) : (am_df ci).map (sx_v σ) = am_df ci := by
  by_cases h : ci < 10
  · match ci, h with
    | 0, _ => rfl
    | 1, _ => rfl
    | 2, _ => rfl
    | 3, _ => rfl
    | 4, _ => rfl
    | 5, _ => rfl
    | 6, _ => rfl
    | 7, _ => rfl
    | 8, _ => rfl
    | 9, _ => rfl
    | n + 10, h => omega
  · have : am_df ci = [] := by
      unfold am_df
      rw [if_neg (fun q => h (by simpa [Nat.blt_eq] using q))]
    rw [this]
    rfl
theorem sx_step {mid pc : Nat} {L st : List Value} {h : am_H} {i : Jvm.ClassFile.Instr} {pc' : Nat} {L' st' : List Value} {h' : am_H} (hs : am_step mid pc L st h i = some (pc', L', st', h')) :
    am_step mid pc (L.map (sx_v σ)) (st.map (sx_v σ)) (h.map (sx_c σ)) i = some (pc', L'.map (sx_v σ), st'.map (sx_v σ), h'.map (sx_c σ)) := by
  unfold am_step at hs
  split at hs
  all_goals (try simp only [am_ald, am_ast] at hs)
  all_goals (repeat' (split at hs))
  all_goals first
    | (cases hs; done)
    | (cases hs; simp [am_step, sx_v, *]; done)
    | (cases hs; simp [am_step, am_ald, am_ast, sx_v, sx_c, List.map_set, *]; done)
    | (cases hs; simp [am_step, sx_c, sx_vref, sx_vint, sx_dv, *]; done)
    | (cases hs; simp [am_step, sx_c, sx_v, sx_df, *]; done)
    | (rename_i hk; cases hs; simp [am_step, sx_kn hk, hk]; done)
    | (rename_i hk; cases hs; simp only [Bool.and_eq_true] at hk; simp [am_step, sx_kn hk.1, sx_kn hk.2, hk]; done)
    | (rename_i hk; cases hs; simp only [Bool.and_eq_true] at hk; simp [am_step, sx_kn hk.1, sx_kn hk.2.1, sx_kn hk.2.2, hk]; done)
    | (rename_i hk; cases hs; simp only [Bool.and_eq_true] at hk; simp [am_step, sx_c, sx_vref, List.map_set, sx_fit hk.2.2.2.1, *]; done)
theorem sx_cat : ∀ v : Value, (sx_v σ v).category = v.category
  | .retAddr 0 => rfl
  | .retAddr (_ + 1) => rfl
  | .int _ => rfl
  | .ref _ => rfl
  | .null => rfl
  | .long _ => rfl
  | .float _ => rfl
  | .double _ => rfl
theorem sx_wt : ∀ l : List Value, am_wt (l.map (sx_v σ)) = am_wt l
  | [] => rfl
  | v :: r => by simp only [List.map_cons, am_wt, sx_cat, sx_wt r]
theorem sx_sz : ∀ h : am_H, am_sz (h.map (sx_c σ)) = am_sz h
  | [] => rfl
  | x :: r => by simp only [List.map_cons, am_sz, sx_sz r, am_csz, sx_c, List.length_map]
/-- known, or an int that is not known -/
def sx_kv : Value → Bool
  | .int _ => true
  | .ref _ => true
  | .retAddr (_ + 1) => true
  | _ => false
def sx_kvs : List Value → Bool
  | [] => true
  | v :: r => sx_kv v && sx_kvs r
theorem sx_kvs_kns : ∀ l : List Value, sx_kvs l = true → am_kns (l.map (sx_v σ)) = true
  | [], _ => rfl
  | v :: r, h => by
    simp only [sx_kvs, Bool.and_eq_true] at h
    simp only [List.map_cons, am_kns, sx_kvs_kns r h.2, Bool.and_true]
    match v, h.1 with
    | .int _, _ => rfl
    | .ref _, _ => rfl
    | .retAddr (_ + 1), _ => rfl
theorem sx_kns_kvs : ∀ l : List Value, am_kns l = true → sx_kvs l = true
  | [], _ => rfl
  | v :: r, h => by
    simp only [am_kns, Bool.and_eq_true] at h
    simp only [sx_kvs, sx_kns_kvs r h.2, Bool.and_true]
    match v, h.1 with
    | .int _, _ => rfl
    | .ref _, _ => rfl
theorem sx_rcv {k : Nat} {as : List Value} {h : am_H} (hr : am_rcv k as h = true) : am_rcv k (as.map (sx_v σ)) (h.map (sx_c σ)) = true := by
  unfold am_rcv at hr ⊢
  split at hr
  · rename_i he
    simp [he]
  · rename_i he
    split at hr
    · rename_i a r
      split at hr
      · rename_i tg fs hq
        simp [sx_v, sx_c, hq, hr]
      · cases hr
    · cases hr
theorem sx_copy {h h' : am_H} {n dp : Int32} {b : Nat} {sp : Int32} {a : Nat} (hc : am_copy h n dp b sp a = some h') : am_copy (h.map (sx_c σ)) n dp b sp a = some (h'.map (sx_c σ)) := by
  unfold am_copy at hc
  repeat' (split at hc)
  all_goals first
    | (cases hc; done)
    | (cases hc; simp [am_copy, sx_c, List.map_set, *]; done)
theorem sx_pop : ∀ {K : List am_K} {o : am_O} {h : am_H} {c : am_G}, am_pop K o h = some c → am_pop (K.map (sx_k σ)) (match o with | .inl v => .inl (v.map (sx_v σ)) | .inr X => .inr X) (h.map (sx_c σ)) = some (sx_g σ c)
  | [], _, _, _, hp => by cases hp
  | q :: K, .inl v, h, c, hp => by
    cases hp
    cases v <;> simp [am_pop, sx_g, sx_k]
  | q :: K, .inr X, h, c, hp => by
    simp only [am_pop] at hp
    have e1 : (sx_k σ q).2.1 = q.2.1 := rfl
    have e2 : (sx_k σ q).2.2.1 = q.2.2.1 := rfl
    simp only [List.map_cons, am_pop, e1, e2]
    cases hq : am_hdl (am_hs q.2.1) q.2.2.1 X with
    | some z =>
      rw [hq] at hp
      cases hp
      simp [sx_g, sx_k, sx_v]
    | none =>
      rw [hq] at hp
      dsimp only at hp ⊢
      split at hp
      · cases hp
      · rename_i hc
        rw [if_neg hc]
        exact sx_pop hp
end SXA
