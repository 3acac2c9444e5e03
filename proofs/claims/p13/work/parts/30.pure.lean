/-! THE ABSTRACT MACHINE'S STEPS THAT TOUCH NO CELL ARE THE MACHINE'S -/
def am_rv (ad : Nat → Nat) : Value → Value
  | .ref k => .ref (ad k)
  | v => v
/-- lengths and goals of instructions, as decode has them -/
def am_lenok (pc : Nat) (i : Jvm.ClassFile.Instr) (len : Nat) : Bool := match i with
  | .bipush _ | .iload _ | .aload _ | .istore _ | .astore _ | .ldc _ | .newarray _ => Nat.beq len 2
  | .sipush _ | .iinc _ _ | .getfield _ | .putfield _ | .getstatic _ | .new _ | .invokevirtual _ | .invokespecial _ | .invokestatic _ => Nat.beq len 3
  | .goto o => Nat.beq len 3 && decide (0 ≤ (pc : Int) + o)
  | .ifCond _ o => Nat.beq len 3 && decide (0 ≤ (pc : Int) + o)
  | .if_icmp _ o => Nat.beq len 3 && decide (0 ≤ (pc : Int) + o)
  | .tableswitch d _ _ os => decide (0 ≤ (pc : Int) + d) && os.toList.all (fun o => decide (0 ≤ (pc : Int) + o))
  | .lookupswitch d ps => decide (0 ≤ (pc : Int) + d) && (ps.toList.all (fun o => decide (0 ≤ (pc : Int) + o.2)) && (ps.toList.zip (ps.toList.drop 1)).all (fun (a, next) => a.1 < next.1))
  | .multianewarray _ _ => Nat.beq len 4
  | _ => Nat.beq len 1
def am_L (ad : Nat → Nat) (L : List Value) (nL : Nat) (ls : Array Slot) : Prop :=
  L.length = nL ∧ ∃ lv, lv_has ls nL lv ∧ ∀ (k : Nat) (v : Value), L[k]? = some v → am_kn v = true → (k, am_rv ad v) ∈ lv
theorem am_kn_cat {ad : Nat → Nat} {v : Value} (h : am_kn v = true) : (am_rv ad v).category = 1 := by
  cases v <;> first | rfl | (simp [am_kn] at h)
theorem am_L.get {ad : Nat → Nat} {L : List Value} {nL : Nat} {ls : Array Slot} (h : am_L ad L nL ls) {k : Nat} {v : Value} (hk : L[k]? = some v) (hv : am_kn v = true) : ls[k]? = some (.val (am_rv ad v)) := by
  obtain ⟨-, lv, h1, h2⟩ := h
  exact h1.2.2 (k, am_rv ad v) (h2 k v hk hv)
theorem am_L.put {ad : Nat → Nat} {L : List Value} {nL : Nat} {ls' : Array Slot} {lv : List (Nat × Value)} {k : Nat} {v : Value} (hlen : L.length = nL) (h2 : ∀ (k : Nat) (v : Value), L[k]? = some v → am_kn v = true → (k, am_rv ad v) ∈ lv)
    (h' : lv_has ls' nL ((k, am_rv ad v) :: lv.filter (fun q => !(q.1 == k) && !(q.1 + 1 == k && q.2.category == 2)))) : am_L ad (L.set k v) nL ls' := by
  refine ⟨by simp [hlen], _, h', fun j w hj hw => ?_⟩
  by_cases e : j = k
  · subst e
    have hlt : j < L.length := by
      have := (List.getElem?_eq_some_iff.mp hj).1
      simpa using this
    rw [List.getElem?_set_self hlt] at hj
    cases hj
    exact List.mem_cons_self
  · rw [List.getElem?_set_ne (Ne.symm e)] at hj
    refine List.mem_cons_of_mem _ (List.mem_filter.mpr ⟨h2 j w hj hw, ?_⟩)
    have hc := am_kn_cat (ad := ad) hw
    simp [e, hc]
theorem am_jmp_eq {pc : Nat} {o : Int} (h : 0 ≤ (pc : Int) + o) : (pc : Int) + o = ((am_jmp pc o : Nat) : Int) := by
  unfold am_jmp
  omega
section AMP
variable {p : Program} {l : Launch} {e : Env} {R : Room} {s : State} {m : MethodId} {args : Array Value} {below : List Frame} {meth : Method} {c : Code} {H : Heap} {locs : List Loc} {cells slots : Nat} {Q : State → Prop}
/-- a step of an instruction that touches no cell -/
abbrev am_Ok (p : Program) (l : Launch) (e : Env) (R : Room) (s : State) (m : MethodId) (args : Array Value) (below : List Frame) (meth : Method) (c : Code) (H : Heap) (locs : List Loc) (cells slots : Nat) (Q : State → Prop) (i : Jvm.ClassFile.Instr) : Prop :=
  ∀ (ad : Nat → Nat) (nL mid pc len : Nat) (L st : List Value) (h : am_H) (pc' : Nat) (L' st' : List Value) (h' : am_H) (ls : Array Slot), decode c.code pc = .ok (i, len) → am_lenok pc i len = true → am_step mid pc L st h i = some (pc', L', st', h') → am_L ad L nL ls →
    (h' = h → ∀ ls' : Array Slot, am_L ad L' nL ls' → W p l e R s m args below meth c H locs cells slots Q (F0 m pc' ls' (st'.map (am_rv ad)))) → W p l e R s m args below meth c H locs cells slots Q (F0 m pc ls (st.map (am_rv ad)))
theorem am_k_iconst (hx : p.tables.exec = Jvm.exec) (n : Int) : am_Ok p l e R s m args below meth c H locs cells slots Q (.iconst n) := by
  intro ad nL mid pc len L st h pc' L' st' h' ls hd hn hs hl kk
  obtain rfl : len = 1 := Nat.eq_of_beq_eq_true hn
  cases hs
  exact lv_iconst hx rfl hd rfl (kk rfl ls hl)
theorem am_k_bipush (hx : p.tables.exec = Jvm.exec) (n : Int) : am_Ok p l e R s m args below meth c H locs cells slots Q (.bipush n) := by
  intro ad nL mid pc len L st h pc' L' st' h' ls hd hn hs hl kk
  obtain rfl : len = 2 := Nat.eq_of_beq_eq_true hn
  cases hs
  exact lv_bipush hx rfl hd rfl (kk rfl ls hl)
theorem am_k_sipush (hx : p.tables.exec = Jvm.exec) (n : Int) : am_Ok p l e R s m args below meth c H locs cells slots Q (.sipush n) := by
  intro ad nL mid pc len L st h pc' L' st' h' ls hd hn hs hl kk
  obtain rfl : len = 3 := Nat.eq_of_beq_eq_true hn
  cases hs
  exact lv_sipush hx rfl hd rfl (kk rfl ls hl)
theorem am_k_lconst (hx : p.tables.exec = Jvm.exec) (n : Fin 2) : am_Ok p l e R s m args below meth c H locs cells slots Q (.lconst n) := by
  intro ad nL mid pc len L st h pc' L' st' h' ls hd hn hs hl kk
  obtain rfl : len = 1 := Nat.eq_of_beq_eq_true hn
  cases hs
  exact lv_lconst hx rfl hd rfl (kk rfl ls hl)
theorem am_k_iload_n (hx : p.tables.exec = Jvm.exec) (k : Fin 4) : am_Ok p l e R s m args below meth c H locs cells slots Q (.iload_n k) := by
  intro ad nL mid pc len L st h pc' L' st' h' ls hd hn hs hl kk
  obtain rfl : len = 1 := Nat.eq_of_beq_eq_true hn
  simp only [am_step] at hs
  split at hs
  · rename_i x hk
    cases hs
    exact lv_iload_n hx rfl hd rfl (hl.get hk rfl) (kk rfl ls hl)
  · cases hs
theorem am_k_iload (hx : p.tables.exec = Jvm.exec) (k : Nat) : am_Ok p l e R s m args below meth c H locs cells slots Q (.iload k) := by
  intro ad nL mid pc len L st h pc' L' st' h' ls hd hn hs hl kk
  obtain rfl : len = 2 := Nat.eq_of_beq_eq_true hn
  simp only [am_step] at hs
  split at hs
  · rename_i x hk
    cases hs
    exact lv_iload hx rfl hd (hl.get hk rfl) (kk rfl ls hl)
  · cases hs
theorem am_k_aload_n (hx : p.tables.exec = Jvm.exec) (k : Fin 4) : am_Ok p l e R s m args below meth c H locs cells slots Q (.aload_n k) := by
  intro ad nL mid pc len L st h pc' L' st' h' ls hd hn hs hl kk
  obtain rfl : len = 1 := Nat.eq_of_beq_eq_true hn
  simp only [am_step] at hs
  split at hs
  · rename_i x hk
    cases hs
    exact lv_aload_n hx rfl hd rfl (hl.get hk rfl) (kk rfl ls hl)
  · cases hs
theorem am_k_aload (hx : p.tables.exec = Jvm.exec) (k : Nat) : am_Ok p l e R s m args below meth c H locs cells slots Q (.aload k) := by
  intro ad nL mid pc len L st h pc' L' st' h' ls hd hn hs hl kk
  obtain rfl : len = 2 := Nat.eq_of_beq_eq_true hn
  simp only [am_step] at hs
  split at hs
  · rename_i x hk
    cases hs
    exact lv_aload hx rfl hd (hl.get hk rfl) (kk rfl ls hl)
  · cases hs
theorem am_k_istore_n (hx : p.tables.exec = Jvm.exec) (k : Fin 4) : am_Ok p l e R s m args below meth c H locs cells slots Q (.istore_n k) := by
  intro ad nL mid pc len L st h pc' L' st' h' ls hd hn hs hl kk
  obtain rfl : len = 1 := Nat.eq_of_beq_eq_true hn
  simp only [am_step] at hs
  split at hs
  · rename_i x r
    split at hs
    · rename_i hq
      cases hs
      have hk : k < L.length := Nat.le_of_ble_eq_true hq
      obtain ⟨hlen, lv, h1, h2⟩ := hl
      exact lv_istore_n hx rfl hd rfl h1 (by rw [← hlen]; exact hk) rfl (fun ls' h3 => kk rfl ls' (am_L.put (v := .int x) hlen h2 h3))
    · cases hs
  · cases hs
theorem am_k_istore (hx : p.tables.exec = Jvm.exec) (k : Nat) : am_Ok p l e R s m args below meth c H locs cells slots Q (.istore k) := by
  intro ad nL mid pc len L st h pc' L' st' h' ls hd hn hs hl kk
  obtain rfl : len = 2 := Nat.eq_of_beq_eq_true hn
  simp only [am_step] at hs
  split at hs
  · rename_i x r
    split at hs
    · rename_i hq
      cases hs
      have hk : k < L.length := Nat.le_of_ble_eq_true hq
      obtain ⟨hlen, lv, h1, h2⟩ := hl
      exact lv_istore hx rfl hd h1 (by rw [← hlen]; exact hk) rfl (fun ls' h3 => kk rfl ls' (am_L.put (v := .int x) hlen h2 h3))
    · cases hs
  · cases hs
theorem am_k_astore_n (hx : p.tables.exec = Jvm.exec) (k : Fin 4) : am_Ok p l e R s m args below meth c H locs cells slots Q (.astore_n k) := by
  intro ad nL mid pc len L st h pc' L' st' h' ls hd hn hs hl kk
  obtain rfl : len = 1 := Nat.eq_of_beq_eq_true hn
  simp only [am_step] at hs
  split at hs
  · rename_i x r
    split at hs
    · rename_i hq
      cases hs
      have hk : k < L.length := Nat.le_of_ble_eq_true hq
      obtain ⟨hlen, lv, h1, h2⟩ := hl
      exact lv_astore_n hx rfl hd rfl h1 (by rw [← hlen]; exact hk) rfl (fun ls' h3 => kk rfl ls' (am_L.put (v := .ref x) hlen h2 h3))
    · cases hs
  · cases hs
theorem am_k_astore (hx : p.tables.exec = Jvm.exec) (k : Nat) : am_Ok p l e R s m args below meth c H locs cells slots Q (.astore k) := by
  intro ad nL mid pc len L st h pc' L' st' h' ls hd hn hs hl kk
  obtain rfl : len = 2 := Nat.eq_of_beq_eq_true hn
  simp only [am_step] at hs
  split at hs
  · rename_i x r
    split at hs
    · rename_i hq
      cases hs
      have hk : k < L.length := Nat.le_of_ble_eq_true hq
      obtain ⟨hlen, lv, h1, h2⟩ := hl
      exact lv_astore hx rfl hd h1 (by rw [← hlen]; exact hk) rfl (fun ls' h3 => kk rfl ls' (am_L.put (v := .ref x) hlen h2 h3))
    · cases hs
  · cases hs
theorem am_k_iinc (hx : p.tables.exec = Jvm.exec) (k : Nat) (n : Int) : am_Ok p l e R s m args below meth c H locs cells slots Q (.iinc k n) := by
  intro ad nL mid pc len L st h pc' L' st' h' ls hd hn hs hl kk
  obtain rfl : len = 3 := Nat.eq_of_beq_eq_true hn
  simp only [am_step] at hs
  split at hs
  · rename_i x hk
    cases hs
    obtain ⟨hlen, lv, h1, h2⟩ := hl
    obtain ⟨j, hj⟩ := List.getElem?_of_mem (h2 k _ hk rfl)
    exact lv_iinc hx rfl hd h1 hj rfl (by rw [← hlen]; exact (List.getElem?_eq_some_iff.mp hk).1) rfl (fun ls' h3 => kk rfl ls' (am_L.put (v := .int (x + Int32.ofInt n)) hlen h2 h3))
  · cases hs
theorem am_k_iadd (hx : p.tables.exec = Jvm.exec) : am_Ok p l e R s m args below meth c H locs cells slots Q (.iadd) := by
  intro ad nL mid pc len L st h pc' L' st' h' ls hd hn hs hl kk
  obtain rfl : len = 1 := Nat.eq_of_beq_eq_true hn
  simp only [am_step] at hs
  split at hs
  · cases hs
    exact lv_iadd hx rfl hd (kk rfl ls hl)
  · cases hs
theorem am_k_isub (hx : p.tables.exec = Jvm.exec) : am_Ok p l e R s m args below meth c H locs cells slots Q (.isub) := by
  intro ad nL mid pc len L st h pc' L' st' h' ls hd hn hs hl kk
  obtain rfl : len = 1 := Nat.eq_of_beq_eq_true hn
  simp only [am_step] at hs
  split at hs
  · cases hs
    exact lv_isub hx rfl hd (kk rfl ls hl)
  · cases hs
theorem am_k_imul (hx : p.tables.exec = Jvm.exec) : am_Ok p l e R s m args below meth c H locs cells slots Q (.imul) := by
  intro ad nL mid pc len L st h pc' L' st' h' ls hd hn hs hl kk
  obtain rfl : len = 1 := Nat.eq_of_beq_eq_true hn
  simp only [am_step] at hs
  split at hs
  · cases hs
    exact lv_imul hx rfl hd (kk rfl ls hl)
  · cases hs
theorem am_k_iand (hx : p.tables.exec = Jvm.exec) : am_Ok p l e R s m args below meth c H locs cells slots Q (.iand) := by
  intro ad nL mid pc len L st h pc' L' st' h' ls hd hn hs hl kk
  obtain rfl : len = 1 := Nat.eq_of_beq_eq_true hn
  simp only [am_step] at hs
  split at hs
  · cases hs
    exact lv_iand hx rfl hd (kk rfl ls hl)
  · cases hs
theorem am_k_idiv (hx : p.tables.exec = Jvm.exec) : am_Ok p l e R s m args below meth c H locs cells slots Q (.idiv) := by
  intro ad nL mid pc len L st h pc' L' st' h' ls hd hn hs hl kk
  obtain rfl : len = 1 := Nat.eq_of_beq_eq_true hn
  simp only [am_step] at hs
  split at hs
  · rename_i y x r
    by_cases hy : y = 0
    · rw [if_pos hy] at hs; cases hs
    · rw [if_neg hy] at hs
      cases hs
      exact lv_idiv hx rfl hd hy (kk rfl ls hl)
  · cases hs
theorem am_k_i2l (hx : p.tables.exec = Jvm.exec) : am_Ok p l e R s m args below meth c H locs cells slots Q (.i2l) := by
  intro ad nL mid pc len L st h pc' L' st' h' ls hd hn hs hl kk
  obtain rfl : len = 1 := Nat.eq_of_beq_eq_true hn
  simp only [am_step] at hs
  split at hs
  · cases hs
    exact lv_i2l hx rfl hd rfl (kk rfl ls hl)
  · cases hs
theorem am_k_lcmp (hx : p.tables.exec = Jvm.exec) : am_Ok p l e R s m args below meth c H locs cells slots Q (.lcmp) := by
  intro ad nL mid pc len L st h pc' L' st' h' ls hd hn hs hl kk
  obtain rfl : len = 1 := Nat.eq_of_beq_eq_true hn
  simp only [am_step] at hs
  split at hs
  · cases hs
    exact W.lcmp hx rfl hd (kk rfl ls hl)
  · cases hs
theorem am_k_dup (hx : p.tables.exec = Jvm.exec) : am_Ok p l e R s m args below meth c H locs cells slots Q (.dup) := by
  intro ad nL mid pc len L st h pc' L' st' h' ls hd hn hs hl kk
  obtain rfl : len = 1 := Nat.eq_of_beq_eq_true hn
  simp only [am_step] at hs
  split at hs
  · rename_i v r
    split at hs
    · rename_i hq
      cases hs
      exact lv_dup hx rfl hd (am_kn_cat hq) (kk rfl ls hl)
    · cases hs
  · cases hs
theorem am_k_pop (hx : p.tables.exec = Jvm.exec) : am_Ok p l e R s m args below meth c H locs cells slots Q (.pop) := by
  intro ad nL mid pc len L st h pc' L' st' h' ls hd hn hs hl kk
  obtain rfl : len = 1 := Nat.eq_of_beq_eq_true hn
  simp only [am_step] at hs
  split at hs
  · rename_i v r
    split at hs
    · rename_i hq
      cases hs
      exact lv_pop hx rfl hd (am_kn_cat hq) (kk rfl ls hl)
    · cases hs
  · cases hs
theorem am_k_dup_x1 (hx : p.tables.exec = Jvm.exec) : am_Ok p l e R s m args below meth c H locs cells slots Q (.dup_x1) := by
  intro ad nL mid pc len L st h pc' L' st' h' ls hd hn hs hl kk
  obtain rfl : len = 1 := Nat.eq_of_beq_eq_true hn
  simp only [am_step] at hs
  split at hs
  · rename_i v w r
    split at hs
    · rename_i hq
      cases hs
      simp only [Bool.and_eq_true] at hq
      exact lv_dup_x1 hx rfl hd (am_kn_cat hq.1) (am_kn_cat hq.2) (kk rfl ls hl)
    · cases hs
  · cases hs
theorem am_k_dup_x2 (hx : p.tables.exec = Jvm.exec) : am_Ok p l e R s m args below meth c H locs cells slots Q (.dup_x2) := by
  intro ad nL mid pc len L st h pc' L' st' h' ls hd hn hs hl kk
  obtain rfl : len = 1 := Nat.eq_of_beq_eq_true hn
  simp only [am_step] at hs
  split at hs
  · rename_i v w u r
    split at hs
    · rename_i hq
      cases hs
      simp only [Bool.and_eq_true] at hq
      exact lv_dup_x2 hx rfl hd (am_kn_cat hq.1) (am_kn_cat hq.2.1) (am_kn_cat hq.2.2) (kk rfl ls hl)
    · cases hs
  · cases hs
theorem am_k_dup2 (hx : p.tables.exec = Jvm.exec) : am_Ok p l e R s m args below meth c H locs cells slots Q (.dup2) := by
  intro ad nL mid pc len L st h pc' L' st' h' ls hd hn hs hl kk
  obtain rfl : len = 1 := Nat.eq_of_beq_eq_true hn
  simp only [am_step] at hs
  split at hs
  · rename_i v w r
    split at hs
    · rename_i hq
      cases hs
      simp only [Bool.and_eq_true] at hq
      exact lv_dup2_11 hx rfl hd (am_kn_cat hq.1) (am_kn_cat hq.2) (kk rfl ls hl)
    · cases hs
  · cases hs
theorem am_k_goto (hx : p.tables.exec = Jvm.exec) (o : Int) : am_Ok p l e R s m args below meth c H locs cells slots Q (.goto o) := by
  intro ad nL mid pc len L st h pc' L' st' h' ls hd hn hs hl kk
  simp only [am_lenok, Bool.and_eq_true, decide_eq_true_eq] at hn
  obtain rfl : len = 3 := Nat.eq_of_beq_eq_true hn.1
  cases hs
  exact lv_goto hx rfl hd (am_jmp_eq hn.2) (kk rfl ls hl)
theorem am_k_ifCond (hx : p.tables.exec = Jvm.exec) (b : Jvm.ClassFile.Cond) (o : Int) : am_Ok p l e R s m args below meth c H locs cells slots Q (.ifCond b o) := by
  intro ad nL mid pc len L st h pc' L' st' h' ls hd hn hs hl kk
  simp only [am_lenok, Bool.and_eq_true, decide_eq_true_eq] at hn
  obtain rfl : len = 3 := Nat.eq_of_beq_eq_true hn.1
  have ht := am_jmp_eq hn.2
  simp only [am_step] at hs
  split at hs
  · cases b
    · cases hs
      exact lv_if_eq hx rfl hd ht (fun hc => by have k2 := kk rfl ls hl; rw [if_pos hc] at k2; exact k2) (fun hc => by have k2 := kk rfl ls hl; rw [if_neg hc] at k2; exact k2)
    · cases hs
      exact lv_if_ne hx rfl hd ht (fun hc => by have k2 := kk rfl ls hl; rw [if_neg hc] at k2; exact k2) (fun hc => by have k2 := kk rfl ls hl; rw [if_pos hc] at k2; exact k2)
    · cases hs
      exact lv_if_lt hx rfl hd ht (fun hc => by have k2 := kk rfl ls hl; rw [if_pos hc] at k2; exact k2) (fun hc => by have k2 := kk rfl ls hl; rw [if_neg hc] at k2; exact k2)
    · cases hs
      exact lv_if_ge hx rfl hd ht (fun hc => by have k2 := kk rfl ls hl; rw [if_pos hc] at k2; exact k2) (fun hc => by have k2 := kk rfl ls hl; rw [if_neg hc] at k2; exact k2)
    · cases hs
      exact lv_if_gt hx rfl hd ht (fun hc => by have k2 := kk rfl ls hl; rw [if_pos hc] at k2; exact k2) (fun hc => by have k2 := kk rfl ls hl; rw [if_neg hc] at k2; exact k2)
    · cases hs
      exact lv_if_le hx rfl hd ht (fun hc => by have k2 := kk rfl ls hl; rw [if_pos hc] at k2; exact k2) (fun hc => by have k2 := kk rfl ls hl; rw [if_neg hc] at k2; exact k2)
  · cases hs
theorem am_k_if_icmp (hx : p.tables.exec = Jvm.exec) (b : Jvm.ClassFile.Cond) (o : Int) : am_Ok p l e R s m args below meth c H locs cells slots Q (.if_icmp b o) := by
  intro ad nL mid pc len L st h pc' L' st' h' ls hd hn hs hl kk
  simp only [am_lenok, Bool.and_eq_true, decide_eq_true_eq] at hn
  obtain rfl : len = 3 := Nat.eq_of_beq_eq_true hn.1
  have ht := am_jmp_eq hn.2
  simp only [am_step] at hs
  split at hs
  · cases b
    · cases hs
      exact lv_icmp_eq hx rfl hd ht (fun hc => by have k2 := kk rfl ls hl; rw [if_pos hc] at k2; exact k2) (fun hc => by have k2 := kk rfl ls hl; rw [if_neg hc] at k2; exact k2)
    · cases hs
      exact lv_icmp_ne hx rfl hd ht (fun hc => by have k2 := kk rfl ls hl; rw [if_neg hc] at k2; exact k2) (fun hc => by have k2 := kk rfl ls hl; rw [if_pos hc] at k2; exact k2)
    · cases hs
      exact lv_icmp_lt hx rfl hd ht (fun hc => by have k2 := kk rfl ls hl; rw [if_pos hc] at k2; exact k2) (fun hc => by have k2 := kk rfl ls hl; rw [if_neg hc] at k2; exact k2)
    · cases hs
      exact lv_icmp_ge hx rfl hd ht (fun hc => by have k2 := kk rfl ls hl; rw [if_pos hc] at k2; exact k2) (fun hc => by have k2 := kk rfl ls hl; rw [if_neg hc] at k2; exact k2)
    · cases hs
      exact lv_icmp_gt hx rfl hd ht (fun hc => by have k2 := kk rfl ls hl; rw [if_pos hc] at k2; exact k2) (fun hc => by have k2 := kk rfl ls hl; rw [if_neg hc] at k2; exact k2)
    · cases hs
      exact lv_icmp_le hx rfl hd ht (fun hc => by have k2 := kk rfl ls hl; rw [if_pos hc] at k2; exact k2) (fun hc => by have k2 := kk rfl ls hl; rw [if_neg hc] at k2; exact k2)
  · cases hs
theorem am_k_tableswitch (hx : p.tables.exec = Jvm.exec) (d lo hi : Int) (os : Array Int) : am_Ok p l e R s m args below meth c H locs cells slots Q (.tableswitch d lo hi os) := by
  intro ad nL mid pc len L st h pc' L' st' h' ls hd hn hs hl kk
  simp only [am_lenok, Bool.and_eq_true, decide_eq_true_eq, List.all_eq_true] at hn
  simp only [am_step] at hs
  split at hs
  · rename_i x r
    by_cases h1 : x.toInt < lo
    · rw [if_pos h1] at hs
      cases hs
      exact lv_tableOut hx rfl hd (Or.inl h1) (am_jmp_eq hn.1) (kk rfl ls hl)
    · rw [if_neg h1] at hs
      by_cases h2 : hi < x.toInt
      · rw [if_pos h2] at hs
        cases hs
        exact lv_tableOut hx rfl hd (Or.inr h2) (am_jmp_eq hn.1) (kk rfl ls hl)
      · rw [if_neg h2] at hs
        split at hs
        · rename_i o ho
          cases hs
          exact lv_tableIn hx rfl hd h1 h2 ho (am_jmp_eq (hn.2 o (Array.mem_toList_iff.mpr (Array.mem_of_getElem? ho)))) (kk rfl ls hl)
        · cases hs
  · cases hs
theorem am_lsw {d : Int} {pc : Nat} (x : Int) : ∀ ps : List (Int × Int), 0 ≤ (pc : Int) + d → (∀ o ∈ ps, 0 ≤ (pc : Int) + o.2) → 0 ≤ (pc : Int) + Op.lookupswitch.offset ps d x
  | [], h, _ => by simpa [Op.lookupswitch.offset] using h
  | (a, o) :: r, h, ha => by
    rw [Op.lookupswitch.offset_cons]
    split
    · exact ha (a, o) List.mem_cons_self
    · exact am_lsw x r h (fun q hq => ha q (List.mem_cons_of_mem _ hq))
theorem am_k_lookupswitch (hx : p.tables.exec = Jvm.exec) (d : Int) (ps : Array (Int × Int)) : am_Ok p l e R s m args below meth c H locs cells slots Q (.lookupswitch d ps) := by
  intro ad nL mid pc len L st h pc' L' st' h' ls hd hn hs hl kk
  simp only [am_lenok, Bool.and_eq_true] at hn
  simp only [am_step] at hs
  split at hs
  · rename_i x r
    cases hs
    refine lv_lookup hx rfl hd hn.2.2 rfl (am_jmp_eq (am_lsw _ _ (of_decide_eq_true hn.1) (fun o ho => ?_))) (kk rfl ls hl)
    exact of_decide_eq_true (List.all_eq_true.mp hn.2.1 o ho)
  · cases hs
end AMP
