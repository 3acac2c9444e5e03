/-! copy: its two contracts -/
section HCB
theorem hc_t230 : ∀ (d : Nat × Nat) (L : List Value) (h : am_H), ty_ar0 tc_g tc_230 d L h → ty_vd tc_g tc_230 d L h := hc_ok (fr := 1) (to := 0) (by decide) (by decide +kernel) (by decide +kernel) (by decide +kernel) _
theorem hc_t234 : ∀ (d : Nat × Nat) (L : List Value) (h : am_H), ty_ar0 tc_g tc_234 d L h → ty_vd tc_g tc_234 d L h := hc_ok (fr := 0) (to := 1) (by decide) (by decide +kernel) (by decide +kernel) (by decide +kernel) _
end HCB
