/-! the contracts from 570 -/
theorem tc_ok570 : ty_ck tc_g tc_u570 4000 tc_570 = true := by decide +kernel
