/-! the contracts from 210 -/
theorem tc_ok210 : ty_ck tc_g tc_u210 4000 tc_210 = true := by decide +kernel
theorem tc_ok211 : ty_ck tc_g tc_u211 4000 tc_211 = true := by decide +kernel
theorem tc_ok212 : ty_ck tc_g tc_u212 4000 tc_212 = true := by decide +kernel
theorem tc_ok213 : ty_ck tc_g tc_u213 4000 tc_213 = true := by decide +kernel
theorem tc_ok214 : ty_ck tc_g tc_u214 4000 tc_214 = true := by decide +kernel
theorem tc_ok215 : ty_ck tc_g tc_u215 4000 tc_215 = true := by decide +kernel
theorem tc_ok216 : ty_ck tc_g tc_u216 4000 tc_216 = true := by decide +kernel
theorem tc_ok217 : ty_ck tc_g tc_u217 4000 tc_217 = true := by decide +kernel
theorem tc_ok218 : ty_ck tc_g tc_u218 4000 tc_218 = true := by decide +kernel
theorem tc_ok219 : ty_ck tc_g tc_u219 4000 tc_219 = true := by decide +kernel
theorem tc_ok220 : ty_ck tc_g tc_u220 4000 tc_220 = true := by decide +kernel
theorem tc_ok221 : ty_ck tc_g tc_u221 4000 tc_221 = true := by decide +kernel
theorem tc_ok222 : ty_ck tc_g tc_u222 4000 tc_222 = true := by decide +kernel
