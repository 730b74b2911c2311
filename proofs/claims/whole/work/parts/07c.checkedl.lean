/-! the checks of the law's instructions (printed by wip/whole/gen_chk.py) -/
theorem am_okc_0 : (am_t232_0.all fun q => am_dec 232 q.1 q.2 && am_okb 232 q.1 q.2) = true := by decide +kernel
theorem am_okc_1 : (am_t232_1.all fun q => am_dec 232 q.1 q.2 && am_okb 232 q.1 q.2) = true := by decide +kernel
theorem am_okc_2 : (am_t232_2.all fun q => am_dec 232 q.1 q.2 && am_okb 232 q.1 q.2) = true := by decide +kernel
