/-! the checks of the law's instructions (printed by wip/whole/gen_chk.py) -/
theorem am_okc_6 : (am_t232_6.all fun q => am_dec 232 q.1 q.2 && am_okb 232 q.1 q.2) = true := by decide +kernel
theorem am_okc_7 : (am_t232_7.all fun q => am_dec 232 q.1 q.2 && am_okb 232 q.1 q.2) = true := by decide +kernel
theorem am_okc_8 : (am_t232_8.all fun q => am_dec 232 q.1 q.2 && am_okb 232 q.1 q.2) = true := by decide +kernel
