/-! the checks of the law's instructions (printed by wip/whole/gen_chk.py) -/
theorem am_okc_9 : (am_t232_9.all fun q => am_dec 232 q.1 q.2 && am_okb 232 q.1 q.2) = true := by decide +kernel
theorem am_okc_10 : (am_t232_10.all fun q => am_dec 232 q.1 q.2 && am_okb 232 q.1 q.2) = true := by decide +kernel
theorem am_okc_11 : (am_t232_11.all fun q => am_dec 232 q.1 q.2 && am_okb 232 q.1 q.2) = true := by decide +kernel
