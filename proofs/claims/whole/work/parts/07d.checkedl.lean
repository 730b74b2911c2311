/-! the checks of the law's instructions (printed by wip/whole/gen_chk.py) -/
theorem am_okc_3 : (am_t232_3.all fun q => am_dec 232 q.1 q.2 && am_okb 232 q.1 q.2) = true := by decide +kernel
theorem am_okc_4 : (am_t232_4.all fun q => am_dec 232 q.1 q.2 && am_okb 232 q.1 q.2) = true := by decide +kernel
theorem am_okc_5 : (am_t232_5.all fun q => am_dec 232 q.1 q.2 && am_okb 232 q.1 q.2) = true := by decide +kernel
