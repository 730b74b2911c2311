/-! the checks of the law's instructions (printed by wip/whole/gen_chk.py) -/
theorem am_okc_12 : (am_t232_12.all fun q => am_dec 232 q.1 q.2 && am_okb 232 q.1 q.2) = true := by decide +kernel
theorem am_okc_13 : (am_t232_13.all fun q => am_dec 232 q.1 q.2 && am_okb 232 q.1 q.2) = true := by decide +kernel
