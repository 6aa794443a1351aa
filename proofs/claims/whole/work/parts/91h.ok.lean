/-! THE METHODS ARE WHAT THEIR ROWS SAY (by program). -/
theorem px_lawck1 : px_ckL px_wd px_cl px_P pm_L_law 0 px_law1 = true := by decide +kernel
theorem px_lawck2 : px_ckL px_wd px_cl px_P pm_L_law 50 px_law2 = true := by decide +kernel
