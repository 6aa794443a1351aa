/-! THE METHODS ARE WHAT THEIR ROWS SAY (by program). -/
theorem px_lawck9 : px_ckL px_wd px_cl px_P pm_L_law 400 px_law9 = true := by decide +kernel
theorem px_lawck10 : px_ckL px_wd px_cl px_P pm_L_law 450 px_law10 = true := by decide +kernel
