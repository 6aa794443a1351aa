/-! THE METHODS ARE WHAT THEIR ROWS SAY (by program). -/
theorem px_lawck5 : px_ckL px_wd px_cl px_P pm_L_law 200 px_law5 = true := by decide +kernel
theorem px_lawck6 : px_ckL px_wd px_cl px_P pm_L_law 250 px_law6 = true := by decide +kernel
