/-! THE METHODS ARE WHAT THEIR ROWS SAY (by program). -/
theorem px_lawck11 : px_ckL px_wd px_cl px_P pm_L_law 500 px_law11 = true := by decide +kernel
theorem px_lawck12 : px_ckL px_wd px_cl px_P pm_L_law 550 px_law12 = true := by decide +kernel
