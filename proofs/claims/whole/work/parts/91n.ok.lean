/-! THE METHODS ARE WHAT THEIR ROWS SAY (by program). -/
theorem px_lawck13 : px_ckL px_wd px_cl px_P pm_L_law 600 px_law13 = true := by decide +kernel
theorem px_lawck14 : px_ckL px_wd px_cl px_P pm_L_law 650 px_law14 = true := by decide +kernel
