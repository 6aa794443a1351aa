/-! THE METHODS ARE WHAT THEIR ROWS SAY (by program). -/
theorem px_lawck3 : px_ckL px_wd px_cl px_P pm_L_law 100 px_law3 = true := by decide +kernel
theorem px_lawck4 : px_ckL px_wd px_cl px_P pm_L_law 150 px_law4 = true := by decide +kernel
