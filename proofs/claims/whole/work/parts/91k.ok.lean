/-! THE METHODS ARE WHAT THEIR ROWS SAY (by program). -/
theorem px_lawck7 : px_ckL px_wd px_cl px_P pm_L_law 300 px_law7 = true := by decide +kernel
theorem px_lawck8 : px_ckL px_wd px_cl px_P pm_L_law 350 px_law8 = true := by decide +kernel
