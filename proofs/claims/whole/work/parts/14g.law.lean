/-! ===== the law itself passes the check, piece by piece ===== -/
theorem pchL336 : okR prog pm309 336 48 = true := by decide +kernel
theorem pchL384 : okR prog pm309 384 48 = true := by decide +kernel
theorem pchL432 : okR prog pm309 432 48 = true := by decide +kernel
theorem pchL480 : okR prog pm309 480 48 = true := by decide +kernel
theorem pchL528 : okR prog pm309 528 48 = true := by decide +kernel
theorem pchL576 : okR prog pm309 576 48 = true := by decide +kernel
theorem pchL624 : okR prog pm309 624 48 = true := by decide +kernel
