/-! ===== the law itself passes the check, piece by piece ===== -/
theorem pchL672 : okR prog pm309 672 48 = true := by decide +kernel
theorem pchL720 : okR prog pm309 720 48 = true := by decide +kernel
theorem pchL768 : okR prog pm309 768 48 = true := by decide +kernel
theorem pchL816 : okR prog pm309 816 48 = true := by decide +kernel
theorem pchL864 : okR prog pm309 864 48 = true := by decide +kernel
theorem pchL912 : okR prog pm309 912 48 = true := by decide +kernel
theorem pchL960 : okR prog pm309 960 48 = true := by decide +kernel
