/-! ===== the methods pass the check (by evaluation) ===== -/
theorem pchk309 : okQ prog pm309 = true := by decide +kernel
