/-! ===== the law itself passes the check, piece by piece ===== -/
theorem pchL1008 : okR prog pm309 1008 48 = true := by decide +kernel
theorem pchL1056 : okR prog pm309 1056 48 = true := by decide +kernel
theorem pchL1104 : okR prog pm309 1104 48 = true := by decide +kernel
theorem pchL1152 : okR prog pm309 1152 2 = true := by decide +kernel
theorem pchk309 : okQ prog pm309 = true := by
  unfold okQ
  rw [Bool.and_eq_true, List.all_eq_true]
  refine ⟨by decide +kernel, fun i hi => ?_⟩
  have hlen : (pm309).2.2.2.2.length = 1154 := by decide +kernel
  have hi := List.mem_range.mp hi
  rw [hlen] at hi
  by_cases h0 : i < 48
  · exact okR_at pchL0 (by omega) (by omega)
  by_cases h48 : i < 96
  · exact okR_at pchL48 (by omega) (by omega)
  by_cases h96 : i < 144
  · exact okR_at pchL96 (by omega) (by omega)
  by_cases h144 : i < 192
  · exact okR_at pchL144 (by omega) (by omega)
  by_cases h192 : i < 240
  · exact okR_at pchL192 (by omega) (by omega)
  by_cases h240 : i < 288
  · exact okR_at pchL240 (by omega) (by omega)
  by_cases h288 : i < 336
  · exact okR_at pchL288 (by omega) (by omega)
  by_cases h336 : i < 384
  · exact okR_at pchL336 (by omega) (by omega)
  by_cases h384 : i < 432
  · exact okR_at pchL384 (by omega) (by omega)
  by_cases h432 : i < 480
  · exact okR_at pchL432 (by omega) (by omega)
  by_cases h480 : i < 528
  · exact okR_at pchL480 (by omega) (by omega)
  by_cases h528 : i < 576
  · exact okR_at pchL528 (by omega) (by omega)
  by_cases h576 : i < 624
  · exact okR_at pchL576 (by omega) (by omega)
  by_cases h624 : i < 672
  · exact okR_at pchL624 (by omega) (by omega)
  by_cases h672 : i < 720
  · exact okR_at pchL672 (by omega) (by omega)
  by_cases h720 : i < 768
  · exact okR_at pchL720 (by omega) (by omega)
  by_cases h768 : i < 816
  · exact okR_at pchL768 (by omega) (by omega)
  by_cases h816 : i < 864
  · exact okR_at pchL816 (by omega) (by omega)
  by_cases h864 : i < 912
  · exact okR_at pchL864 (by omega) (by omega)
  by_cases h912 : i < 960
  · exact okR_at pchL912 (by omega) (by omega)
  by_cases h960 : i < 1008
  · exact okR_at pchL960 (by omega) (by omega)
  by_cases h1008 : i < 1056
  · exact okR_at pchL1008 (by omega) (by omega)
  by_cases h1056 : i < 1104
  · exact okR_at pchL1056 (by omega) (by omega)
  by_cases h1104 : i < 1152
  · exact okR_at pchL1104 (by omega) (by omega)
  exact okR_at pchL1152 (by omega) (by omega)
