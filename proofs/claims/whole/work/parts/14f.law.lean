/-! ===== the law itself passes the check, piece by piece ===== -/
def okR (P : List PM) (q : PM) (a n : Nat) : Bool := (List.range n).all (fun k => match q.2.2.2.2[a + k]? with
  | some e => okI P q (a + k) e
  | none => false)
theorem okR_at {P : List PM} {q : PM} {a n i : Nat} (h : okR P q a n = true) (h1 : a ≤ i) (h2 : i < a + n) : (match q.2.2.2.2[i]? with
  | some e => okI P q i e
  | none => false) = true := by
  have := List.all_eq_true.mp h (i - a) (List.mem_range.mpr (by omega))
  rwa [show a + (i - a) = i by omega] at this
theorem pchL0 : okR prog pm309 0 48 = true := by decide +kernel
theorem pchL48 : okR prog pm309 48 48 = true := by decide +kernel
theorem pchL96 : okR prog pm309 96 48 = true := by decide +kernel
theorem pchL144 : okR prog pm309 144 48 = true := by decide +kernel
theorem pchL192 : okR prog pm309 192 48 = true := by decide +kernel
theorem pchL240 : okR prog pm309 240 48 = true := by decide +kernel
theorem pchL288 : okR prog pm309 288 48 = true := by decide +kernel
