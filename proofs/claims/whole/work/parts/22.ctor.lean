/-! ===== the two constructors, and the claim out of the law's loop ===== -/
def s00 : ST := (xi0, fun _ _ => 0, fun _ _ => 0, fun _ => .float 1, [])
section CT
variable {sc : Nat × (Nat → Int32)}
set_option maxRecDepth 100000 in
set_option maxHeartbeats 4000000 in
theorem ct_126 : pex prog sc 800 999 126 0 [.ref 0] [] [.inr (11, pD11)] = some (none, List.take 55 (hpS s00)) := rfl
end CT
