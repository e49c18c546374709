/-! ===== the law's cases, printed by wip/whole/genlaw.py ===== -/
section LW
variable {sc : Nat × (Nat → Int32)}
/-- case 0 -/
def wl_0 (sc : Nat × (Nat → Int32)) (x3 : Int32) (s : ST) (X1150 : Int32 → ST → Prop) (K : Int32 → ST → Prop) : Prop := (pin (x3 + (1 : Int32)) sc.1 = true ∧ w_127 (sc.2 ((x3 + (1 : Int32))).toNatClampNeg) s (fun r2 s1 => (pin (x3 + (1 : Int32)) sc.1 = true ∧ w_188 (sc.2 ((x3 + (1 : Int32))).toNatClampNeg) s1 (fun r4 s3 => ((r2 = r4 → X1150 x3 s3) ∧ (¬ (r2 = r4) → K (0 : Int32) s3))))))
set_option maxRecDepth 40000 in
theorem ql_0 {d : Nat} {X1150 K : Int32 → ST → Prop} (x3 : Int32) (s : ST) (k : wl_0 sc x3 s X1150 K) (hX1150 : ∀ (y3 : Int32) (s : ST), X1150 y3 s → Ex sc (d + 67) 309 1150 [.float 0, .ref 0, .ref 55, .int y3] [] (hpS s) (kZ K)) : Ex sc (d + 67) 309 22 [.float 0, .ref 0, .ref 55, .int x3] [] (hpS s) (kZ K) := by
  have hq : prog[309]? = some pm309 := rfl
  unfold wl_0 at k
  refine Ex.seg hq 5 (j := 27) (L' := [.float 0, .ref 0, .ref 55, .int x3]) (S' := [.int (x3 + (1 : Int32)), .float 0, .ref 0]) (h' := hpS s) rfl ?_
  obtain ⟨hin, k⟩ := k
  refine Ex.nx hq rfl (L' := [.float 0, .ref 0, .ref 55, .int x3]) (S' := [.int (sc.2 ((x3 + (1 : Int32))).toNatClampNeg), .ref 0]) (h' := hpS s) (by simp only [stp, pial, hin, if_true]) ?_
  refine Ex.cl hq rfl rfl ?_
  refine Rn.mono (q_127 (d := d + 65) (sc.2 ((x3 + (1 : Int32))).toNatClampNeg) s k) ?_
  rintro _ _ ⟨r2, s1, rfl, hzr2, rfl, k⟩
  show Ex sc (d + 67) 309 29 [.float 0, .ref 0, .ref 55, .int x3] [.int r2] (hpS s1) _
  refine Ex.seg hq 5 (j := 34) (L' := [.float 0, .ref 0, .ref 55, .int x3]) (S' := [.int (x3 + (1 : Int32)), .float 0, .ref 55, .int r2]) (h' := hpS s1) rfl ?_
  obtain ⟨hin, k⟩ := k
  refine Ex.nx hq rfl (L' := [.float 0, .ref 0, .ref 55, .int x3]) (S' := [.int (sc.2 ((x3 + (1 : Int32))).toNatClampNeg), .ref 55, .int r2]) (h' := hpS s1) (by simp only [stp, pial, hin, if_true]) ?_
  refine Ex.cl hq rfl rfl ?_
  refine Rn.mono (q_188 (d := d + 65) (sc.2 ((x3 + (1 : Int32))).toNatClampNeg) s1 k) ?_
  rintro _ _ ⟨r4, s3, rfl, hzr4, rfl, k⟩
  show Ex sc (d + 67) 309 36 [.float 0, .ref 0, .ref 55, .int x3] [.int r4, .int r2] (hpS s3) _
  refine Ex.i2 hq rfl (fun c => ?_) (fun c => ?_)
  · have k := k.1 c
    exact hX1150 x3 s3 k
  · have k := k.2 c
    refine Ex.seg hq 1 (j := 38) (L' := [.float 0, .ref 0, .ref 55, .int x3]) (S' := [.int (0 : Int32)]) (h' := hpS s3) rfl ?_
    exact Ex.zr hq rfl rfl (Or.inl rfl) ⟨(0 : Int32), s3, rfl, (Or.inl rfl), rfl, k⟩
/-- case 1 -/
def wl_1 (sc : Nat × (Nat → Int32)) (x3 : Int32) (s : ST) (X1150 : Int32 → ST → Prop) (K : Int32 → ST → Prop) : Prop := (pin (x3 + (1 : Int32)) sc.1 = true ∧ w_128 (sc.2 ((x3 + (1 : Int32))).toNatClampNeg) s (fun r2 s1 => (pin (x3 + (1 : Int32)) sc.1 = true ∧ w_192 (sc.2 ((x3 + (1 : Int32))).toNatClampNeg) s1 (fun r4 s3 => ((r2 = r4 → X1150 x3 s3) ∧ (¬ (r2 = r4) → K (0 : Int32) s3))))))
set_option maxRecDepth 40000 in
theorem ql_1 {d : Nat} {X1150 K : Int32 → ST → Prop} (x3 : Int32) (s : ST) (k : wl_1 sc x3 s X1150 K) (hX1150 : ∀ (y3 : Int32) (s : ST), X1150 y3 s → Ex sc (d + 67) 309 1150 [.float 0, .ref 0, .ref 55, .int y3] [] (hpS s) (kZ K)) : Ex sc (d + 67) 309 39 [.float 0, .ref 0, .ref 55, .int x3] [] (hpS s) (kZ K) := by
  have hq : prog[309]? = some pm309 := rfl
  unfold wl_1 at k
  refine Ex.seg hq 5 (j := 44) (L' := [.float 0, .ref 0, .ref 55, .int x3]) (S' := [.int (x3 + (1 : Int32)), .float 0, .ref 0]) (h' := hpS s) rfl ?_
  obtain ⟨hin, k⟩ := k
  refine Ex.nx hq rfl (L' := [.float 0, .ref 0, .ref 55, .int x3]) (S' := [.int (sc.2 ((x3 + (1 : Int32))).toNatClampNeg), .ref 0]) (h' := hpS s) (by simp only [stp, pial, hin, if_true]) ?_
  refine Ex.cl hq rfl rfl ?_
  refine Rn.mono (q_128 (d := d + 65) (sc.2 ((x3 + (1 : Int32))).toNatClampNeg) s k) ?_
  rintro _ _ ⟨r2, s1, rfl, rfl, k⟩
  show Ex sc (d + 67) 309 46 [.float 0, .ref 0, .ref 55, .int x3] [.int r2] (hpS s1) _
  refine Ex.seg hq 5 (j := 51) (L' := [.float 0, .ref 0, .ref 55, .int x3]) (S' := [.int (x3 + (1 : Int32)), .float 0, .ref 55, .int r2]) (h' := hpS s1) rfl ?_
  obtain ⟨hin, k⟩ := k
  refine Ex.nx hq rfl (L' := [.float 0, .ref 0, .ref 55, .int x3]) (S' := [.int (sc.2 ((x3 + (1 : Int32))).toNatClampNeg), .ref 55, .int r2]) (h' := hpS s1) (by simp only [stp, pial, hin, if_true]) ?_
  refine Ex.cl hq rfl rfl ?_
  refine Rn.mono (q_192 (d := d + 65) (sc.2 ((x3 + (1 : Int32))).toNatClampNeg) s1 k) ?_
  rintro _ _ ⟨r4, s3, rfl, rfl, k⟩
  show Ex sc (d + 67) 309 53 [.float 0, .ref 0, .ref 55, .int x3] [.int r4, .int r2] (hpS s3) _
  refine Ex.i2 hq rfl (fun c => ?_) (fun c => ?_)
  · have k := k.1 c
    exact hX1150 x3 s3 k
  · have k := k.2 c
    refine Ex.seg hq 1 (j := 55) (L' := [.float 0, .ref 0, .ref 55, .int x3]) (S' := [.int (0 : Int32)]) (h' := hpS s3) rfl ?_
    exact Ex.zr hq rfl rfl (Or.inl rfl) ⟨(0 : Int32), s3, rfl, (Or.inl rfl), rfl, k⟩
/-- case 2 -/
def wl_2 (sc : Nat × (Nat → Int32)) (x3 : Int32) (s : ST) (X1150 : Int32 → ST → Prop) (K : Int32 → ST → Prop) : Prop := (pin (x3 + (1 : Int32)) sc.1 = true ∧ (pin (x3 + (2 : Int32)) sc.1 = true ∧ (pin (x3 + (3 : Int32)) sc.1 = true ∧ (pin (x3 + (4 : Int32)) sc.1 = true ∧ (pin (x3 + (5 : Int32)) sc.1 = true ∧ (pin (x3 + (6 : Int32)) sc.1 = true ∧ (pin (x3 + (7 : Int32)) sc.1 = true ∧ (pin (x3 + (8 : Int32)) sc.1 = true ∧ (pin (x3 + (9 : Int32)) sc.1 = true ∧ w_129 (sc.2 ((x3 + (1 : Int32))).toNatClampNeg) (sc.2 ((x3 + (2 : Int32))).toNatClampNeg) (sc.2 ((x3 + (3 : Int32))).toNatClampNeg) (sc.2 ((x3 + (4 : Int32))).toNatClampNeg) (sc.2 ((x3 + (5 : Int32))).toNatClampNeg) (sc.2 ((x3 + (6 : Int32))).toNatClampNeg) (sc.2 ((x3 + (7 : Int32))).toNatClampNeg) (sc.2 ((x3 + (8 : Int32))).toNatClampNeg) (sc.2 ((x3 + (9 : Int32))).toNatClampNeg) s (fun r2 s1 => (pin (x3 + (1 : Int32)) sc.1 = true ∧ (pin (x3 + (2 : Int32)) sc.1 = true ∧ (pin (x3 + (3 : Int32)) sc.1 = true ∧ (pin (x3 + (4 : Int32)) sc.1 = true ∧ (pin (x3 + (5 : Int32)) sc.1 = true ∧ (pin (x3 + (6 : Int32)) sc.1 = true ∧ (pin (x3 + (7 : Int32)) sc.1 = true ∧ (pin (x3 + (8 : Int32)) sc.1 = true ∧ (pin (x3 + (9 : Int32)) sc.1 = true ∧ w_193 (sc.2 ((x3 + (1 : Int32))).toNatClampNeg) (sc.2 ((x3 + (2 : Int32))).toNatClampNeg) (sc.2 ((x3 + (3 : Int32))).toNatClampNeg) (sc.2 ((x3 + (4 : Int32))).toNatClampNeg) (sc.2 ((x3 + (5 : Int32))).toNatClampNeg) (sc.2 ((x3 + (6 : Int32))).toNatClampNeg) (sc.2 ((x3 + (7 : Int32))).toNatClampNeg) (sc.2 ((x3 + (8 : Int32))).toNatClampNeg) (sc.2 ((x3 + (9 : Int32))).toNatClampNeg) s1 (fun r4 s3 => ((r2 = r4 → X1150 x3 s3) ∧ (¬ (r2 = r4) → K (0 : Int32) s3))))))))))))))))))))))
set_option maxRecDepth 40000 in
theorem ql_2 {d : Nat} {X1150 K : Int32 → ST → Prop} (x3 : Int32) (s : ST) (k : wl_2 sc x3 s X1150 K) (hX1150 : ∀ (y3 : Int32) (s : ST), X1150 y3 s → Ex sc (d + 67) 309 1150 [.float 0, .ref 0, .ref 55, .int y3] [] (hpS s) (kZ K)) : Ex sc (d + 67) 309 56 [.float 0, .ref 0, .ref 55, .int x3] [] (hpS s) (kZ K) := by
  have hq : prog[309]? = some pm309 := rfl
  unfold wl_2 at k
  refine Ex.seg hq 5 (j := 61) (L' := [.float 0, .ref 0, .ref 55, .int x3]) (S' := [.int (x3 + (1 : Int32)), .float 0, .ref 0]) (h' := hpS s) rfl ?_
  obtain ⟨hin, k⟩ := k
  refine Ex.nx hq rfl (L' := [.float 0, .ref 0, .ref 55, .int x3]) (S' := [.int (sc.2 ((x3 + (1 : Int32))).toNatClampNeg), .ref 0]) (h' := hpS s) (by simp only [stp, pial, hin, if_true]) ?_
  refine Ex.seg hq 4 (j := 66) (L' := [.float 0, .ref 0, .ref 55, .int x3]) (S' := [.int (x3 + (2 : Int32)), .float 0, .int (sc.2 ((x3 + (1 : Int32))).toNatClampNeg), .ref 0]) (h' := hpS s) rfl ?_
  obtain ⟨hin, k⟩ := k
  refine Ex.nx hq rfl (L' := [.float 0, .ref 0, .ref 55, .int x3]) (S' := [.int (sc.2 ((x3 + (2 : Int32))).toNatClampNeg), .int (sc.2 ((x3 + (1 : Int32))).toNatClampNeg), .ref 0]) (h' := hpS s) (by simp only [stp, pial, hin, if_true]) ?_
  refine Ex.seg hq 4 (j := 71) (L' := [.float 0, .ref 0, .ref 55, .int x3]) (S' := [.int (x3 + (3 : Int32)), .float 0, .int (sc.2 ((x3 + (2 : Int32))).toNatClampNeg), .int (sc.2 ((x3 + (1 : Int32))).toNatClampNeg), .ref 0]) (h' := hpS s) rfl ?_
  obtain ⟨hin, k⟩ := k
  refine Ex.nx hq rfl (L' := [.float 0, .ref 0, .ref 55, .int x3]) (S' := [.int (sc.2 ((x3 + (3 : Int32))).toNatClampNeg), .int (sc.2 ((x3 + (2 : Int32))).toNatClampNeg), .int (sc.2 ((x3 + (1 : Int32))).toNatClampNeg), .ref 0]) (h' := hpS s) (by simp only [stp, pial, hin, if_true]) ?_
  refine Ex.seg hq 4 (j := 76) (L' := [.float 0, .ref 0, .ref 55, .int x3]) (S' := [.int (x3 + (4 : Int32)), .float 0, .int (sc.2 ((x3 + (3 : Int32))).toNatClampNeg), .int (sc.2 ((x3 + (2 : Int32))).toNatClampNeg), .int (sc.2 ((x3 + (1 : Int32))).toNatClampNeg), .ref 0]) (h' := hpS s) rfl ?_
  obtain ⟨hin, k⟩ := k
  refine Ex.nx hq rfl (L' := [.float 0, .ref 0, .ref 55, .int x3]) (S' := [.int (sc.2 ((x3 + (4 : Int32))).toNatClampNeg), .int (sc.2 ((x3 + (3 : Int32))).toNatClampNeg), .int (sc.2 ((x3 + (2 : Int32))).toNatClampNeg), .int (sc.2 ((x3 + (1 : Int32))).toNatClampNeg), .ref 0]) (h' := hpS s) (by simp only [stp, pial, hin, if_true]) ?_
  refine Ex.seg hq 4 (j := 81) (L' := [.float 0, .ref 0, .ref 55, .int x3]) (S' := [.int (x3 + (5 : Int32)), .float 0, .int (sc.2 ((x3 + (4 : Int32))).toNatClampNeg), .int (sc.2 ((x3 + (3 : Int32))).toNatClampNeg), .int (sc.2 ((x3 + (2 : Int32))).toNatClampNeg), .int (sc.2 ((x3 + (1 : Int32))).toNatClampNeg), .ref 0]) (h' := hpS s) rfl ?_
  obtain ⟨hin, k⟩ := k
  refine Ex.nx hq rfl (L' := [.float 0, .ref 0, .ref 55, .int x3]) (S' := [.int (sc.2 ((x3 + (5 : Int32))).toNatClampNeg), .int (sc.2 ((x3 + (4 : Int32))).toNatClampNeg), .int (sc.2 ((x3 + (3 : Int32))).toNatClampNeg), .int (sc.2 ((x3 + (2 : Int32))).toNatClampNeg), .int (sc.2 ((x3 + (1 : Int32))).toNatClampNeg), .ref 0]) (h' := hpS s) (by simp only [stp, pial, hin, if_true]) ?_
  refine Ex.seg hq 4 (j := 86) (L' := [.float 0, .ref 0, .ref 55, .int x3]) (S' := [.int (x3 + (6 : Int32)), .float 0, .int (sc.2 ((x3 + (5 : Int32))).toNatClampNeg), .int (sc.2 ((x3 + (4 : Int32))).toNatClampNeg), .int (sc.2 ((x3 + (3 : Int32))).toNatClampNeg), .int (sc.2 ((x3 + (2 : Int32))).toNatClampNeg), .int (sc.2 ((x3 + (1 : Int32))).toNatClampNeg), .ref 0]) (h' := hpS s) rfl ?_
  obtain ⟨hin, k⟩ := k
  refine Ex.nx hq rfl (L' := [.float 0, .ref 0, .ref 55, .int x3]) (S' := [.int (sc.2 ((x3 + (6 : Int32))).toNatClampNeg), .int (sc.2 ((x3 + (5 : Int32))).toNatClampNeg), .int (sc.2 ((x3 + (4 : Int32))).toNatClampNeg), .int (sc.2 ((x3 + (3 : Int32))).toNatClampNeg), .int (sc.2 ((x3 + (2 : Int32))).toNatClampNeg), .int (sc.2 ((x3 + (1 : Int32))).toNatClampNeg), .ref 0]) (h' := hpS s) (by simp only [stp, pial, hin, if_true]) ?_
  refine Ex.seg hq 4 (j := 91) (L' := [.float 0, .ref 0, .ref 55, .int x3]) (S' := [.int (x3 + (7 : Int32)), .float 0, .int (sc.2 ((x3 + (6 : Int32))).toNatClampNeg), .int (sc.2 ((x3 + (5 : Int32))).toNatClampNeg), .int (sc.2 ((x3 + (4 : Int32))).toNatClampNeg), .int (sc.2 ((x3 + (3 : Int32))).toNatClampNeg), .int (sc.2 ((x3 + (2 : Int32))).toNatClampNeg), .int (sc.2 ((x3 + (1 : Int32))).toNatClampNeg), .ref 0]) (h' := hpS s) rfl ?_
  obtain ⟨hin, k⟩ := k
  refine Ex.nx hq rfl (L' := [.float 0, .ref 0, .ref 55, .int x3]) (S' := [.int (sc.2 ((x3 + (7 : Int32))).toNatClampNeg), .int (sc.2 ((x3 + (6 : Int32))).toNatClampNeg), .int (sc.2 ((x3 + (5 : Int32))).toNatClampNeg), .int (sc.2 ((x3 + (4 : Int32))).toNatClampNeg), .int (sc.2 ((x3 + (3 : Int32))).toNatClampNeg), .int (sc.2 ((x3 + (2 : Int32))).toNatClampNeg), .int (sc.2 ((x3 + (1 : Int32))).toNatClampNeg), .ref 0]) (h' := hpS s) (by simp only [stp, pial, hin, if_true]) ?_
  refine Ex.seg hq 4 (j := 96) (L' := [.float 0, .ref 0, .ref 55, .int x3]) (S' := [.int (x3 + (8 : Int32)), .float 0, .int (sc.2 ((x3 + (7 : Int32))).toNatClampNeg), .int (sc.2 ((x3 + (6 : Int32))).toNatClampNeg), .int (sc.2 ((x3 + (5 : Int32))).toNatClampNeg), .int (sc.2 ((x3 + (4 : Int32))).toNatClampNeg), .int (sc.2 ((x3 + (3 : Int32))).toNatClampNeg), .int (sc.2 ((x3 + (2 : Int32))).toNatClampNeg), .int (sc.2 ((x3 + (1 : Int32))).toNatClampNeg), .ref 0]) (h' := hpS s) rfl ?_
  obtain ⟨hin, k⟩ := k
  refine Ex.nx hq rfl (L' := [.float 0, .ref 0, .ref 55, .int x3]) (S' := [.int (sc.2 ((x3 + (8 : Int32))).toNatClampNeg), .int (sc.2 ((x3 + (7 : Int32))).toNatClampNeg), .int (sc.2 ((x3 + (6 : Int32))).toNatClampNeg), .int (sc.2 ((x3 + (5 : Int32))).toNatClampNeg), .int (sc.2 ((x3 + (4 : Int32))).toNatClampNeg), .int (sc.2 ((x3 + (3 : Int32))).toNatClampNeg), .int (sc.2 ((x3 + (2 : Int32))).toNatClampNeg), .int (sc.2 ((x3 + (1 : Int32))).toNatClampNeg), .ref 0]) (h' := hpS s) (by simp only [stp, pial, hin, if_true]) ?_
  refine Ex.seg hq 4 (j := 101) (L' := [.float 0, .ref 0, .ref 55, .int x3]) (S' := [.int (x3 + (9 : Int32)), .float 0, .int (sc.2 ((x3 + (8 : Int32))).toNatClampNeg), .int (sc.2 ((x3 + (7 : Int32))).toNatClampNeg), .int (sc.2 ((x3 + (6 : Int32))).toNatClampNeg), .int (sc.2 ((x3 + (5 : Int32))).toNatClampNeg), .int (sc.2 ((x3 + (4 : Int32))).toNatClampNeg), .int (sc.2 ((x3 + (3 : Int32))).toNatClampNeg), .int (sc.2 ((x3 + (2 : Int32))).toNatClampNeg), .int (sc.2 ((x3 + (1 : Int32))).toNatClampNeg), .ref 0]) (h' := hpS s) rfl ?_
  obtain ⟨hin, k⟩ := k
  refine Ex.nx hq rfl (L' := [.float 0, .ref 0, .ref 55, .int x3]) (S' := [.int (sc.2 ((x3 + (9 : Int32))).toNatClampNeg), .int (sc.2 ((x3 + (8 : Int32))).toNatClampNeg), .int (sc.2 ((x3 + (7 : Int32))).toNatClampNeg), .int (sc.2 ((x3 + (6 : Int32))).toNatClampNeg), .int (sc.2 ((x3 + (5 : Int32))).toNatClampNeg), .int (sc.2 ((x3 + (4 : Int32))).toNatClampNeg), .int (sc.2 ((x3 + (3 : Int32))).toNatClampNeg), .int (sc.2 ((x3 + (2 : Int32))).toNatClampNeg), .int (sc.2 ((x3 + (1 : Int32))).toNatClampNeg), .ref 0]) (h' := hpS s) (by simp only [stp, pial, hin, if_true]) ?_
  refine Ex.cl hq rfl rfl ?_
  refine Rn.mono (q_129 (d := d + 62) (sc.2 ((x3 + (1 : Int32))).toNatClampNeg) (sc.2 ((x3 + (2 : Int32))).toNatClampNeg) (sc.2 ((x3 + (3 : Int32))).toNatClampNeg) (sc.2 ((x3 + (4 : Int32))).toNatClampNeg) (sc.2 ((x3 + (5 : Int32))).toNatClampNeg) (sc.2 ((x3 + (6 : Int32))).toNatClampNeg) (sc.2 ((x3 + (7 : Int32))).toNatClampNeg) (sc.2 ((x3 + (8 : Int32))).toNatClampNeg) (sc.2 ((x3 + (9 : Int32))).toNatClampNeg) s k) ?_
  rintro _ _ ⟨r2, s1, rfl, rfl, k⟩
  show Ex sc (d + 67) 309 103 [.float 0, .ref 0, .ref 55, .int x3] [.int r2] (hpS s1) _
  refine Ex.seg hq 5 (j := 108) (L' := [.float 0, .ref 0, .ref 55, .int x3]) (S' := [.int (x3 + (1 : Int32)), .float 0, .ref 55, .int r2]) (h' := hpS s1) rfl ?_
  obtain ⟨hin, k⟩ := k
  refine Ex.nx hq rfl (L' := [.float 0, .ref 0, .ref 55, .int x3]) (S' := [.int (sc.2 ((x3 + (1 : Int32))).toNatClampNeg), .ref 55, .int r2]) (h' := hpS s1) (by simp only [stp, pial, hin, if_true]) ?_
  refine Ex.seg hq 4 (j := 113) (L' := [.float 0, .ref 0, .ref 55, .int x3]) (S' := [.int (x3 + (2 : Int32)), .float 0, .int (sc.2 ((x3 + (1 : Int32))).toNatClampNeg), .ref 55, .int r2]) (h' := hpS s1) rfl ?_
  obtain ⟨hin, k⟩ := k
  refine Ex.nx hq rfl (L' := [.float 0, .ref 0, .ref 55, .int x3]) (S' := [.int (sc.2 ((x3 + (2 : Int32))).toNatClampNeg), .int (sc.2 ((x3 + (1 : Int32))).toNatClampNeg), .ref 55, .int r2]) (h' := hpS s1) (by simp only [stp, pial, hin, if_true]) ?_
  refine Ex.seg hq 4 (j := 118) (L' := [.float 0, .ref 0, .ref 55, .int x3]) (S' := [.int (x3 + (3 : Int32)), .float 0, .int (sc.2 ((x3 + (2 : Int32))).toNatClampNeg), .int (sc.2 ((x3 + (1 : Int32))).toNatClampNeg), .ref 55, .int r2]) (h' := hpS s1) rfl ?_
  obtain ⟨hin, k⟩ := k
  refine Ex.nx hq rfl (L' := [.float 0, .ref 0, .ref 55, .int x3]) (S' := [.int (sc.2 ((x3 + (3 : Int32))).toNatClampNeg), .int (sc.2 ((x3 + (2 : Int32))).toNatClampNeg), .int (sc.2 ((x3 + (1 : Int32))).toNatClampNeg), .ref 55, .int r2]) (h' := hpS s1) (by simp only [stp, pial, hin, if_true]) ?_
  refine Ex.seg hq 4 (j := 123) (L' := [.float 0, .ref 0, .ref 55, .int x3]) (S' := [.int (x3 + (4 : Int32)), .float 0, .int (sc.2 ((x3 + (3 : Int32))).toNatClampNeg), .int (sc.2 ((x3 + (2 : Int32))).toNatClampNeg), .int (sc.2 ((x3 + (1 : Int32))).toNatClampNeg), .ref 55, .int r2]) (h' := hpS s1) rfl ?_
  obtain ⟨hin, k⟩ := k
  refine Ex.nx hq rfl (L' := [.float 0, .ref 0, .ref 55, .int x3]) (S' := [.int (sc.2 ((x3 + (4 : Int32))).toNatClampNeg), .int (sc.2 ((x3 + (3 : Int32))).toNatClampNeg), .int (sc.2 ((x3 + (2 : Int32))).toNatClampNeg), .int (sc.2 ((x3 + (1 : Int32))).toNatClampNeg), .ref 55, .int r2]) (h' := hpS s1) (by simp only [stp, pial, hin, if_true]) ?_
  refine Ex.seg hq 4 (j := 128) (L' := [.float 0, .ref 0, .ref 55, .int x3]) (S' := [.int (x3 + (5 : Int32)), .float 0, .int (sc.2 ((x3 + (4 : Int32))).toNatClampNeg), .int (sc.2 ((x3 + (3 : Int32))).toNatClampNeg), .int (sc.2 ((x3 + (2 : Int32))).toNatClampNeg), .int (sc.2 ((x3 + (1 : Int32))).toNatClampNeg), .ref 55, .int r2]) (h' := hpS s1) rfl ?_
  obtain ⟨hin, k⟩ := k
  refine Ex.nx hq rfl (L' := [.float 0, .ref 0, .ref 55, .int x3]) (S' := [.int (sc.2 ((x3 + (5 : Int32))).toNatClampNeg), .int (sc.2 ((x3 + (4 : Int32))).toNatClampNeg), .int (sc.2 ((x3 + (3 : Int32))).toNatClampNeg), .int (sc.2 ((x3 + (2 : Int32))).toNatClampNeg), .int (sc.2 ((x3 + (1 : Int32))).toNatClampNeg), .ref 55, .int r2]) (h' := hpS s1) (by simp only [stp, pial, hin, if_true]) ?_
  refine Ex.seg hq 4 (j := 133) (L' := [.float 0, .ref 0, .ref 55, .int x3]) (S' := [.int (x3 + (6 : Int32)), .float 0, .int (sc.2 ((x3 + (5 : Int32))).toNatClampNeg), .int (sc.2 ((x3 + (4 : Int32))).toNatClampNeg), .int (sc.2 ((x3 + (3 : Int32))).toNatClampNeg), .int (sc.2 ((x3 + (2 : Int32))).toNatClampNeg), .int (sc.2 ((x3 + (1 : Int32))).toNatClampNeg), .ref 55, .int r2]) (h' := hpS s1) rfl ?_
  obtain ⟨hin, k⟩ := k
  refine Ex.nx hq rfl (L' := [.float 0, .ref 0, .ref 55, .int x3]) (S' := [.int (sc.2 ((x3 + (6 : Int32))).toNatClampNeg), .int (sc.2 ((x3 + (5 : Int32))).toNatClampNeg), .int (sc.2 ((x3 + (4 : Int32))).toNatClampNeg), .int (sc.2 ((x3 + (3 : Int32))).toNatClampNeg), .int (sc.2 ((x3 + (2 : Int32))).toNatClampNeg), .int (sc.2 ((x3 + (1 : Int32))).toNatClampNeg), .ref 55, .int r2]) (h' := hpS s1) (by simp only [stp, pial, hin, if_true]) ?_
  refine Ex.seg hq 4 (j := 138) (L' := [.float 0, .ref 0, .ref 55, .int x3]) (S' := [.int (x3 + (7 : Int32)), .float 0, .int (sc.2 ((x3 + (6 : Int32))).toNatClampNeg), .int (sc.2 ((x3 + (5 : Int32))).toNatClampNeg), .int (sc.2 ((x3 + (4 : Int32))).toNatClampNeg), .int (sc.2 ((x3 + (3 : Int32))).toNatClampNeg), .int (sc.2 ((x3 + (2 : Int32))).toNatClampNeg), .int (sc.2 ((x3 + (1 : Int32))).toNatClampNeg), .ref 55, .int r2]) (h' := hpS s1) rfl ?_
  obtain ⟨hin, k⟩ := k
  refine Ex.nx hq rfl (L' := [.float 0, .ref 0, .ref 55, .int x3]) (S' := [.int (sc.2 ((x3 + (7 : Int32))).toNatClampNeg), .int (sc.2 ((x3 + (6 : Int32))).toNatClampNeg), .int (sc.2 ((x3 + (5 : Int32))).toNatClampNeg), .int (sc.2 ((x3 + (4 : Int32))).toNatClampNeg), .int (sc.2 ((x3 + (3 : Int32))).toNatClampNeg), .int (sc.2 ((x3 + (2 : Int32))).toNatClampNeg), .int (sc.2 ((x3 + (1 : Int32))).toNatClampNeg), .ref 55, .int r2]) (h' := hpS s1) (by simp only [stp, pial, hin, if_true]) ?_
  refine Ex.seg hq 4 (j := 143) (L' := [.float 0, .ref 0, .ref 55, .int x3]) (S' := [.int (x3 + (8 : Int32)), .float 0, .int (sc.2 ((x3 + (7 : Int32))).toNatClampNeg), .int (sc.2 ((x3 + (6 : Int32))).toNatClampNeg), .int (sc.2 ((x3 + (5 : Int32))).toNatClampNeg), .int (sc.2 ((x3 + (4 : Int32))).toNatClampNeg), .int (sc.2 ((x3 + (3 : Int32))).toNatClampNeg), .int (sc.2 ((x3 + (2 : Int32))).toNatClampNeg), .int (sc.2 ((x3 + (1 : Int32))).toNatClampNeg), .ref 55, .int r2]) (h' := hpS s1) rfl ?_
  obtain ⟨hin, k⟩ := k
  refine Ex.nx hq rfl (L' := [.float 0, .ref 0, .ref 55, .int x3]) (S' := [.int (sc.2 ((x3 + (8 : Int32))).toNatClampNeg), .int (sc.2 ((x3 + (7 : Int32))).toNatClampNeg), .int (sc.2 ((x3 + (6 : Int32))).toNatClampNeg), .int (sc.2 ((x3 + (5 : Int32))).toNatClampNeg), .int (sc.2 ((x3 + (4 : Int32))).toNatClampNeg), .int (sc.2 ((x3 + (3 : Int32))).toNatClampNeg), .int (sc.2 ((x3 + (2 : Int32))).toNatClampNeg), .int (sc.2 ((x3 + (1 : Int32))).toNatClampNeg), .ref 55, .int r2]) (h' := hpS s1) (by simp only [stp, pial, hin, if_true]) ?_
  refine Ex.seg hq 4 (j := 148) (L' := [.float 0, .ref 0, .ref 55, .int x3]) (S' := [.int (x3 + (9 : Int32)), .float 0, .int (sc.2 ((x3 + (8 : Int32))).toNatClampNeg), .int (sc.2 ((x3 + (7 : Int32))).toNatClampNeg), .int (sc.2 ((x3 + (6 : Int32))).toNatClampNeg), .int (sc.2 ((x3 + (5 : Int32))).toNatClampNeg), .int (sc.2 ((x3 + (4 : Int32))).toNatClampNeg), .int (sc.2 ((x3 + (3 : Int32))).toNatClampNeg), .int (sc.2 ((x3 + (2 : Int32))).toNatClampNeg), .int (sc.2 ((x3 + (1 : Int32))).toNatClampNeg), .ref 55, .int r2]) (h' := hpS s1) rfl ?_
  obtain ⟨hin, k⟩ := k
  refine Ex.nx hq rfl (L' := [.float 0, .ref 0, .ref 55, .int x3]) (S' := [.int (sc.2 ((x3 + (9 : Int32))).toNatClampNeg), .int (sc.2 ((x3 + (8 : Int32))).toNatClampNeg), .int (sc.2 ((x3 + (7 : Int32))).toNatClampNeg), .int (sc.2 ((x3 + (6 : Int32))).toNatClampNeg), .int (sc.2 ((x3 + (5 : Int32))).toNatClampNeg), .int (sc.2 ((x3 + (4 : Int32))).toNatClampNeg), .int (sc.2 ((x3 + (3 : Int32))).toNatClampNeg), .int (sc.2 ((x3 + (2 : Int32))).toNatClampNeg), .int (sc.2 ((x3 + (1 : Int32))).toNatClampNeg), .ref 55, .int r2]) (h' := hpS s1) (by simp only [stp, pial, hin, if_true]) ?_
  refine Ex.cl hq rfl rfl ?_
  refine Rn.mono (q_193 (d := d + 65) (sc.2 ((x3 + (1 : Int32))).toNatClampNeg) (sc.2 ((x3 + (2 : Int32))).toNatClampNeg) (sc.2 ((x3 + (3 : Int32))).toNatClampNeg) (sc.2 ((x3 + (4 : Int32))).toNatClampNeg) (sc.2 ((x3 + (5 : Int32))).toNatClampNeg) (sc.2 ((x3 + (6 : Int32))).toNatClampNeg) (sc.2 ((x3 + (7 : Int32))).toNatClampNeg) (sc.2 ((x3 + (8 : Int32))).toNatClampNeg) (sc.2 ((x3 + (9 : Int32))).toNatClampNeg) s1 k) ?_
  rintro _ _ ⟨r4, s3, rfl, rfl, k⟩
  show Ex sc (d + 67) 309 150 [.float 0, .ref 0, .ref 55, .int x3] [.int r4, .int r2] (hpS s3) _
  refine Ex.i2 hq rfl (fun c => ?_) (fun c => ?_)
  · have k := k.1 c
    exact hX1150 x3 s3 k
  · have k := k.2 c
    refine Ex.seg hq 1 (j := 152) (L' := [.float 0, .ref 0, .ref 55, .int x3]) (S' := [.int (0 : Int32)]) (h' := hpS s3) rfl ?_
    exact Ex.zr hq rfl rfl (Or.inl rfl) ⟨(0 : Int32), s3, rfl, (Or.inl rfl), rfl, k⟩
/-- case 3 -/
def wl_3 (sc : Nat × (Nat → Int32)) (x3 : Int32) (s : ST) (X1150 : Int32 → ST → Prop) (K : Int32 → ST → Prop) : Prop := (pin (x3 + (1 : Int32)) sc.1 = true ∧ (pin (x3 + (2 : Int32)) sc.1 = true ∧ w_131 (sc.2 ((x3 + (1 : Int32))).toNatClampNeg) (sc.2 ((x3 + (2 : Int32))).toNatClampNeg) s (fun r2 s1 => (pin (x3 + (1 : Int32)) sc.1 = true ∧ (pin (x3 + (2 : Int32)) sc.1 = true ∧ w_195 (sc.2 ((x3 + (1 : Int32))).toNatClampNeg) (sc.2 ((x3 + (2 : Int32))).toNatClampNeg) s1 (fun r4 s3 => ((r2 = r4 → X1150 x3 s3) ∧ (¬ (r2 = r4) → K (0 : Int32) s3))))))))
set_option maxRecDepth 40000 in
theorem ql_3 {d : Nat} {X1150 K : Int32 → ST → Prop} (x3 : Int32) (s : ST) (k : wl_3 sc x3 s X1150 K) (hX1150 : ∀ (y3 : Int32) (s : ST), X1150 y3 s → Ex sc (d + 67) 309 1150 [.float 0, .ref 0, .ref 55, .int y3] [] (hpS s) (kZ K)) : Ex sc (d + 67) 309 153 [.float 0, .ref 0, .ref 55, .int x3] [] (hpS s) (kZ K) := by
  have hq : prog[309]? = some pm309 := rfl
  unfold wl_3 at k
  refine Ex.seg hq 5 (j := 158) (L' := [.float 0, .ref 0, .ref 55, .int x3]) (S' := [.int (x3 + (1 : Int32)), .float 0, .ref 0]) (h' := hpS s) rfl ?_
  obtain ⟨hin, k⟩ := k
  refine Ex.nx hq rfl (L' := [.float 0, .ref 0, .ref 55, .int x3]) (S' := [.int (sc.2 ((x3 + (1 : Int32))).toNatClampNeg), .ref 0]) (h' := hpS s) (by simp only [stp, pial, hin, if_true]) ?_
  refine Ex.seg hq 4 (j := 163) (L' := [.float 0, .ref 0, .ref 55, .int x3]) (S' := [.int (x3 + (2 : Int32)), .float 0, .int (sc.2 ((x3 + (1 : Int32))).toNatClampNeg), .ref 0]) (h' := hpS s) rfl ?_
  obtain ⟨hin, k⟩ := k
  refine Ex.nx hq rfl (L' := [.float 0, .ref 0, .ref 55, .int x3]) (S' := [.int (sc.2 ((x3 + (2 : Int32))).toNatClampNeg), .int (sc.2 ((x3 + (1 : Int32))).toNatClampNeg), .ref 0]) (h' := hpS s) (by simp only [stp, pial, hin, if_true]) ?_
  refine Ex.cl hq rfl rfl ?_
  refine Rn.mono (q_131 (d := d + 61) (sc.2 ((x3 + (1 : Int32))).toNatClampNeg) (sc.2 ((x3 + (2 : Int32))).toNatClampNeg) s k) ?_
  rintro _ _ ⟨r2, s1, rfl, hzr2, rfl, k⟩
  show Ex sc (d + 67) 309 165 [.float 0, .ref 0, .ref 55, .int x3] [.int r2] (hpS s1) _
  refine Ex.seg hq 5 (j := 170) (L' := [.float 0, .ref 0, .ref 55, .int x3]) (S' := [.int (x3 + (1 : Int32)), .float 0, .ref 55, .int r2]) (h' := hpS s1) rfl ?_
  obtain ⟨hin, k⟩ := k
  refine Ex.nx hq rfl (L' := [.float 0, .ref 0, .ref 55, .int x3]) (S' := [.int (sc.2 ((x3 + (1 : Int32))).toNatClampNeg), .ref 55, .int r2]) (h' := hpS s1) (by simp only [stp, pial, hin, if_true]) ?_
  refine Ex.seg hq 4 (j := 175) (L' := [.float 0, .ref 0, .ref 55, .int x3]) (S' := [.int (x3 + (2 : Int32)), .float 0, .int (sc.2 ((x3 + (1 : Int32))).toNatClampNeg), .ref 55, .int r2]) (h' := hpS s1) rfl ?_
  obtain ⟨hin, k⟩ := k
  refine Ex.nx hq rfl (L' := [.float 0, .ref 0, .ref 55, .int x3]) (S' := [.int (sc.2 ((x3 + (2 : Int32))).toNatClampNeg), .int (sc.2 ((x3 + (1 : Int32))).toNatClampNeg), .ref 55, .int r2]) (h' := hpS s1) (by simp only [stp, pial, hin, if_true]) ?_
  refine Ex.cl hq rfl rfl ?_
  refine Rn.mono (q_195 (d := d + 65) (sc.2 ((x3 + (1 : Int32))).toNatClampNeg) (sc.2 ((x3 + (2 : Int32))).toNatClampNeg) s1 k) ?_
  rintro _ _ ⟨r4, s3, rfl, hzr4, rfl, k⟩
  show Ex sc (d + 67) 309 177 [.float 0, .ref 0, .ref 55, .int x3] [.int r4, .int r2] (hpS s3) _
  refine Ex.i2 hq rfl (fun c => ?_) (fun c => ?_)
  · have k := k.1 c
    exact hX1150 x3 s3 k
  · have k := k.2 c
    refine Ex.seg hq 1 (j := 179) (L' := [.float 0, .ref 0, .ref 55, .int x3]) (S' := [.int (0 : Int32)]) (h' := hpS s3) rfl ?_
    exact Ex.zr hq rfl rfl (Or.inl rfl) ⟨(0 : Int32), s3, rfl, (Or.inl rfl), rfl, k⟩
/-- case 4 -/
def wl_4 (sc : Nat × (Nat → Int32)) (x3 : Int32) (s : ST) (X1150 : Int32 → ST → Prop) (K : Int32 → ST → Prop) : Prop := (pin (x3 + (1 : Int32)) sc.1 = true ∧ (pin (x3 + (2 : Int32)) sc.1 = true ∧ (pin (x3 + (3 : Int32)) sc.1 = true ∧ w_132 (sc.2 ((x3 + (1 : Int32))).toNatClampNeg) (sc.2 ((x3 + (2 : Int32))).toNatClampNeg) (sc.2 ((x3 + (3 : Int32))).toNatClampNeg) s (fun r2 s1 => (pin (x3 + (1 : Int32)) sc.1 = true ∧ (pin (x3 + (2 : Int32)) sc.1 = true ∧ (pin (x3 + (3 : Int32)) sc.1 = true ∧ w_198 (sc.2 ((x3 + (1 : Int32))).toNatClampNeg) (sc.2 ((x3 + (2 : Int32))).toNatClampNeg) (sc.2 ((x3 + (3 : Int32))).toNatClampNeg) s1 (fun r4 s3 => ((r2 = r4 → X1150 x3 s3) ∧ (¬ (r2 = r4) → K (0 : Int32) s3))))))))))
set_option maxRecDepth 40000 in
theorem ql_4 {d : Nat} {X1150 K : Int32 → ST → Prop} (x3 : Int32) (s : ST) (k : wl_4 sc x3 s X1150 K) (hX1150 : ∀ (y3 : Int32) (s : ST), X1150 y3 s → Ex sc (d + 67) 309 1150 [.float 0, .ref 0, .ref 55, .int y3] [] (hpS s) (kZ K)) : Ex sc (d + 67) 309 180 [.float 0, .ref 0, .ref 55, .int x3] [] (hpS s) (kZ K) := by
  have hq : prog[309]? = some pm309 := rfl
  unfold wl_4 at k
  refine Ex.seg hq 5 (j := 185) (L' := [.float 0, .ref 0, .ref 55, .int x3]) (S' := [.int (x3 + (1 : Int32)), .float 0, .ref 0]) (h' := hpS s) rfl ?_
  obtain ⟨hin, k⟩ := k
  refine Ex.nx hq rfl (L' := [.float 0, .ref 0, .ref 55, .int x3]) (S' := [.int (sc.2 ((x3 + (1 : Int32))).toNatClampNeg), .ref 0]) (h' := hpS s) (by simp only [stp, pial, hin, if_true]) ?_
  refine Ex.seg hq 4 (j := 190) (L' := [.float 0, .ref 0, .ref 55, .int x3]) (S' := [.int (x3 + (2 : Int32)), .float 0, .int (sc.2 ((x3 + (1 : Int32))).toNatClampNeg), .ref 0]) (h' := hpS s) rfl ?_
  obtain ⟨hin, k⟩ := k
  refine Ex.nx hq rfl (L' := [.float 0, .ref 0, .ref 55, .int x3]) (S' := [.int (sc.2 ((x3 + (2 : Int32))).toNatClampNeg), .int (sc.2 ((x3 + (1 : Int32))).toNatClampNeg), .ref 0]) (h' := hpS s) (by simp only [stp, pial, hin, if_true]) ?_
  refine Ex.seg hq 4 (j := 195) (L' := [.float 0, .ref 0, .ref 55, .int x3]) (S' := [.int (x3 + (3 : Int32)), .float 0, .int (sc.2 ((x3 + (2 : Int32))).toNatClampNeg), .int (sc.2 ((x3 + (1 : Int32))).toNatClampNeg), .ref 0]) (h' := hpS s) rfl ?_
  obtain ⟨hin, k⟩ := k
  refine Ex.nx hq rfl (L' := [.float 0, .ref 0, .ref 55, .int x3]) (S' := [.int (sc.2 ((x3 + (3 : Int32))).toNatClampNeg), .int (sc.2 ((x3 + (2 : Int32))).toNatClampNeg), .int (sc.2 ((x3 + (1 : Int32))).toNatClampNeg), .ref 0]) (h' := hpS s) (by simp only [stp, pial, hin, if_true]) ?_
  refine Ex.cl hq rfl rfl ?_
  refine Rn.mono (q_132 (d := d + 61) (sc.2 ((x3 + (1 : Int32))).toNatClampNeg) (sc.2 ((x3 + (2 : Int32))).toNatClampNeg) (sc.2 ((x3 + (3 : Int32))).toNatClampNeg) s k) ?_
  rintro _ _ ⟨r2, s1, rfl, rfl, k⟩
  show Ex sc (d + 67) 309 197 [.float 0, .ref 0, .ref 55, .int x3] [.int r2] (hpS s1) _
  refine Ex.seg hq 5 (j := 202) (L' := [.float 0, .ref 0, .ref 55, .int x3]) (S' := [.int (x3 + (1 : Int32)), .float 0, .ref 55, .int r2]) (h' := hpS s1) rfl ?_
  obtain ⟨hin, k⟩ := k
  refine Ex.nx hq rfl (L' := [.float 0, .ref 0, .ref 55, .int x3]) (S' := [.int (sc.2 ((x3 + (1 : Int32))).toNatClampNeg), .ref 55, .int r2]) (h' := hpS s1) (by simp only [stp, pial, hin, if_true]) ?_
  refine Ex.seg hq 4 (j := 207) (L' := [.float 0, .ref 0, .ref 55, .int x3]) (S' := [.int (x3 + (2 : Int32)), .float 0, .int (sc.2 ((x3 + (1 : Int32))).toNatClampNeg), .ref 55, .int r2]) (h' := hpS s1) rfl ?_
  obtain ⟨hin, k⟩ := k
  refine Ex.nx hq rfl (L' := [.float 0, .ref 0, .ref 55, .int x3]) (S' := [.int (sc.2 ((x3 + (2 : Int32))).toNatClampNeg), .int (sc.2 ((x3 + (1 : Int32))).toNatClampNeg), .ref 55, .int r2]) (h' := hpS s1) (by simp only [stp, pial, hin, if_true]) ?_
  refine Ex.seg hq 4 (j := 212) (L' := [.float 0, .ref 0, .ref 55, .int x3]) (S' := [.int (x3 + (3 : Int32)), .float 0, .int (sc.2 ((x3 + (2 : Int32))).toNatClampNeg), .int (sc.2 ((x3 + (1 : Int32))).toNatClampNeg), .ref 55, .int r2]) (h' := hpS s1) rfl ?_
  obtain ⟨hin, k⟩ := k
  refine Ex.nx hq rfl (L' := [.float 0, .ref 0, .ref 55, .int x3]) (S' := [.int (sc.2 ((x3 + (3 : Int32))).toNatClampNeg), .int (sc.2 ((x3 + (2 : Int32))).toNatClampNeg), .int (sc.2 ((x3 + (1 : Int32))).toNatClampNeg), .ref 55, .int r2]) (h' := hpS s1) (by simp only [stp, pial, hin, if_true]) ?_
  refine Ex.cl hq rfl rfl ?_
  refine Rn.mono (q_198 (d := d + 64) (sc.2 ((x3 + (1 : Int32))).toNatClampNeg) (sc.2 ((x3 + (2 : Int32))).toNatClampNeg) (sc.2 ((x3 + (3 : Int32))).toNatClampNeg) s1 k) ?_
  rintro _ _ ⟨r4, s3, rfl, rfl, k⟩
  show Ex sc (d + 67) 309 214 [.float 0, .ref 0, .ref 55, .int x3] [.int r4, .int r2] (hpS s3) _
  refine Ex.i2 hq rfl (fun c => ?_) (fun c => ?_)
  · have k := k.1 c
    exact hX1150 x3 s3 k
  · have k := k.2 c
    refine Ex.seg hq 1 (j := 216) (L' := [.float 0, .ref 0, .ref 55, .int x3]) (S' := [.int (0 : Int32)]) (h' := hpS s3) rfl ?_
    exact Ex.zr hq rfl rfl (Or.inl rfl) ⟨(0 : Int32), s3, rfl, (Or.inl rfl), rfl, k⟩
/-- case 5 -/
def wl_5 (sc : Nat × (Nat → Int32)) (x3 : Int32) (s : ST) (X1150 : Int32 → ST → Prop) (K : Int32 → ST → Prop) : Prop := (pin (x3 + (1 : Int32)) sc.1 = true ∧ (pin (x3 + (2 : Int32)) sc.1 = true ∧ (pin (x3 + (3 : Int32)) sc.1 = true ∧ w_133 (sc.2 ((x3 + (1 : Int32))).toNatClampNeg) (sc.2 ((x3 + (2 : Int32))).toNatClampNeg) (sc.2 ((x3 + (3 : Int32))).toNatClampNeg) s (fun r2 s1 => (pin (x3 + (1 : Int32)) sc.1 = true ∧ (pin (x3 + (2 : Int32)) sc.1 = true ∧ (pin (x3 + (3 : Int32)) sc.1 = true ∧ w_199 (sc.2 ((x3 + (1 : Int32))).toNatClampNeg) (sc.2 ((x3 + (2 : Int32))).toNatClampNeg) (sc.2 ((x3 + (3 : Int32))).toNatClampNeg) s1 (fun r4 s3 => ((r2 = r4 → X1150 x3 s3) ∧ (¬ (r2 = r4) → K (0 : Int32) s3))))))))))
set_option maxRecDepth 40000 in
theorem ql_5 {d : Nat} {X1150 K : Int32 → ST → Prop} (x3 : Int32) (s : ST) (k : wl_5 sc x3 s X1150 K) (hX1150 : ∀ (y3 : Int32) (s : ST), X1150 y3 s → Ex sc (d + 67) 309 1150 [.float 0, .ref 0, .ref 55, .int y3] [] (hpS s) (kZ K)) : Ex sc (d + 67) 309 217 [.float 0, .ref 0, .ref 55, .int x3] [] (hpS s) (kZ K) := by
  have hq : prog[309]? = some pm309 := rfl
  unfold wl_5 at k
  refine Ex.seg hq 5 (j := 222) (L' := [.float 0, .ref 0, .ref 55, .int x3]) (S' := [.int (x3 + (1 : Int32)), .float 0, .ref 0]) (h' := hpS s) rfl ?_
  obtain ⟨hin, k⟩ := k
  refine Ex.nx hq rfl (L' := [.float 0, .ref 0, .ref 55, .int x3]) (S' := [.int (sc.2 ((x3 + (1 : Int32))).toNatClampNeg), .ref 0]) (h' := hpS s) (by simp only [stp, pial, hin, if_true]) ?_
  refine Ex.seg hq 4 (j := 227) (L' := [.float 0, .ref 0, .ref 55, .int x3]) (S' := [.int (x3 + (2 : Int32)), .float 0, .int (sc.2 ((x3 + (1 : Int32))).toNatClampNeg), .ref 0]) (h' := hpS s) rfl ?_
  obtain ⟨hin, k⟩ := k
  refine Ex.nx hq rfl (L' := [.float 0, .ref 0, .ref 55, .int x3]) (S' := [.int (sc.2 ((x3 + (2 : Int32))).toNatClampNeg), .int (sc.2 ((x3 + (1 : Int32))).toNatClampNeg), .ref 0]) (h' := hpS s) (by simp only [stp, pial, hin, if_true]) ?_
  refine Ex.seg hq 4 (j := 232) (L' := [.float 0, .ref 0, .ref 55, .int x3]) (S' := [.int (x3 + (3 : Int32)), .float 0, .int (sc.2 ((x3 + (2 : Int32))).toNatClampNeg), .int (sc.2 ((x3 + (1 : Int32))).toNatClampNeg), .ref 0]) (h' := hpS s) rfl ?_
  obtain ⟨hin, k⟩ := k
  refine Ex.nx hq rfl (L' := [.float 0, .ref 0, .ref 55, .int x3]) (S' := [.int (sc.2 ((x3 + (3 : Int32))).toNatClampNeg), .int (sc.2 ((x3 + (2 : Int32))).toNatClampNeg), .int (sc.2 ((x3 + (1 : Int32))).toNatClampNeg), .ref 0]) (h' := hpS s) (by simp only [stp, pial, hin, if_true]) ?_
  refine Ex.cl hq rfl rfl ?_
  refine Rn.mono (q_133 (d := d + 61) (sc.2 ((x3 + (1 : Int32))).toNatClampNeg) (sc.2 ((x3 + (2 : Int32))).toNatClampNeg) (sc.2 ((x3 + (3 : Int32))).toNatClampNeg) s k) ?_
  rintro _ _ ⟨r2, s1, rfl, rfl, k⟩
  show Ex sc (d + 67) 309 234 [.float 0, .ref 0, .ref 55, .int x3] [.int r2] (hpS s1) _
  refine Ex.seg hq 5 (j := 239) (L' := [.float 0, .ref 0, .ref 55, .int x3]) (S' := [.int (x3 + (1 : Int32)), .float 0, .ref 55, .int r2]) (h' := hpS s1) rfl ?_
  obtain ⟨hin, k⟩ := k
  refine Ex.nx hq rfl (L' := [.float 0, .ref 0, .ref 55, .int x3]) (S' := [.int (sc.2 ((x3 + (1 : Int32))).toNatClampNeg), .ref 55, .int r2]) (h' := hpS s1) (by simp only [stp, pial, hin, if_true]) ?_
  refine Ex.seg hq 4 (j := 244) (L' := [.float 0, .ref 0, .ref 55, .int x3]) (S' := [.int (x3 + (2 : Int32)), .float 0, .int (sc.2 ((x3 + (1 : Int32))).toNatClampNeg), .ref 55, .int r2]) (h' := hpS s1) rfl ?_
  obtain ⟨hin, k⟩ := k
  refine Ex.nx hq rfl (L' := [.float 0, .ref 0, .ref 55, .int x3]) (S' := [.int (sc.2 ((x3 + (2 : Int32))).toNatClampNeg), .int (sc.2 ((x3 + (1 : Int32))).toNatClampNeg), .ref 55, .int r2]) (h' := hpS s1) (by simp only [stp, pial, hin, if_true]) ?_
  refine Ex.seg hq 4 (j := 249) (L' := [.float 0, .ref 0, .ref 55, .int x3]) (S' := [.int (x3 + (3 : Int32)), .float 0, .int (sc.2 ((x3 + (2 : Int32))).toNatClampNeg), .int (sc.2 ((x3 + (1 : Int32))).toNatClampNeg), .ref 55, .int r2]) (h' := hpS s1) rfl ?_
  obtain ⟨hin, k⟩ := k
  refine Ex.nx hq rfl (L' := [.float 0, .ref 0, .ref 55, .int x3]) (S' := [.int (sc.2 ((x3 + (3 : Int32))).toNatClampNeg), .int (sc.2 ((x3 + (2 : Int32))).toNatClampNeg), .int (sc.2 ((x3 + (1 : Int32))).toNatClampNeg), .ref 55, .int r2]) (h' := hpS s1) (by simp only [stp, pial, hin, if_true]) ?_
  refine Ex.cl hq rfl rfl ?_
  refine Rn.mono (q_199 (d := d + 64) (sc.2 ((x3 + (1 : Int32))).toNatClampNeg) (sc.2 ((x3 + (2 : Int32))).toNatClampNeg) (sc.2 ((x3 + (3 : Int32))).toNatClampNeg) s1 k) ?_
  rintro _ _ ⟨r4, s3, rfl, rfl, k⟩
  show Ex sc (d + 67) 309 251 [.float 0, .ref 0, .ref 55, .int x3] [.int r4, .int r2] (hpS s3) _
  refine Ex.i2 hq rfl (fun c => ?_) (fun c => ?_)
  · have k := k.1 c
    exact hX1150 x3 s3 k
  · have k := k.2 c
    refine Ex.seg hq 1 (j := 253) (L' := [.float 0, .ref 0, .ref 55, .int x3]) (S' := [.int (0 : Int32)]) (h' := hpS s3) rfl ?_
    exact Ex.zr hq rfl rfl (Or.inl rfl) ⟨(0 : Int32), s3, rfl, (Or.inl rfl), rfl, k⟩
/-- case 6 -/
def wl_6 (sc : Nat × (Nat → Int32)) (x3 : Int32) (s : ST) (X1150 : Int32 → ST → Prop) (K : Int32 → ST → Prop) : Prop := (pin (x3 + (1 : Int32)) sc.1 = true ∧ (pin (x3 + (2 : Int32)) sc.1 = true ∧ (pin (x3 + (3 : Int32)) sc.1 = true ∧ (pin (x3 + (4 : Int32)) sc.1 = true ∧ (pin (x3 + (5 : Int32)) sc.1 = true ∧ w_134 (sc.2 ((x3 + (1 : Int32))).toNatClampNeg) (sc.2 ((x3 + (2 : Int32))).toNatClampNeg) (sc.2 ((x3 + (3 : Int32))).toNatClampNeg) (sc.2 ((x3 + (4 : Int32))).toNatClampNeg) (sc.2 ((x3 + (5 : Int32))).toNatClampNeg) s (fun r2 s1 => (pin (x3 + (1 : Int32)) sc.1 = true ∧ (pin (x3 + (2 : Int32)) sc.1 = true ∧ (pin (x3 + (3 : Int32)) sc.1 = true ∧ (pin (x3 + (4 : Int32)) sc.1 = true ∧ (pin (x3 + (5 : Int32)) sc.1 = true ∧ w_201 (sc.2 ((x3 + (1 : Int32))).toNatClampNeg) (sc.2 ((x3 + (2 : Int32))).toNatClampNeg) (sc.2 ((x3 + (3 : Int32))).toNatClampNeg) (sc.2 ((x3 + (4 : Int32))).toNatClampNeg) (sc.2 ((x3 + (5 : Int32))).toNatClampNeg) s1 (fun r4 s3 => ((r2 = r4 → X1150 x3 s3) ∧ (¬ (r2 = r4) → K (0 : Int32) s3))))))))))))))
set_option maxRecDepth 40000 in
theorem ql_6 {d : Nat} {X1150 K : Int32 → ST → Prop} (x3 : Int32) (s : ST) (k : wl_6 sc x3 s X1150 K) (hX1150 : ∀ (y3 : Int32) (s : ST), X1150 y3 s → Ex sc (d + 67) 309 1150 [.float 0, .ref 0, .ref 55, .int y3] [] (hpS s) (kZ K)) : Ex sc (d + 67) 309 254 [.float 0, .ref 0, .ref 55, .int x3] [] (hpS s) (kZ K) := by
  have hq : prog[309]? = some pm309 := rfl
  unfold wl_6 at k
  refine Ex.seg hq 5 (j := 259) (L' := [.float 0, .ref 0, .ref 55, .int x3]) (S' := [.int (x3 + (1 : Int32)), .float 0, .ref 0]) (h' := hpS s) rfl ?_
  obtain ⟨hin, k⟩ := k
  refine Ex.nx hq rfl (L' := [.float 0, .ref 0, .ref 55, .int x3]) (S' := [.int (sc.2 ((x3 + (1 : Int32))).toNatClampNeg), .ref 0]) (h' := hpS s) (by simp only [stp, pial, hin, if_true]) ?_
  refine Ex.seg hq 4 (j := 264) (L' := [.float 0, .ref 0, .ref 55, .int x3]) (S' := [.int (x3 + (2 : Int32)), .float 0, .int (sc.2 ((x3 + (1 : Int32))).toNatClampNeg), .ref 0]) (h' := hpS s) rfl ?_
  obtain ⟨hin, k⟩ := k
  refine Ex.nx hq rfl (L' := [.float 0, .ref 0, .ref 55, .int x3]) (S' := [.int (sc.2 ((x3 + (2 : Int32))).toNatClampNeg), .int (sc.2 ((x3 + (1 : Int32))).toNatClampNeg), .ref 0]) (h' := hpS s) (by simp only [stp, pial, hin, if_true]) ?_
  refine Ex.seg hq 4 (j := 269) (L' := [.float 0, .ref 0, .ref 55, .int x3]) (S' := [.int (x3 + (3 : Int32)), .float 0, .int (sc.2 ((x3 + (2 : Int32))).toNatClampNeg), .int (sc.2 ((x3 + (1 : Int32))).toNatClampNeg), .ref 0]) (h' := hpS s) rfl ?_
  obtain ⟨hin, k⟩ := k
  refine Ex.nx hq rfl (L' := [.float 0, .ref 0, .ref 55, .int x3]) (S' := [.int (sc.2 ((x3 + (3 : Int32))).toNatClampNeg), .int (sc.2 ((x3 + (2 : Int32))).toNatClampNeg), .int (sc.2 ((x3 + (1 : Int32))).toNatClampNeg), .ref 0]) (h' := hpS s) (by simp only [stp, pial, hin, if_true]) ?_
  refine Ex.seg hq 4 (j := 274) (L' := [.float 0, .ref 0, .ref 55, .int x3]) (S' := [.int (x3 + (4 : Int32)), .float 0, .int (sc.2 ((x3 + (3 : Int32))).toNatClampNeg), .int (sc.2 ((x3 + (2 : Int32))).toNatClampNeg), .int (sc.2 ((x3 + (1 : Int32))).toNatClampNeg), .ref 0]) (h' := hpS s) rfl ?_
  obtain ⟨hin, k⟩ := k
  refine Ex.nx hq rfl (L' := [.float 0, .ref 0, .ref 55, .int x3]) (S' := [.int (sc.2 ((x3 + (4 : Int32))).toNatClampNeg), .int (sc.2 ((x3 + (3 : Int32))).toNatClampNeg), .int (sc.2 ((x3 + (2 : Int32))).toNatClampNeg), .int (sc.2 ((x3 + (1 : Int32))).toNatClampNeg), .ref 0]) (h' := hpS s) (by simp only [stp, pial, hin, if_true]) ?_
  refine Ex.seg hq 4 (j := 279) (L' := [.float 0, .ref 0, .ref 55, .int x3]) (S' := [.int (x3 + (5 : Int32)), .float 0, .int (sc.2 ((x3 + (4 : Int32))).toNatClampNeg), .int (sc.2 ((x3 + (3 : Int32))).toNatClampNeg), .int (sc.2 ((x3 + (2 : Int32))).toNatClampNeg), .int (sc.2 ((x3 + (1 : Int32))).toNatClampNeg), .ref 0]) (h' := hpS s) rfl ?_
  obtain ⟨hin, k⟩ := k
  refine Ex.nx hq rfl (L' := [.float 0, .ref 0, .ref 55, .int x3]) (S' := [.int (sc.2 ((x3 + (5 : Int32))).toNatClampNeg), .int (sc.2 ((x3 + (4 : Int32))).toNatClampNeg), .int (sc.2 ((x3 + (3 : Int32))).toNatClampNeg), .int (sc.2 ((x3 + (2 : Int32))).toNatClampNeg), .int (sc.2 ((x3 + (1 : Int32))).toNatClampNeg), .ref 0]) (h' := hpS s) (by simp only [stp, pial, hin, if_true]) ?_
  refine Ex.cl hq rfl rfl ?_
  refine Rn.mono (q_134 (d := d + 65) (sc.2 ((x3 + (1 : Int32))).toNatClampNeg) (sc.2 ((x3 + (2 : Int32))).toNatClampNeg) (sc.2 ((x3 + (3 : Int32))).toNatClampNeg) (sc.2 ((x3 + (4 : Int32))).toNatClampNeg) (sc.2 ((x3 + (5 : Int32))).toNatClampNeg) s k) ?_
  rintro _ _ ⟨r2, s1, rfl, rfl, k⟩
  show Ex sc (d + 67) 309 281 [.float 0, .ref 0, .ref 55, .int x3] [.int r2] (hpS s1) _
  refine Ex.seg hq 5 (j := 286) (L' := [.float 0, .ref 0, .ref 55, .int x3]) (S' := [.int (x3 + (1 : Int32)), .float 0, .ref 55, .int r2]) (h' := hpS s1) rfl ?_
  obtain ⟨hin, k⟩ := k
  refine Ex.nx hq rfl (L' := [.float 0, .ref 0, .ref 55, .int x3]) (S' := [.int (sc.2 ((x3 + (1 : Int32))).toNatClampNeg), .ref 55, .int r2]) (h' := hpS s1) (by simp only [stp, pial, hin, if_true]) ?_
  refine Ex.seg hq 4 (j := 291) (L' := [.float 0, .ref 0, .ref 55, .int x3]) (S' := [.int (x3 + (2 : Int32)), .float 0, .int (sc.2 ((x3 + (1 : Int32))).toNatClampNeg), .ref 55, .int r2]) (h' := hpS s1) rfl ?_
  obtain ⟨hin, k⟩ := k
  refine Ex.nx hq rfl (L' := [.float 0, .ref 0, .ref 55, .int x3]) (S' := [.int (sc.2 ((x3 + (2 : Int32))).toNatClampNeg), .int (sc.2 ((x3 + (1 : Int32))).toNatClampNeg), .ref 55, .int r2]) (h' := hpS s1) (by simp only [stp, pial, hin, if_true]) ?_
  refine Ex.seg hq 4 (j := 296) (L' := [.float 0, .ref 0, .ref 55, .int x3]) (S' := [.int (x3 + (3 : Int32)), .float 0, .int (sc.2 ((x3 + (2 : Int32))).toNatClampNeg), .int (sc.2 ((x3 + (1 : Int32))).toNatClampNeg), .ref 55, .int r2]) (h' := hpS s1) rfl ?_
  obtain ⟨hin, k⟩ := k
  refine Ex.nx hq rfl (L' := [.float 0, .ref 0, .ref 55, .int x3]) (S' := [.int (sc.2 ((x3 + (3 : Int32))).toNatClampNeg), .int (sc.2 ((x3 + (2 : Int32))).toNatClampNeg), .int (sc.2 ((x3 + (1 : Int32))).toNatClampNeg), .ref 55, .int r2]) (h' := hpS s1) (by simp only [stp, pial, hin, if_true]) ?_
  refine Ex.seg hq 4 (j := 301) (L' := [.float 0, .ref 0, .ref 55, .int x3]) (S' := [.int (x3 + (4 : Int32)), .float 0, .int (sc.2 ((x3 + (3 : Int32))).toNatClampNeg), .int (sc.2 ((x3 + (2 : Int32))).toNatClampNeg), .int (sc.2 ((x3 + (1 : Int32))).toNatClampNeg), .ref 55, .int r2]) (h' := hpS s1) rfl ?_
  obtain ⟨hin, k⟩ := k
  refine Ex.nx hq rfl (L' := [.float 0, .ref 0, .ref 55, .int x3]) (S' := [.int (sc.2 ((x3 + (4 : Int32))).toNatClampNeg), .int (sc.2 ((x3 + (3 : Int32))).toNatClampNeg), .int (sc.2 ((x3 + (2 : Int32))).toNatClampNeg), .int (sc.2 ((x3 + (1 : Int32))).toNatClampNeg), .ref 55, .int r2]) (h' := hpS s1) (by simp only [stp, pial, hin, if_true]) ?_
  refine Ex.seg hq 4 (j := 306) (L' := [.float 0, .ref 0, .ref 55, .int x3]) (S' := [.int (x3 + (5 : Int32)), .float 0, .int (sc.2 ((x3 + (4 : Int32))).toNatClampNeg), .int (sc.2 ((x3 + (3 : Int32))).toNatClampNeg), .int (sc.2 ((x3 + (2 : Int32))).toNatClampNeg), .int (sc.2 ((x3 + (1 : Int32))).toNatClampNeg), .ref 55, .int r2]) (h' := hpS s1) rfl ?_
  obtain ⟨hin, k⟩ := k
  refine Ex.nx hq rfl (L' := [.float 0, .ref 0, .ref 55, .int x3]) (S' := [.int (sc.2 ((x3 + (5 : Int32))).toNatClampNeg), .int (sc.2 ((x3 + (4 : Int32))).toNatClampNeg), .int (sc.2 ((x3 + (3 : Int32))).toNatClampNeg), .int (sc.2 ((x3 + (2 : Int32))).toNatClampNeg), .int (sc.2 ((x3 + (1 : Int32))).toNatClampNeg), .ref 55, .int r2]) (h' := hpS s1) (by simp only [stp, pial, hin, if_true]) ?_
  refine Ex.cl hq rfl rfl ?_
  refine Rn.mono (q_201 (d := d + 65) (sc.2 ((x3 + (1 : Int32))).toNatClampNeg) (sc.2 ((x3 + (2 : Int32))).toNatClampNeg) (sc.2 ((x3 + (3 : Int32))).toNatClampNeg) (sc.2 ((x3 + (4 : Int32))).toNatClampNeg) (sc.2 ((x3 + (5 : Int32))).toNatClampNeg) s1 k) ?_
  rintro _ _ ⟨r4, s3, rfl, rfl, k⟩
  show Ex sc (d + 67) 309 308 [.float 0, .ref 0, .ref 55, .int x3] [.int r4, .int r2] (hpS s3) _
  refine Ex.i2 hq rfl (fun c => ?_) (fun c => ?_)
  · have k := k.1 c
    exact hX1150 x3 s3 k
  · have k := k.2 c
    refine Ex.seg hq 1 (j := 310) (L' := [.float 0, .ref 0, .ref 55, .int x3]) (S' := [.int (0 : Int32)]) (h' := hpS s3) rfl ?_
    exact Ex.zr hq rfl rfl (Or.inl rfl) ⟨(0 : Int32), s3, rfl, (Or.inl rfl), rfl, k⟩
/-- case 7 -/
def wl_7 (sc : Nat × (Nat → Int32)) (x3 : Int32) (s : ST) (X1150 : Int32 → ST → Prop) (K : Int32 → ST → Prop) : Prop := (pin (x3 + (1 : Int32)) sc.1 = true ∧ (pin (x3 + (2 : Int32)) sc.1 = true ∧ (pin (x3 + (3 : Int32)) sc.1 = true ∧ w_137 (sc.2 ((x3 + (1 : Int32))).toNatClampNeg) (sc.2 ((x3 + (2 : Int32))).toNatClampNeg) (sc.2 ((x3 + (3 : Int32))).toNatClampNeg) s (fun r2 s1 => (pin (x3 + (1 : Int32)) sc.1 = true ∧ (pin (x3 + (2 : Int32)) sc.1 = true ∧ (pin (x3 + (3 : Int32)) sc.1 = true ∧ w_226 (sc.2 ((x3 + (1 : Int32))).toNatClampNeg) (sc.2 ((x3 + (2 : Int32))).toNatClampNeg) (sc.2 ((x3 + (3 : Int32))).toNatClampNeg) s1 (fun r4 s3 => ((r2 = r4 → X1150 x3 s3) ∧ (¬ (r2 = r4) → K (0 : Int32) s3))))))))))
set_option maxRecDepth 40000 in
theorem ql_7 {d : Nat} {X1150 K : Int32 → ST → Prop} (x3 : Int32) (s : ST) (k : wl_7 sc x3 s X1150 K) (hX1150 : ∀ (y3 : Int32) (s : ST), X1150 y3 s → Ex sc (d + 67) 309 1150 [.float 0, .ref 0, .ref 55, .int y3] [] (hpS s) (kZ K)) : Ex sc (d + 67) 309 311 [.float 0, .ref 0, .ref 55, .int x3] [] (hpS s) (kZ K) := by
  have hq : prog[309]? = some pm309 := rfl
  unfold wl_7 at k
  refine Ex.seg hq 5 (j := 316) (L' := [.float 0, .ref 0, .ref 55, .int x3]) (S' := [.int (x3 + (1 : Int32)), .float 0, .ref 0]) (h' := hpS s) rfl ?_
  obtain ⟨hin, k⟩ := k
  refine Ex.nx hq rfl (L' := [.float 0, .ref 0, .ref 55, .int x3]) (S' := [.int (sc.2 ((x3 + (1 : Int32))).toNatClampNeg), .ref 0]) (h' := hpS s) (by simp only [stp, pial, hin, if_true]) ?_
  refine Ex.seg hq 4 (j := 321) (L' := [.float 0, .ref 0, .ref 55, .int x3]) (S' := [.int (x3 + (2 : Int32)), .float 0, .int (sc.2 ((x3 + (1 : Int32))).toNatClampNeg), .ref 0]) (h' := hpS s) rfl ?_
  obtain ⟨hin, k⟩ := k
  refine Ex.nx hq rfl (L' := [.float 0, .ref 0, .ref 55, .int x3]) (S' := [.int (sc.2 ((x3 + (2 : Int32))).toNatClampNeg), .int (sc.2 ((x3 + (1 : Int32))).toNatClampNeg), .ref 0]) (h' := hpS s) (by simp only [stp, pial, hin, if_true]) ?_
  refine Ex.seg hq 4 (j := 326) (L' := [.float 0, .ref 0, .ref 55, .int x3]) (S' := [.int (x3 + (3 : Int32)), .float 0, .int (sc.2 ((x3 + (2 : Int32))).toNatClampNeg), .int (sc.2 ((x3 + (1 : Int32))).toNatClampNeg), .ref 0]) (h' := hpS s) rfl ?_
  obtain ⟨hin, k⟩ := k
  refine Ex.nx hq rfl (L' := [.float 0, .ref 0, .ref 55, .int x3]) (S' := [.int (sc.2 ((x3 + (3 : Int32))).toNatClampNeg), .int (sc.2 ((x3 + (2 : Int32))).toNatClampNeg), .int (sc.2 ((x3 + (1 : Int32))).toNatClampNeg), .ref 0]) (h' := hpS s) (by simp only [stp, pial, hin, if_true]) ?_
  refine Ex.cl hq rfl rfl ?_
  refine Rn.mono (q_137 (d := d + 0) (sc.2 ((x3 + (1 : Int32))).toNatClampNeg) (sc.2 ((x3 + (2 : Int32))).toNatClampNeg) (sc.2 ((x3 + (3 : Int32))).toNatClampNeg) s k) ?_
  rintro _ _ ⟨r2, s1, rfl, rfl, k⟩
  show Ex sc (d + 67) 309 328 [.float 0, .ref 0, .ref 55, .int x3] [.int r2] (hpS s1) _
  refine Ex.seg hq 5 (j := 333) (L' := [.float 0, .ref 0, .ref 55, .int x3]) (S' := [.int (x3 + (1 : Int32)), .float 0, .ref 55, .int r2]) (h' := hpS s1) rfl ?_
  obtain ⟨hin, k⟩ := k
  refine Ex.nx hq rfl (L' := [.float 0, .ref 0, .ref 55, .int x3]) (S' := [.int (sc.2 ((x3 + (1 : Int32))).toNatClampNeg), .ref 55, .int r2]) (h' := hpS s1) (by simp only [stp, pial, hin, if_true]) ?_
  refine Ex.seg hq 4 (j := 338) (L' := [.float 0, .ref 0, .ref 55, .int x3]) (S' := [.int (x3 + (2 : Int32)), .float 0, .int (sc.2 ((x3 + (1 : Int32))).toNatClampNeg), .ref 55, .int r2]) (h' := hpS s1) rfl ?_
  obtain ⟨hin, k⟩ := k
  refine Ex.nx hq rfl (L' := [.float 0, .ref 0, .ref 55, .int x3]) (S' := [.int (sc.2 ((x3 + (2 : Int32))).toNatClampNeg), .int (sc.2 ((x3 + (1 : Int32))).toNatClampNeg), .ref 55, .int r2]) (h' := hpS s1) (by simp only [stp, pial, hin, if_true]) ?_
  refine Ex.seg hq 4 (j := 343) (L' := [.float 0, .ref 0, .ref 55, .int x3]) (S' := [.int (x3 + (3 : Int32)), .float 0, .int (sc.2 ((x3 + (2 : Int32))).toNatClampNeg), .int (sc.2 ((x3 + (1 : Int32))).toNatClampNeg), .ref 55, .int r2]) (h' := hpS s1) rfl ?_
  obtain ⟨hin, k⟩ := k
  refine Ex.nx hq rfl (L' := [.float 0, .ref 0, .ref 55, .int x3]) (S' := [.int (sc.2 ((x3 + (3 : Int32))).toNatClampNeg), .int (sc.2 ((x3 + (2 : Int32))).toNatClampNeg), .int (sc.2 ((x3 + (1 : Int32))).toNatClampNeg), .ref 55, .int r2]) (h' := hpS s1) (by simp only [stp, pial, hin, if_true]) ?_
  refine Ex.cl hq rfl rfl ?_
  refine Rn.mono (q_226 (d := d + 58) (sc.2 ((x3 + (1 : Int32))).toNatClampNeg) (sc.2 ((x3 + (2 : Int32))).toNatClampNeg) (sc.2 ((x3 + (3 : Int32))).toNatClampNeg) s1 k) ?_
  rintro _ _ ⟨r4, s3, rfl, rfl, k⟩
  show Ex sc (d + 67) 309 345 [.float 0, .ref 0, .ref 55, .int x3] [.int r4, .int r2] (hpS s3) _
  refine Ex.i2 hq rfl (fun c => ?_) (fun c => ?_)
  · have k := k.1 c
    exact hX1150 x3 s3 k
  · have k := k.2 c
    refine Ex.seg hq 1 (j := 347) (L' := [.float 0, .ref 0, .ref 55, .int x3]) (S' := [.int (0 : Int32)]) (h' := hpS s3) rfl ?_
    exact Ex.zr hq rfl rfl (Or.inl rfl) ⟨(0 : Int32), s3, rfl, (Or.inl rfl), rfl, k⟩
/-- case 8 -/
def wl_8 (sc : Nat × (Nat → Int32)) (x3 : Int32) (s : ST) (X1150 : Int32 → ST → Prop) (K : Int32 → ST → Prop) : Prop := (pin (x3 + (1 : Int32)) sc.1 = true ∧ (pin (x3 + (2 : Int32)) sc.1 = true ∧ w_139 (sc.2 ((x3 + (1 : Int32))).toNatClampNeg) (sc.2 ((x3 + (2 : Int32))).toNatClampNeg) s (fun r2 s1 => (pin (x3 + (1 : Int32)) sc.1 = true ∧ (pin (x3 + (2 : Int32)) sc.1 = true ∧ w_237 (sc.2 ((x3 + (1 : Int32))).toNatClampNeg) (sc.2 ((x3 + (2 : Int32))).toNatClampNeg) s1 (fun r4 s3 => ((r2 = r4 → X1150 x3 s3) ∧ (¬ (r2 = r4) → K (0 : Int32) s3))))))))
set_option maxRecDepth 40000 in
theorem ql_8 {d : Nat} {X1150 K : Int32 → ST → Prop} (x3 : Int32) (s : ST) (k : wl_8 sc x3 s X1150 K) (hX1150 : ∀ (y3 : Int32) (s : ST), X1150 y3 s → Ex sc (d + 67) 309 1150 [.float 0, .ref 0, .ref 55, .int y3] [] (hpS s) (kZ K)) : Ex sc (d + 67) 309 348 [.float 0, .ref 0, .ref 55, .int x3] [] (hpS s) (kZ K) := by
  have hq : prog[309]? = some pm309 := rfl
  unfold wl_8 at k
  refine Ex.seg hq 5 (j := 353) (L' := [.float 0, .ref 0, .ref 55, .int x3]) (S' := [.int (x3 + (1 : Int32)), .float 0, .ref 0]) (h' := hpS s) rfl ?_
  obtain ⟨hin, k⟩ := k
  refine Ex.nx hq rfl (L' := [.float 0, .ref 0, .ref 55, .int x3]) (S' := [.int (sc.2 ((x3 + (1 : Int32))).toNatClampNeg), .ref 0]) (h' := hpS s) (by simp only [stp, pial, hin, if_true]) ?_
  refine Ex.seg hq 4 (j := 358) (L' := [.float 0, .ref 0, .ref 55, .int x3]) (S' := [.int (x3 + (2 : Int32)), .float 0, .int (sc.2 ((x3 + (1 : Int32))).toNatClampNeg), .ref 0]) (h' := hpS s) rfl ?_
  obtain ⟨hin, k⟩ := k
  refine Ex.nx hq rfl (L' := [.float 0, .ref 0, .ref 55, .int x3]) (S' := [.int (sc.2 ((x3 + (2 : Int32))).toNatClampNeg), .int (sc.2 ((x3 + (1 : Int32))).toNatClampNeg), .ref 0]) (h' := hpS s) (by simp only [stp, pial, hin, if_true]) ?_
  refine Ex.cl hq rfl rfl ?_
  refine Rn.mono (q_139 (d := d + 61) (sc.2 ((x3 + (1 : Int32))).toNatClampNeg) (sc.2 ((x3 + (2 : Int32))).toNatClampNeg) s k) ?_
  rintro _ _ ⟨r2, s1, rfl, rfl, k⟩
  show Ex sc (d + 67) 309 360 [.float 0, .ref 0, .ref 55, .int x3] [.int r2] (hpS s1) _
  refine Ex.seg hq 5 (j := 365) (L' := [.float 0, .ref 0, .ref 55, .int x3]) (S' := [.int (x3 + (1 : Int32)), .float 0, .ref 55, .int r2]) (h' := hpS s1) rfl ?_
  obtain ⟨hin, k⟩ := k
  refine Ex.nx hq rfl (L' := [.float 0, .ref 0, .ref 55, .int x3]) (S' := [.int (sc.2 ((x3 + (1 : Int32))).toNatClampNeg), .ref 55, .int r2]) (h' := hpS s1) (by simp only [stp, pial, hin, if_true]) ?_
  refine Ex.seg hq 4 (j := 370) (L' := [.float 0, .ref 0, .ref 55, .int x3]) (S' := [.int (x3 + (2 : Int32)), .float 0, .int (sc.2 ((x3 + (1 : Int32))).toNatClampNeg), .ref 55, .int r2]) (h' := hpS s1) rfl ?_
  obtain ⟨hin, k⟩ := k
  refine Ex.nx hq rfl (L' := [.float 0, .ref 0, .ref 55, .int x3]) (S' := [.int (sc.2 ((x3 + (2 : Int32))).toNatClampNeg), .int (sc.2 ((x3 + (1 : Int32))).toNatClampNeg), .ref 55, .int r2]) (h' := hpS s1) (by simp only [stp, pial, hin, if_true]) ?_
  refine Ex.cl hq rfl rfl ?_
  refine Rn.mono (q_237 (d := d + 62) (sc.2 ((x3 + (1 : Int32))).toNatClampNeg) (sc.2 ((x3 + (2 : Int32))).toNatClampNeg) s1 k) ?_
  rintro _ _ ⟨r4, s3, rfl, rfl, k⟩
  show Ex sc (d + 67) 309 372 [.float 0, .ref 0, .ref 55, .int x3] [.int r4, .int r2] (hpS s3) _
  refine Ex.i2 hq rfl (fun c => ?_) (fun c => ?_)
  · have k := k.1 c
    exact hX1150 x3 s3 k
  · have k := k.2 c
    refine Ex.seg hq 1 (j := 374) (L' := [.float 0, .ref 0, .ref 55, .int x3]) (S' := [.int (0 : Int32)]) (h' := hpS s3) rfl ?_
    exact Ex.zr hq rfl rfl (Or.inl rfl) ⟨(0 : Int32), s3, rfl, (Or.inl rfl), rfl, k⟩
/-- case 9 -/
def wl_9 (sc : Nat × (Nat → Int32)) (x3 : Int32) (s : ST) (X1150 : Int32 → ST → Prop) (K : Int32 → ST → Prop) : Prop := (pin (x3 + (1 : Int32)) sc.1 = true ∧ (pin (x3 + (2 : Int32)) sc.1 = true ∧ w_140 (sc.2 ((x3 + (1 : Int32))).toNatClampNeg) (sc.2 ((x3 + (2 : Int32))).toNatClampNeg) s (fun r2 s1 => (pin (x3 + (1 : Int32)) sc.1 = true ∧ (pin (x3 + (2 : Int32)) sc.1 = true ∧ w_238 (sc.2 ((x3 + (1 : Int32))).toNatClampNeg) (sc.2 ((x3 + (2 : Int32))).toNatClampNeg) s1 (fun r4 s3 => ((r2 = r4 → X1150 x3 s3) ∧ (¬ (r2 = r4) → K (0 : Int32) s3))))))))
set_option maxRecDepth 40000 in
theorem ql_9 {d : Nat} {X1150 K : Int32 → ST → Prop} (x3 : Int32) (s : ST) (k : wl_9 sc x3 s X1150 K) (hX1150 : ∀ (y3 : Int32) (s : ST), X1150 y3 s → Ex sc (d + 67) 309 1150 [.float 0, .ref 0, .ref 55, .int y3] [] (hpS s) (kZ K)) : Ex sc (d + 67) 309 375 [.float 0, .ref 0, .ref 55, .int x3] [] (hpS s) (kZ K) := by
  have hq : prog[309]? = some pm309 := rfl
  unfold wl_9 at k
  refine Ex.seg hq 5 (j := 380) (L' := [.float 0, .ref 0, .ref 55, .int x3]) (S' := [.int (x3 + (1 : Int32)), .float 0, .ref 0]) (h' := hpS s) rfl ?_
  obtain ⟨hin, k⟩ := k
  refine Ex.nx hq rfl (L' := [.float 0, .ref 0, .ref 55, .int x3]) (S' := [.int (sc.2 ((x3 + (1 : Int32))).toNatClampNeg), .ref 0]) (h' := hpS s) (by simp only [stp, pial, hin, if_true]) ?_
  refine Ex.seg hq 4 (j := 385) (L' := [.float 0, .ref 0, .ref 55, .int x3]) (S' := [.int (x3 + (2 : Int32)), .float 0, .int (sc.2 ((x3 + (1 : Int32))).toNatClampNeg), .ref 0]) (h' := hpS s) rfl ?_
  obtain ⟨hin, k⟩ := k
  refine Ex.nx hq rfl (L' := [.float 0, .ref 0, .ref 55, .int x3]) (S' := [.int (sc.2 ((x3 + (2 : Int32))).toNatClampNeg), .int (sc.2 ((x3 + (1 : Int32))).toNatClampNeg), .ref 0]) (h' := hpS s) (by simp only [stp, pial, hin, if_true]) ?_
  refine Ex.cl hq rfl rfl ?_
  refine Rn.mono (q_140 (d := d + 64) (sc.2 ((x3 + (1 : Int32))).toNatClampNeg) (sc.2 ((x3 + (2 : Int32))).toNatClampNeg) s k) ?_
  rintro _ _ ⟨r2, s1, rfl, hzr2, rfl, k⟩
  show Ex sc (d + 67) 309 387 [.float 0, .ref 0, .ref 55, .int x3] [.int r2] (hpS s1) _
  refine Ex.seg hq 5 (j := 392) (L' := [.float 0, .ref 0, .ref 55, .int x3]) (S' := [.int (x3 + (1 : Int32)), .float 0, .ref 55, .int r2]) (h' := hpS s1) rfl ?_
  obtain ⟨hin, k⟩ := k
  refine Ex.nx hq rfl (L' := [.float 0, .ref 0, .ref 55, .int x3]) (S' := [.int (sc.2 ((x3 + (1 : Int32))).toNatClampNeg), .ref 55, .int r2]) (h' := hpS s1) (by simp only [stp, pial, hin, if_true]) ?_
  refine Ex.seg hq 4 (j := 397) (L' := [.float 0, .ref 0, .ref 55, .int x3]) (S' := [.int (x3 + (2 : Int32)), .float 0, .int (sc.2 ((x3 + (1 : Int32))).toNatClampNeg), .ref 55, .int r2]) (h' := hpS s1) rfl ?_
  obtain ⟨hin, k⟩ := k
  refine Ex.nx hq rfl (L' := [.float 0, .ref 0, .ref 55, .int x3]) (S' := [.int (sc.2 ((x3 + (2 : Int32))).toNatClampNeg), .int (sc.2 ((x3 + (1 : Int32))).toNatClampNeg), .ref 55, .int r2]) (h' := hpS s1) (by simp only [stp, pial, hin, if_true]) ?_
  refine Ex.cl hq rfl rfl ?_
  refine Rn.mono (q_238 (d := d + 65) (sc.2 ((x3 + (1 : Int32))).toNatClampNeg) (sc.2 ((x3 + (2 : Int32))).toNatClampNeg) s1 k) ?_
  rintro _ _ ⟨r4, s3, rfl, hzr4, rfl, k⟩
  show Ex sc (d + 67) 309 399 [.float 0, .ref 0, .ref 55, .int x3] [.int r4, .int r2] (hpS s3) _
  refine Ex.i2 hq rfl (fun c => ?_) (fun c => ?_)
  · have k := k.1 c
    exact hX1150 x3 s3 k
  · have k := k.2 c
    refine Ex.seg hq 1 (j := 401) (L' := [.float 0, .ref 0, .ref 55, .int x3]) (S' := [.int (0 : Int32)]) (h' := hpS s3) rfl ?_
    exact Ex.zr hq rfl rfl (Or.inl rfl) ⟨(0 : Int32), s3, rfl, (Or.inl rfl), rfl, k⟩
/-- case 10 -/
def wl_10 (sc : Nat × (Nat → Int32)) (x3 : Int32) (s : ST) (X1150 : Int32 → ST → Prop) (K : Int32 → ST → Prop) : Prop := (pin (x3 + (1 : Int32)) sc.1 = true ∧ w_141 (sc.2 ((x3 + (1 : Int32))).toNatClampNeg) s (fun r2 s1 => (pin (x3 + (1 : Int32)) sc.1 = true ∧ w_241 (sc.2 ((x3 + (1 : Int32))).toNatClampNeg) s1 (fun r4 s3 => ((r2 = r4 → X1150 x3 s3) ∧ (¬ (r2 = r4) → K (0 : Int32) s3))))))
set_option maxRecDepth 40000 in
theorem ql_10 {d : Nat} {X1150 K : Int32 → ST → Prop} (x3 : Int32) (s : ST) (k : wl_10 sc x3 s X1150 K) (hX1150 : ∀ (y3 : Int32) (s : ST), X1150 y3 s → Ex sc (d + 67) 309 1150 [.float 0, .ref 0, .ref 55, .int y3] [] (hpS s) (kZ K)) : Ex sc (d + 67) 309 402 [.float 0, .ref 0, .ref 55, .int x3] [] (hpS s) (kZ K) := by
  have hq : prog[309]? = some pm309 := rfl
  unfold wl_10 at k
  refine Ex.seg hq 5 (j := 407) (L' := [.float 0, .ref 0, .ref 55, .int x3]) (S' := [.int (x3 + (1 : Int32)), .float 0, .ref 0]) (h' := hpS s) rfl ?_
  obtain ⟨hin, k⟩ := k
  refine Ex.nx hq rfl (L' := [.float 0, .ref 0, .ref 55, .int x3]) (S' := [.int (sc.2 ((x3 + (1 : Int32))).toNatClampNeg), .ref 0]) (h' := hpS s) (by simp only [stp, pial, hin, if_true]) ?_
  refine Ex.cl hq rfl rfl ?_
  refine Rn.mono (q_141 (d := d + 59) (sc.2 ((x3 + (1 : Int32))).toNatClampNeg) s k) ?_
  rintro _ _ ⟨r2, s1, rfl, rfl, k⟩
  show Ex sc (d + 67) 309 409 [.float 0, .ref 0, .ref 55, .int x3] [.int r2] (hpS s1) _
  refine Ex.seg hq 5 (j := 414) (L' := [.float 0, .ref 0, .ref 55, .int x3]) (S' := [.int (x3 + (1 : Int32)), .float 0, .ref 55, .int r2]) (h' := hpS s1) rfl ?_
  obtain ⟨hin, k⟩ := k
  refine Ex.nx hq rfl (L' := [.float 0, .ref 0, .ref 55, .int x3]) (S' := [.int (sc.2 ((x3 + (1 : Int32))).toNatClampNeg), .ref 55, .int r2]) (h' := hpS s1) (by simp only [stp, pial, hin, if_true]) ?_
  refine Ex.cl hq rfl rfl ?_
  refine Rn.mono (q_241 (d := d + 60) (sc.2 ((x3 + (1 : Int32))).toNatClampNeg) s1 k) ?_
  rintro _ _ ⟨r4, s3, rfl, rfl, k⟩
  show Ex sc (d + 67) 309 416 [.float 0, .ref 0, .ref 55, .int x3] [.int r4, .int r2] (hpS s3) _
  refine Ex.i2 hq rfl (fun c => ?_) (fun c => ?_)
  · have k := k.1 c
    exact hX1150 x3 s3 k
  · have k := k.2 c
    refine Ex.seg hq 1 (j := 418) (L' := [.float 0, .ref 0, .ref 55, .int x3]) (S' := [.int (0 : Int32)]) (h' := hpS s3) rfl ?_
    exact Ex.zr hq rfl rfl (Or.inl rfl) ⟨(0 : Int32), s3, rfl, (Or.inl rfl), rfl, k⟩
/-- case 11 -/
def wl_11 (sc : Nat × (Nat → Int32)) (x3 : Int32) (s : ST) (X1150 : Int32 → ST → Prop) (K : Int32 → ST → Prop) : Prop := (pin (x3 + (1 : Int32)) sc.1 = true ∧ (pin (x3 + (2 : Int32)) sc.1 = true ∧ w_142 (sc.2 ((x3 + (1 : Int32))).toNatClampNeg) (sc.2 ((x3 + (2 : Int32))).toNatClampNeg) s (fun r2 s1 => (pin (x3 + (1 : Int32)) sc.1 = true ∧ (pin (x3 + (2 : Int32)) sc.1 = true ∧ w_242 (sc.2 ((x3 + (1 : Int32))).toNatClampNeg) (sc.2 ((x3 + (2 : Int32))).toNatClampNeg) s1 (fun r4 s3 => ((r2 = r4 → X1150 x3 s3) ∧ (¬ (r2 = r4) → K (0 : Int32) s3))))))))
set_option maxRecDepth 40000 in
theorem ql_11 {d : Nat} {X1150 K : Int32 → ST → Prop} (x3 : Int32) (s : ST) (k : wl_11 sc x3 s X1150 K) (hX1150 : ∀ (y3 : Int32) (s : ST), X1150 y3 s → Ex sc (d + 67) 309 1150 [.float 0, .ref 0, .ref 55, .int y3] [] (hpS s) (kZ K)) : Ex sc (d + 67) 309 419 [.float 0, .ref 0, .ref 55, .int x3] [] (hpS s) (kZ K) := by
  have hq : prog[309]? = some pm309 := rfl
  unfold wl_11 at k
  refine Ex.seg hq 5 (j := 424) (L' := [.float 0, .ref 0, .ref 55, .int x3]) (S' := [.int (x3 + (1 : Int32)), .float 0, .ref 0]) (h' := hpS s) rfl ?_
  obtain ⟨hin, k⟩ := k
  refine Ex.nx hq rfl (L' := [.float 0, .ref 0, .ref 55, .int x3]) (S' := [.int (sc.2 ((x3 + (1 : Int32))).toNatClampNeg), .ref 0]) (h' := hpS s) (by simp only [stp, pial, hin, if_true]) ?_
  refine Ex.seg hq 4 (j := 429) (L' := [.float 0, .ref 0, .ref 55, .int x3]) (S' := [.int (x3 + (2 : Int32)), .float 0, .int (sc.2 ((x3 + (1 : Int32))).toNatClampNeg), .ref 0]) (h' := hpS s) rfl ?_
  obtain ⟨hin, k⟩ := k
  refine Ex.nx hq rfl (L' := [.float 0, .ref 0, .ref 55, .int x3]) (S' := [.int (sc.2 ((x3 + (2 : Int32))).toNatClampNeg), .int (sc.2 ((x3 + (1 : Int32))).toNatClampNeg), .ref 0]) (h' := hpS s) (by simp only [stp, pial, hin, if_true]) ?_
  refine Ex.cl hq rfl rfl ?_
  refine Rn.mono (q_142 (d := d + 60) (sc.2 ((x3 + (1 : Int32))).toNatClampNeg) (sc.2 ((x3 + (2 : Int32))).toNatClampNeg) s k) ?_
  rintro _ _ ⟨r2, s1, rfl, rfl, k⟩
  show Ex sc (d + 67) 309 431 [.float 0, .ref 0, .ref 55, .int x3] [.int r2] (hpS s1) _
  refine Ex.seg hq 5 (j := 436) (L' := [.float 0, .ref 0, .ref 55, .int x3]) (S' := [.int (x3 + (1 : Int32)), .float 0, .ref 55, .int r2]) (h' := hpS s1) rfl ?_
  obtain ⟨hin, k⟩ := k
  refine Ex.nx hq rfl (L' := [.float 0, .ref 0, .ref 55, .int x3]) (S' := [.int (sc.2 ((x3 + (1 : Int32))).toNatClampNeg), .ref 55, .int r2]) (h' := hpS s1) (by simp only [stp, pial, hin, if_true]) ?_
  refine Ex.seg hq 4 (j := 441) (L' := [.float 0, .ref 0, .ref 55, .int x3]) (S' := [.int (x3 + (2 : Int32)), .float 0, .int (sc.2 ((x3 + (1 : Int32))).toNatClampNeg), .ref 55, .int r2]) (h' := hpS s1) rfl ?_
  obtain ⟨hin, k⟩ := k
  refine Ex.nx hq rfl (L' := [.float 0, .ref 0, .ref 55, .int x3]) (S' := [.int (sc.2 ((x3 + (2 : Int32))).toNatClampNeg), .int (sc.2 ((x3 + (1 : Int32))).toNatClampNeg), .ref 55, .int r2]) (h' := hpS s1) (by simp only [stp, pial, hin, if_true]) ?_
  refine Ex.cl hq rfl rfl ?_
  refine Rn.mono (q_242 (d := d + 61) (sc.2 ((x3 + (1 : Int32))).toNatClampNeg) (sc.2 ((x3 + (2 : Int32))).toNatClampNeg) s1 k) ?_
  rintro _ _ ⟨r4, s3, rfl, rfl, k⟩
  show Ex sc (d + 67) 309 443 [.float 0, .ref 0, .ref 55, .int x3] [.int r4, .int r2] (hpS s3) _
  refine Ex.i2 hq rfl (fun c => ?_) (fun c => ?_)
  · have k := k.1 c
    exact hX1150 x3 s3 k
  · have k := k.2 c
    refine Ex.seg hq 1 (j := 445) (L' := [.float 0, .ref 0, .ref 55, .int x3]) (S' := [.int (0 : Int32)]) (h' := hpS s3) rfl ?_
    exact Ex.zr hq rfl rfl (Or.inl rfl) ⟨(0 : Int32), s3, rfl, (Or.inl rfl), rfl, k⟩
/-- case 12 -/
def wl_12 (sc : Nat × (Nat → Int32)) (x3 : Int32) (s : ST) (X1150 : Int32 → ST → Prop) (K : Int32 → ST → Prop) : Prop := (pin (x3 + (1 : Int32)) sc.1 = true ∧ (pin (x3 + (2 : Int32)) sc.1 = true ∧ w_143 (sc.2 ((x3 + (1 : Int32))).toNatClampNeg) (sc.2 ((x3 + (2 : Int32))).toNatClampNeg) s (fun r2 s1 => (pin (x3 + (1 : Int32)) sc.1 = true ∧ (pin (x3 + (2 : Int32)) sc.1 = true ∧ w_245 (sc.2 ((x3 + (1 : Int32))).toNatClampNeg) (sc.2 ((x3 + (2 : Int32))).toNatClampNeg) s1 (fun r4 s3 => ((r2 = r4 → X1150 x3 s3) ∧ (¬ (r2 = r4) → K (0 : Int32) s3))))))))
set_option maxRecDepth 40000 in
theorem ql_12 {d : Nat} {X1150 K : Int32 → ST → Prop} (x3 : Int32) (s : ST) (k : wl_12 sc x3 s X1150 K) (hX1150 : ∀ (y3 : Int32) (s : ST), X1150 y3 s → Ex sc (d + 67) 309 1150 [.float 0, .ref 0, .ref 55, .int y3] [] (hpS s) (kZ K)) : Ex sc (d + 67) 309 446 [.float 0, .ref 0, .ref 55, .int x3] [] (hpS s) (kZ K) := by
  have hq : prog[309]? = some pm309 := rfl
  unfold wl_12 at k
  refine Ex.seg hq 5 (j := 451) (L' := [.float 0, .ref 0, .ref 55, .int x3]) (S' := [.int (x3 + (1 : Int32)), .float 0, .ref 0]) (h' := hpS s) rfl ?_
  obtain ⟨hin, k⟩ := k
  refine Ex.nx hq rfl (L' := [.float 0, .ref 0, .ref 55, .int x3]) (S' := [.int (sc.2 ((x3 + (1 : Int32))).toNatClampNeg), .ref 0]) (h' := hpS s) (by simp only [stp, pial, hin, if_true]) ?_
  refine Ex.seg hq 4 (j := 456) (L' := [.float 0, .ref 0, .ref 55, .int x3]) (S' := [.int (x3 + (2 : Int32)), .float 0, .int (sc.2 ((x3 + (1 : Int32))).toNatClampNeg), .ref 0]) (h' := hpS s) rfl ?_
  obtain ⟨hin, k⟩ := k
  refine Ex.nx hq rfl (L' := [.float 0, .ref 0, .ref 55, .int x3]) (S' := [.int (sc.2 ((x3 + (2 : Int32))).toNatClampNeg), .int (sc.2 ((x3 + (1 : Int32))).toNatClampNeg), .ref 0]) (h' := hpS s) (by simp only [stp, pial, hin, if_true]) ?_
  refine Ex.cl hq rfl rfl ?_
  refine Rn.mono (q_143 (d := d + 61) (sc.2 ((x3 + (1 : Int32))).toNatClampNeg) (sc.2 ((x3 + (2 : Int32))).toNatClampNeg) s k) ?_
  rintro _ _ ⟨r2, s1, rfl, rfl, k⟩
  show Ex sc (d + 67) 309 458 [.float 0, .ref 0, .ref 55, .int x3] [.int r2] (hpS s1) _
  refine Ex.seg hq 5 (j := 463) (L' := [.float 0, .ref 0, .ref 55, .int x3]) (S' := [.int (x3 + (1 : Int32)), .float 0, .ref 55, .int r2]) (h' := hpS s1) rfl ?_
  obtain ⟨hin, k⟩ := k
  refine Ex.nx hq rfl (L' := [.float 0, .ref 0, .ref 55, .int x3]) (S' := [.int (sc.2 ((x3 + (1 : Int32))).toNatClampNeg), .ref 55, .int r2]) (h' := hpS s1) (by simp only [stp, pial, hin, if_true]) ?_
  refine Ex.seg hq 4 (j := 468) (L' := [.float 0, .ref 0, .ref 55, .int x3]) (S' := [.int (x3 + (2 : Int32)), .float 0, .int (sc.2 ((x3 + (1 : Int32))).toNatClampNeg), .ref 55, .int r2]) (h' := hpS s1) rfl ?_
  obtain ⟨hin, k⟩ := k
  refine Ex.nx hq rfl (L' := [.float 0, .ref 0, .ref 55, .int x3]) (S' := [.int (sc.2 ((x3 + (2 : Int32))).toNatClampNeg), .int (sc.2 ((x3 + (1 : Int32))).toNatClampNeg), .ref 55, .int r2]) (h' := hpS s1) (by simp only [stp, pial, hin, if_true]) ?_
  refine Ex.cl hq rfl rfl ?_
  refine Rn.mono (q_245 (d := d + 64) (sc.2 ((x3 + (1 : Int32))).toNatClampNeg) (sc.2 ((x3 + (2 : Int32))).toNatClampNeg) s1 k) ?_
  rintro _ _ ⟨r4, s3, rfl, rfl, k⟩
  show Ex sc (d + 67) 309 470 [.float 0, .ref 0, .ref 55, .int x3] [.int r4, .int r2] (hpS s3) _
  refine Ex.i2 hq rfl (fun c => ?_) (fun c => ?_)
  · have k := k.1 c
    exact hX1150 x3 s3 k
  · have k := k.2 c
    refine Ex.seg hq 1 (j := 472) (L' := [.float 0, .ref 0, .ref 55, .int x3]) (S' := [.int (0 : Int32)]) (h' := hpS s3) rfl ?_
    exact Ex.zr hq rfl rfl (Or.inl rfl) ⟨(0 : Int32), s3, rfl, (Or.inl rfl), rfl, k⟩
/-- case 13 -/
def wl_13 (sc : Nat × (Nat → Int32)) (x3 : Int32) (s : ST) (X1150 : Int32 → ST → Prop) (K : Int32 → ST → Prop) : Prop := (pin (x3 + (1 : Int32)) sc.1 = true ∧ (pin (x3 + (2 : Int32)) sc.1 = true ∧ (pin (x3 + (3 : Int32)) sc.1 = true ∧ (((sc.2 ((x3 + (3 : Int32))).toNatClampNeg) = 0 → w_147 (sc.2 ((x3 + (1 : Int32))).toNatClampNeg) (sc.2 ((x3 + (2 : Int32))).toNatClampNeg) (0 : Int32) s (fun r2 s1 => (pin (x3 + (1 : Int32)) sc.1 = true ∧ (pin (x3 + (2 : Int32)) sc.1 = true ∧ (pin (x3 + (3 : Int32)) sc.1 = true ∧ (((sc.2 ((x3 + (3 : Int32))).toNatClampNeg) = 0 → w_250 (sc.2 ((x3 + (1 : Int32))).toNatClampNeg) (sc.2 ((x3 + (2 : Int32))).toNatClampNeg) (0 : Int32) s1 (fun r4 s3 => ((r2 = r4 → X1150 x3 s3) ∧ (¬ (r2 = r4) → K (0 : Int32) s3)))) ∧ (¬ ((sc.2 ((x3 + (3 : Int32))).toNatClampNeg) = 0) → w_250 (sc.2 ((x3 + (1 : Int32))).toNatClampNeg) (sc.2 ((x3 + (2 : Int32))).toNatClampNeg) (1 : Int32) s1 (fun r6 s5 => ((r2 = r6 → X1150 x3 s5) ∧ (¬ (r2 = r6) → K (0 : Int32) s5)))))))))) ∧ (¬ ((sc.2 ((x3 + (3 : Int32))).toNatClampNeg) = 0) → w_147 (sc.2 ((x3 + (1 : Int32))).toNatClampNeg) (sc.2 ((x3 + (2 : Int32))).toNatClampNeg) (1 : Int32) s (fun r8 s7 => (pin (x3 + (1 : Int32)) sc.1 = true ∧ (pin (x3 + (2 : Int32)) sc.1 = true ∧ (pin (x3 + (3 : Int32)) sc.1 = true ∧ (((sc.2 ((x3 + (3 : Int32))).toNatClampNeg) = 0 → w_250 (sc.2 ((x3 + (1 : Int32))).toNatClampNeg) (sc.2 ((x3 + (2 : Int32))).toNatClampNeg) (0 : Int32) s7 (fun r10 s9 => ((r8 = r10 → X1150 x3 s9) ∧ (¬ (r8 = r10) → K (0 : Int32) s9)))) ∧ (¬ ((sc.2 ((x3 + (3 : Int32))).toNatClampNeg) = 0) → w_250 (sc.2 ((x3 + (1 : Int32))).toNatClampNeg) (sc.2 ((x3 + (2 : Int32))).toNatClampNeg) (1 : Int32) s7 (fun r12 s11 => ((r8 = r12 → X1150 x3 s11) ∧ (¬ (r8 = r12) → K (0 : Int32) s11))))))))))))))
set_option maxRecDepth 40000 in
theorem ql_13 {d : Nat} {X1150 K : Int32 → ST → Prop} (x3 : Int32) (s : ST) (k : wl_13 sc x3 s X1150 K) (hX1150 : ∀ (y3 : Int32) (s : ST), X1150 y3 s → Ex sc (d + 67) 309 1150 [.float 0, .ref 0, .ref 55, .int y3] [] (hpS s) (kZ K)) : Ex sc (d + 67) 309 473 [.float 0, .ref 0, .ref 55, .int x3] [] (hpS s) (kZ K) := by
  have hq : prog[309]? = some pm309 := rfl
  unfold wl_13 at k
  refine Ex.seg hq 5 (j := 478) (L' := [.float 0, .ref 0, .ref 55, .int x3]) (S' := [.int (x3 + (1 : Int32)), .float 0, .ref 0]) (h' := hpS s) rfl ?_
  obtain ⟨hin, k⟩ := k
  refine Ex.nx hq rfl (L' := [.float 0, .ref 0, .ref 55, .int x3]) (S' := [.int (sc.2 ((x3 + (1 : Int32))).toNatClampNeg), .ref 0]) (h' := hpS s) (by simp only [stp, pial, hin, if_true]) ?_
  refine Ex.seg hq 4 (j := 483) (L' := [.float 0, .ref 0, .ref 55, .int x3]) (S' := [.int (x3 + (2 : Int32)), .float 0, .int (sc.2 ((x3 + (1 : Int32))).toNatClampNeg), .ref 0]) (h' := hpS s) rfl ?_
  obtain ⟨hin, k⟩ := k
  refine Ex.nx hq rfl (L' := [.float 0, .ref 0, .ref 55, .int x3]) (S' := [.int (sc.2 ((x3 + (2 : Int32))).toNatClampNeg), .int (sc.2 ((x3 + (1 : Int32))).toNatClampNeg), .ref 0]) (h' := hpS s) (by simp only [stp, pial, hin, if_true]) ?_
  refine Ex.seg hq 4 (j := 488) (L' := [.float 0, .ref 0, .ref 55, .int x3]) (S' := [.int (x3 + (3 : Int32)), .float 0, .int (sc.2 ((x3 + (2 : Int32))).toNatClampNeg), .int (sc.2 ((x3 + (1 : Int32))).toNatClampNeg), .ref 0]) (h' := hpS s) rfl ?_
  obtain ⟨hin, k⟩ := k
  refine Ex.nx hq rfl (L' := [.float 0, .ref 0, .ref 55, .int x3]) (S' := [.int (sc.2 ((x3 + (3 : Int32))).toNatClampNeg), .int (sc.2 ((x3 + (2 : Int32))).toNatClampNeg), .int (sc.2 ((x3 + (1 : Int32))).toNatClampNeg), .ref 0]) (h' := hpS s) (by simp only [stp, pial, hin, if_true]) ?_
  refine Ex.i1 hq rfl (fun c => ?_) (fun c => ?_)
  · have k := k.1 c
    refine Ex.seg hq 1 (j := 493) (L' := [.float 0, .ref 0, .ref 55, .int x3]) (S' := [.int (0 : Int32), .int (sc.2 ((x3 + (2 : Int32))).toNatClampNeg), .int (sc.2 ((x3 + (1 : Int32))).toNatClampNeg), .ref 0]) (h' := hpS s) rfl ?_
    refine Ex.cl hq rfl rfl ?_
    refine Rn.mono (q_147 (d := d + 61) (sc.2 ((x3 + (1 : Int32))).toNatClampNeg) (sc.2 ((x3 + (2 : Int32))).toNatClampNeg) (0 : Int32) s k) ?_
    rintro _ _ ⟨r2, s1, rfl, rfl, k⟩
    show Ex sc (d + 67) 309 494 [.float 0, .ref 0, .ref 55, .int x3] [.int r2] (hpS s1) _
    refine Ex.seg hq 5 (j := 499) (L' := [.float 0, .ref 0, .ref 55, .int x3]) (S' := [.int (x3 + (1 : Int32)), .float 0, .ref 55, .int r2]) (h' := hpS s1) rfl ?_
    obtain ⟨hin, k⟩ := k
    refine Ex.nx hq rfl (L' := [.float 0, .ref 0, .ref 55, .int x3]) (S' := [.int (sc.2 ((x3 + (1 : Int32))).toNatClampNeg), .ref 55, .int r2]) (h' := hpS s1) (by simp only [stp, pial, hin, if_true]) ?_
    refine Ex.seg hq 4 (j := 504) (L' := [.float 0, .ref 0, .ref 55, .int x3]) (S' := [.int (x3 + (2 : Int32)), .float 0, .int (sc.2 ((x3 + (1 : Int32))).toNatClampNeg), .ref 55, .int r2]) (h' := hpS s1) rfl ?_
    obtain ⟨hin, k⟩ := k
    refine Ex.nx hq rfl (L' := [.float 0, .ref 0, .ref 55, .int x3]) (S' := [.int (sc.2 ((x3 + (2 : Int32))).toNatClampNeg), .int (sc.2 ((x3 + (1 : Int32))).toNatClampNeg), .ref 55, .int r2]) (h' := hpS s1) (by simp only [stp, pial, hin, if_true]) ?_
    refine Ex.seg hq 4 (j := 509) (L' := [.float 0, .ref 0, .ref 55, .int x3]) (S' := [.int (x3 + (3 : Int32)), .float 0, .int (sc.2 ((x3 + (2 : Int32))).toNatClampNeg), .int (sc.2 ((x3 + (1 : Int32))).toNatClampNeg), .ref 55, .int r2]) (h' := hpS s1) rfl ?_
    obtain ⟨hin, k⟩ := k
    refine Ex.nx hq rfl (L' := [.float 0, .ref 0, .ref 55, .int x3]) (S' := [.int (sc.2 ((x3 + (3 : Int32))).toNatClampNeg), .int (sc.2 ((x3 + (2 : Int32))).toNatClampNeg), .int (sc.2 ((x3 + (1 : Int32))).toNatClampNeg), .ref 55, .int r2]) (h' := hpS s1) (by simp only [stp, pial, hin, if_true]) ?_
    refine Ex.i1 hq rfl (fun c => ?_) (fun c => ?_)
    · have k := k.1 c
      refine Ex.seg hq 1 (j := 514) (L' := [.float 0, .ref 0, .ref 55, .int x3]) (S' := [.int (0 : Int32), .int (sc.2 ((x3 + (2 : Int32))).toNatClampNeg), .int (sc.2 ((x3 + (1 : Int32))).toNatClampNeg), .ref 55, .int r2]) (h' := hpS s1) rfl ?_
      refine Ex.cl hq rfl rfl ?_
      refine Rn.mono (q_250 (d := d + 64) (sc.2 ((x3 + (1 : Int32))).toNatClampNeg) (sc.2 ((x3 + (2 : Int32))).toNatClampNeg) (0 : Int32) s1 k) ?_
      rintro _ _ ⟨r4, s3, rfl, rfl, k⟩
      show Ex sc (d + 67) 309 515 [.float 0, .ref 0, .ref 55, .int x3] [.int r4, .int r2] (hpS s3) _
      refine Ex.i2 hq rfl (fun c => ?_) (fun c => ?_)
      · have k := k.1 c
        exact hX1150 x3 s3 k
      · have k := k.2 c
        refine Ex.seg hq 1 (j := 517) (L' := [.float 0, .ref 0, .ref 55, .int x3]) (S' := [.int (0 : Int32)]) (h' := hpS s3) rfl ?_
        exact Ex.zr hq rfl rfl (Or.inl rfl) ⟨(0 : Int32), s3, rfl, (Or.inl rfl), rfl, k⟩
    · have k := k.2 c
      refine Ex.seg hq 2 (j := 514) (L' := [.float 0, .ref 0, .ref 55, .int x3]) (S' := [.int (1 : Int32), .int (sc.2 ((x3 + (2 : Int32))).toNatClampNeg), .int (sc.2 ((x3 + (1 : Int32))).toNatClampNeg), .ref 55, .int r2]) (h' := hpS s1) rfl ?_
      refine Ex.cl hq rfl rfl ?_
      refine Rn.mono (q_250 (d := d + 64) (sc.2 ((x3 + (1 : Int32))).toNatClampNeg) (sc.2 ((x3 + (2 : Int32))).toNatClampNeg) (1 : Int32) s1 k) ?_
      rintro _ _ ⟨r6, s5, rfl, rfl, k⟩
      show Ex sc (d + 67) 309 515 [.float 0, .ref 0, .ref 55, .int x3] [.int r6, .int r2] (hpS s5) _
      refine Ex.i2 hq rfl (fun c => ?_) (fun c => ?_)
      · have k := k.1 c
        exact hX1150 x3 s5 k
      · have k := k.2 c
        refine Ex.seg hq 1 (j := 517) (L' := [.float 0, .ref 0, .ref 55, .int x3]) (S' := [.int (0 : Int32)]) (h' := hpS s5) rfl ?_
        exact Ex.zr hq rfl rfl (Or.inl rfl) ⟨(0 : Int32), s5, rfl, (Or.inl rfl), rfl, k⟩
  · have k := k.2 c
    refine Ex.seg hq 2 (j := 493) (L' := [.float 0, .ref 0, .ref 55, .int x3]) (S' := [.int (1 : Int32), .int (sc.2 ((x3 + (2 : Int32))).toNatClampNeg), .int (sc.2 ((x3 + (1 : Int32))).toNatClampNeg), .ref 0]) (h' := hpS s) rfl ?_
    refine Ex.cl hq rfl rfl ?_
    refine Rn.mono (q_147 (d := d + 61) (sc.2 ((x3 + (1 : Int32))).toNatClampNeg) (sc.2 ((x3 + (2 : Int32))).toNatClampNeg) (1 : Int32) s k) ?_
    rintro _ _ ⟨r8, s7, rfl, rfl, k⟩
    show Ex sc (d + 67) 309 494 [.float 0, .ref 0, .ref 55, .int x3] [.int r8] (hpS s7) _
    refine Ex.seg hq 5 (j := 499) (L' := [.float 0, .ref 0, .ref 55, .int x3]) (S' := [.int (x3 + (1 : Int32)), .float 0, .ref 55, .int r8]) (h' := hpS s7) rfl ?_
    obtain ⟨hin, k⟩ := k
    refine Ex.nx hq rfl (L' := [.float 0, .ref 0, .ref 55, .int x3]) (S' := [.int (sc.2 ((x3 + (1 : Int32))).toNatClampNeg), .ref 55, .int r8]) (h' := hpS s7) (by simp only [stp, pial, hin, if_true]) ?_
    refine Ex.seg hq 4 (j := 504) (L' := [.float 0, .ref 0, .ref 55, .int x3]) (S' := [.int (x3 + (2 : Int32)), .float 0, .int (sc.2 ((x3 + (1 : Int32))).toNatClampNeg), .ref 55, .int r8]) (h' := hpS s7) rfl ?_
    obtain ⟨hin, k⟩ := k
    refine Ex.nx hq rfl (L' := [.float 0, .ref 0, .ref 55, .int x3]) (S' := [.int (sc.2 ((x3 + (2 : Int32))).toNatClampNeg), .int (sc.2 ((x3 + (1 : Int32))).toNatClampNeg), .ref 55, .int r8]) (h' := hpS s7) (by simp only [stp, pial, hin, if_true]) ?_
    refine Ex.seg hq 4 (j := 509) (L' := [.float 0, .ref 0, .ref 55, .int x3]) (S' := [.int (x3 + (3 : Int32)), .float 0, .int (sc.2 ((x3 + (2 : Int32))).toNatClampNeg), .int (sc.2 ((x3 + (1 : Int32))).toNatClampNeg), .ref 55, .int r8]) (h' := hpS s7) rfl ?_
    obtain ⟨hin, k⟩ := k
    refine Ex.nx hq rfl (L' := [.float 0, .ref 0, .ref 55, .int x3]) (S' := [.int (sc.2 ((x3 + (3 : Int32))).toNatClampNeg), .int (sc.2 ((x3 + (2 : Int32))).toNatClampNeg), .int (sc.2 ((x3 + (1 : Int32))).toNatClampNeg), .ref 55, .int r8]) (h' := hpS s7) (by simp only [stp, pial, hin, if_true]) ?_
    refine Ex.i1 hq rfl (fun c => ?_) (fun c => ?_)
    · have k := k.1 c
      refine Ex.seg hq 1 (j := 514) (L' := [.float 0, .ref 0, .ref 55, .int x3]) (S' := [.int (0 : Int32), .int (sc.2 ((x3 + (2 : Int32))).toNatClampNeg), .int (sc.2 ((x3 + (1 : Int32))).toNatClampNeg), .ref 55, .int r8]) (h' := hpS s7) rfl ?_
      refine Ex.cl hq rfl rfl ?_
      refine Rn.mono (q_250 (d := d + 64) (sc.2 ((x3 + (1 : Int32))).toNatClampNeg) (sc.2 ((x3 + (2 : Int32))).toNatClampNeg) (0 : Int32) s7 k) ?_
      rintro _ _ ⟨r10, s9, rfl, rfl, k⟩
      show Ex sc (d + 67) 309 515 [.float 0, .ref 0, .ref 55, .int x3] [.int r10, .int r8] (hpS s9) _
      refine Ex.i2 hq rfl (fun c => ?_) (fun c => ?_)
      · have k := k.1 c
        exact hX1150 x3 s9 k
      · have k := k.2 c
        refine Ex.seg hq 1 (j := 517) (L' := [.float 0, .ref 0, .ref 55, .int x3]) (S' := [.int (0 : Int32)]) (h' := hpS s9) rfl ?_
        exact Ex.zr hq rfl rfl (Or.inl rfl) ⟨(0 : Int32), s9, rfl, (Or.inl rfl), rfl, k⟩
    · have k := k.2 c
      refine Ex.seg hq 2 (j := 514) (L' := [.float 0, .ref 0, .ref 55, .int x3]) (S' := [.int (1 : Int32), .int (sc.2 ((x3 + (2 : Int32))).toNatClampNeg), .int (sc.2 ((x3 + (1 : Int32))).toNatClampNeg), .ref 55, .int r8]) (h' := hpS s7) rfl ?_
      refine Ex.cl hq rfl rfl ?_
      refine Rn.mono (q_250 (d := d + 64) (sc.2 ((x3 + (1 : Int32))).toNatClampNeg) (sc.2 ((x3 + (2 : Int32))).toNatClampNeg) (1 : Int32) s7 k) ?_
      rintro _ _ ⟨r12, s11, rfl, rfl, k⟩
      show Ex sc (d + 67) 309 515 [.float 0, .ref 0, .ref 55, .int x3] [.int r12, .int r8] (hpS s11) _
      refine Ex.i2 hq rfl (fun c => ?_) (fun c => ?_)
      · have k := k.1 c
        exact hX1150 x3 s11 k
      · have k := k.2 c
        refine Ex.seg hq 1 (j := 517) (L' := [.float 0, .ref 0, .ref 55, .int x3]) (S' := [.int (0 : Int32)]) (h' := hpS s11) rfl ?_
        exact Ex.zr hq rfl rfl (Or.inl rfl) ⟨(0 : Int32), s11, rfl, (Or.inl rfl), rfl, k⟩
end LW
