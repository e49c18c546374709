/-! ===== the law's cases, printed by wip/whole/genlaw.py ===== -/
section LW
variable {sc : Nat × (Nat → Int32)}
/-- case 14 -/
def wl_14 (sc : Nat × (Nat → Int32)) (x3 : Int32) (s : ST) (X1150 : Int32 → ST → Prop) (K : Int32 → ST → Prop) : Prop := (pin (x3 + (1 : Int32)) sc.1 = true ∧ (pin (x3 + (2 : Int32)) sc.1 = true ∧ w_148 (sc.2 ((x3 + (1 : Int32))).toNatClampNeg) (sc.2 ((x3 + (2 : Int32))).toNatClampNeg) s (fun r2 s1 => (pin (x3 + (1 : Int32)) sc.1 = true ∧ (pin (x3 + (2 : Int32)) sc.1 = true ∧ w_252 (sc.2 ((x3 + (1 : Int32))).toNatClampNeg) (sc.2 ((x3 + (2 : Int32))).toNatClampNeg) s1 (fun r4 s3 => ((r2 = r4 → X1150 x3 s3) ∧ (¬ (r2 = r4) → K (0 : Int32) s3))))))))
set_option maxRecDepth 40000 in
theorem ql_14 {d : Nat} {X1150 K : Int32 → ST → Prop} (x3 : Int32) (s : ST) (k : wl_14 sc x3 s X1150 K) (hX1150 : ∀ (y3 : Int32) (s : ST), X1150 y3 s → Ex sc (d + 67) 309 1150 [.float 0, .ref 0, .ref 55, .int y3] [] (hpS s) (kZ K)) : Ex sc (d + 67) 309 518 [.float 0, .ref 0, .ref 55, .int x3] [] (hpS s) (kZ K) := by
  have hq : prog[309]? = some pm309 := rfl
  unfold wl_14 at k
  refine Ex.seg hq 5 (j := 523) (L' := [.float 0, .ref 0, .ref 55, .int x3]) (S' := [.int (x3 + (1 : Int32)), .float 0, .ref 0]) (h' := hpS s) rfl ?_
  obtain ⟨hin, k⟩ := k
  refine Ex.nx hq rfl (L' := [.float 0, .ref 0, .ref 55, .int x3]) (S' := [.int (sc.2 ((x3 + (1 : Int32))).toNatClampNeg), .ref 0]) (h' := hpS s) (by simp only [stp, pial, hin, if_true]) ?_
  refine Ex.seg hq 4 (j := 528) (L' := [.float 0, .ref 0, .ref 55, .int x3]) (S' := [.int (x3 + (2 : Int32)), .float 0, .int (sc.2 ((x3 + (1 : Int32))).toNatClampNeg), .ref 0]) (h' := hpS s) rfl ?_
  obtain ⟨hin, k⟩ := k
  refine Ex.nx hq rfl (L' := [.float 0, .ref 0, .ref 55, .int x3]) (S' := [.int (sc.2 ((x3 + (2 : Int32))).toNatClampNeg), .int (sc.2 ((x3 + (1 : Int32))).toNatClampNeg), .ref 0]) (h' := hpS s) (by simp only [stp, pial, hin, if_true]) ?_
  refine Ex.cl hq rfl rfl ?_
  refine Rn.mono (q_148 (d := d + 61) (sc.2 ((x3 + (1 : Int32))).toNatClampNeg) (sc.2 ((x3 + (2 : Int32))).toNatClampNeg) s k) ?_
  rintro _ _ ⟨r2, s1, rfl, rfl, k⟩
  show Ex sc (d + 67) 309 530 [.float 0, .ref 0, .ref 55, .int x3] [.int r2] (hpS s1) _
  refine Ex.seg hq 5 (j := 535) (L' := [.float 0, .ref 0, .ref 55, .int x3]) (S' := [.int (x3 + (1 : Int32)), .float 0, .ref 55, .int r2]) (h' := hpS s1) rfl ?_
  obtain ⟨hin, k⟩ := k
  refine Ex.nx hq rfl (L' := [.float 0, .ref 0, .ref 55, .int x3]) (S' := [.int (sc.2 ((x3 + (1 : Int32))).toNatClampNeg), .ref 55, .int r2]) (h' := hpS s1) (by simp only [stp, pial, hin, if_true]) ?_
  refine Ex.seg hq 4 (j := 540) (L' := [.float 0, .ref 0, .ref 55, .int x3]) (S' := [.int (x3 + (2 : Int32)), .float 0, .int (sc.2 ((x3 + (1 : Int32))).toNatClampNeg), .ref 55, .int r2]) (h' := hpS s1) rfl ?_
  obtain ⟨hin, k⟩ := k
  refine Ex.nx hq rfl (L' := [.float 0, .ref 0, .ref 55, .int x3]) (S' := [.int (sc.2 ((x3 + (2 : Int32))).toNatClampNeg), .int (sc.2 ((x3 + (1 : Int32))).toNatClampNeg), .ref 55, .int r2]) (h' := hpS s1) (by simp only [stp, pial, hin, if_true]) ?_
  refine Ex.cl hq rfl rfl ?_
  refine Rn.mono (q_252 (d := d + 64) (sc.2 ((x3 + (1 : Int32))).toNatClampNeg) (sc.2 ((x3 + (2 : Int32))).toNatClampNeg) s1 k) ?_
  rintro _ _ ⟨r4, s3, rfl, rfl, k⟩
  show Ex sc (d + 67) 309 542 [.float 0, .ref 0, .ref 55, .int x3] [.int r4, .int r2] (hpS s3) _
  refine Ex.i2 hq rfl (fun c => ?_) (fun c => ?_)
  · have k := k.1 c
    exact hX1150 x3 s3 k
  · have k := k.2 c
    refine Ex.seg hq 1 (j := 544) (L' := [.float 0, .ref 0, .ref 55, .int x3]) (S' := [.int (0 : Int32)]) (h' := hpS s3) rfl ?_
    exact Ex.zr hq rfl rfl (Or.inl rfl) ⟨(0 : Int32), s3, rfl, (Or.inl rfl), rfl, k⟩
/-- case 15 -/
def wl_15 (sc : Nat × (Nat → Int32)) (x3 : Int32) (s : ST) (X1150 : Int32 → ST → Prop) (K : Int32 → ST → Prop) : Prop := (pin (x3 + (1 : Int32)) sc.1 = true ∧ w_149 (sc.2 ((x3 + (1 : Int32))).toNatClampNeg) s (fun r2 s1 => (pin (x3 + (1 : Int32)) sc.1 = true ∧ w_227 (sc.2 ((x3 + (1 : Int32))).toNatClampNeg) s1 (fun r4 s3 => ((r2 = r4 → X1150 x3 s3) ∧ (¬ (r2 = r4) → K (0 : Int32) s3))))))
set_option maxRecDepth 40000 in
theorem ql_15 {d : Nat} {X1150 K : Int32 → ST → Prop} (x3 : Int32) (s : ST) (k : wl_15 sc x3 s X1150 K) (hX1150 : ∀ (y3 : Int32) (s : ST), X1150 y3 s → Ex sc (d + 67) 309 1150 [.float 0, .ref 0, .ref 55, .int y3] [] (hpS s) (kZ K)) : Ex sc (d + 67) 309 545 [.float 0, .ref 0, .ref 55, .int x3] [] (hpS s) (kZ K) := by
  have hq : prog[309]? = some pm309 := rfl
  unfold wl_15 at k
  refine Ex.seg hq 5 (j := 550) (L' := [.float 0, .ref 0, .ref 55, .int x3]) (S' := [.int (x3 + (1 : Int32)), .float 0, .ref 0]) (h' := hpS s) rfl ?_
  obtain ⟨hin, k⟩ := k
  refine Ex.nx hq rfl (L' := [.float 0, .ref 0, .ref 55, .int x3]) (S' := [.int (sc.2 ((x3 + (1 : Int32))).toNatClampNeg), .ref 0]) (h' := hpS s) (by simp only [stp, pial, hin, if_true]) ?_
  refine Ex.cl hq rfl rfl ?_
  refine Rn.mono (q_149 (d := d + 0) (sc.2 ((x3 + (1 : Int32))).toNatClampNeg) s k) ?_
  rintro _ _ ⟨r2, s1, rfl, rfl, k⟩
  show Ex sc (d + 67) 309 552 [.float 0, .ref 0, .ref 55, .int x3] [.int r2] (hpS s1) _
  refine Ex.seg hq 5 (j := 557) (L' := [.float 0, .ref 0, .ref 55, .int x3]) (S' := [.int (x3 + (1 : Int32)), .float 0, .ref 55, .int r2]) (h' := hpS s1) rfl ?_
  obtain ⟨hin, k⟩ := k
  refine Ex.nx hq rfl (L' := [.float 0, .ref 0, .ref 55, .int x3]) (S' := [.int (sc.2 ((x3 + (1 : Int32))).toNatClampNeg), .ref 55, .int r2]) (h' := hpS s1) (by simp only [stp, pial, hin, if_true]) ?_
  refine Ex.cl hq rfl rfl ?_
  refine Rn.mono (q_227 (d := d + 58) (sc.2 ((x3 + (1 : Int32))).toNatClampNeg) s1 k) ?_
  rintro _ _ ⟨r4, s3, rfl, rfl, k⟩
  show Ex sc (d + 67) 309 559 [.float 0, .ref 0, .ref 55, .int x3] [.int r4, .int r2] (hpS s3) _
  refine Ex.i2 hq rfl (fun c => ?_) (fun c => ?_)
  · have k := k.1 c
    exact hX1150 x3 s3 k
  · have k := k.2 c
    refine Ex.seg hq 1 (j := 561) (L' := [.float 0, .ref 0, .ref 55, .int x3]) (S' := [.int (0 : Int32)]) (h' := hpS s3) rfl ?_
    exact Ex.zr hq rfl rfl (Or.inl rfl) ⟨(0 : Int32), s3, rfl, (Or.inl rfl), rfl, k⟩
/-- case 16 -/
def wl_16 (sc : Nat × (Nat → Int32)) (x3 : Int32) (s : ST) (X1150 : Int32 → ST → Prop) (K : Int32 → ST → Prop) : Prop := (pin (x3 + (1 : Int32)) sc.1 = true ∧ (pin (x3 + (2 : Int32)) sc.1 = true ∧ (pin (x3 + (3 : Int32)) sc.1 = true ∧ w_150 (sc.2 ((x3 + (1 : Int32))).toNatClampNeg) (sc.2 ((x3 + (2 : Int32))).toNatClampNeg) (sc.2 ((x3 + (3 : Int32))).toNatClampNeg) s (fun r2 s1 => (pin (x3 + (1 : Int32)) sc.1 = true ∧ (pin (x3 + (2 : Int32)) sc.1 = true ∧ (pin (x3 + (3 : Int32)) sc.1 = true ∧ w_257 (sc.2 ((x3 + (1 : Int32))).toNatClampNeg) (sc.2 ((x3 + (2 : Int32))).toNatClampNeg) (sc.2 ((x3 + (3 : Int32))).toNatClampNeg) s1 (fun r4 s3 => ((r2 = r4 → X1150 x3 s3) ∧ (¬ (r2 = r4) → K (0 : Int32) s3))))))))))
set_option maxRecDepth 40000 in
theorem ql_16 {d : Nat} {X1150 K : Int32 → ST → Prop} (x3 : Int32) (s : ST) (k : wl_16 sc x3 s X1150 K) (hX1150 : ∀ (y3 : Int32) (s : ST), X1150 y3 s → Ex sc (d + 67) 309 1150 [.float 0, .ref 0, .ref 55, .int y3] [] (hpS s) (kZ K)) : Ex sc (d + 67) 309 562 [.float 0, .ref 0, .ref 55, .int x3] [] (hpS s) (kZ K) := by
  have hq : prog[309]? = some pm309 := rfl
  unfold wl_16 at k
  refine Ex.seg hq 5 (j := 567) (L' := [.float 0, .ref 0, .ref 55, .int x3]) (S' := [.int (x3 + (1 : Int32)), .float 0, .ref 0]) (h' := hpS s) rfl ?_
  obtain ⟨hin, k⟩ := k
  refine Ex.nx hq rfl (L' := [.float 0, .ref 0, .ref 55, .int x3]) (S' := [.int (sc.2 ((x3 + (1 : Int32))).toNatClampNeg), .ref 0]) (h' := hpS s) (by simp only [stp, pial, hin, if_true]) ?_
  refine Ex.seg hq 4 (j := 572) (L' := [.float 0, .ref 0, .ref 55, .int x3]) (S' := [.int (x3 + (2 : Int32)), .float 0, .int (sc.2 ((x3 + (1 : Int32))).toNatClampNeg), .ref 0]) (h' := hpS s) rfl ?_
  obtain ⟨hin, k⟩ := k
  refine Ex.nx hq rfl (L' := [.float 0, .ref 0, .ref 55, .int x3]) (S' := [.int (sc.2 ((x3 + (2 : Int32))).toNatClampNeg), .int (sc.2 ((x3 + (1 : Int32))).toNatClampNeg), .ref 0]) (h' := hpS s) (by simp only [stp, pial, hin, if_true]) ?_
  refine Ex.seg hq 4 (j := 577) (L' := [.float 0, .ref 0, .ref 55, .int x3]) (S' := [.int (x3 + (3 : Int32)), .float 0, .int (sc.2 ((x3 + (2 : Int32))).toNatClampNeg), .int (sc.2 ((x3 + (1 : Int32))).toNatClampNeg), .ref 0]) (h' := hpS s) rfl ?_
  obtain ⟨hin, k⟩ := k
  refine Ex.nx hq rfl (L' := [.float 0, .ref 0, .ref 55, .int x3]) (S' := [.int (sc.2 ((x3 + (3 : Int32))).toNatClampNeg), .int (sc.2 ((x3 + (2 : Int32))).toNatClampNeg), .int (sc.2 ((x3 + (1 : Int32))).toNatClampNeg), .ref 0]) (h' := hpS s) (by simp only [stp, pial, hin, if_true]) ?_
  refine Ex.cl hq rfl rfl ?_
  refine Rn.mono (q_150 (d := d + 2) (sc.2 ((x3 + (1 : Int32))).toNatClampNeg) (sc.2 ((x3 + (2 : Int32))).toNatClampNeg) (sc.2 ((x3 + (3 : Int32))).toNatClampNeg) s k) ?_
  rintro _ _ ⟨r2, s1, rfl, rfl, k⟩
  show Ex sc (d + 67) 309 579 [.float 0, .ref 0, .ref 55, .int x3] [.int r2] (hpS s1) _
  refine Ex.seg hq 5 (j := 584) (L' := [.float 0, .ref 0, .ref 55, .int x3]) (S' := [.int (x3 + (1 : Int32)), .float 0, .ref 55, .int r2]) (h' := hpS s1) rfl ?_
  obtain ⟨hin, k⟩ := k
  refine Ex.nx hq rfl (L' := [.float 0, .ref 0, .ref 55, .int x3]) (S' := [.int (sc.2 ((x3 + (1 : Int32))).toNatClampNeg), .ref 55, .int r2]) (h' := hpS s1) (by simp only [stp, pial, hin, if_true]) ?_
  refine Ex.seg hq 4 (j := 589) (L' := [.float 0, .ref 0, .ref 55, .int x3]) (S' := [.int (x3 + (2 : Int32)), .float 0, .int (sc.2 ((x3 + (1 : Int32))).toNatClampNeg), .ref 55, .int r2]) (h' := hpS s1) rfl ?_
  obtain ⟨hin, k⟩ := k
  refine Ex.nx hq rfl (L' := [.float 0, .ref 0, .ref 55, .int x3]) (S' := [.int (sc.2 ((x3 + (2 : Int32))).toNatClampNeg), .int (sc.2 ((x3 + (1 : Int32))).toNatClampNeg), .ref 55, .int r2]) (h' := hpS s1) (by simp only [stp, pial, hin, if_true]) ?_
  refine Ex.seg hq 4 (j := 594) (L' := [.float 0, .ref 0, .ref 55, .int x3]) (S' := [.int (x3 + (3 : Int32)), .float 0, .int (sc.2 ((x3 + (2 : Int32))).toNatClampNeg), .int (sc.2 ((x3 + (1 : Int32))).toNatClampNeg), .ref 55, .int r2]) (h' := hpS s1) rfl ?_
  obtain ⟨hin, k⟩ := k
  refine Ex.nx hq rfl (L' := [.float 0, .ref 0, .ref 55, .int x3]) (S' := [.int (sc.2 ((x3 + (3 : Int32))).toNatClampNeg), .int (sc.2 ((x3 + (2 : Int32))).toNatClampNeg), .int (sc.2 ((x3 + (1 : Int32))).toNatClampNeg), .ref 55, .int r2]) (h' := hpS s1) (by simp only [stp, pial, hin, if_true]) ?_
  refine Ex.cl hq rfl rfl ?_
  refine Rn.mono (q_257 (d := d + 63) (sc.2 ((x3 + (1 : Int32))).toNatClampNeg) (sc.2 ((x3 + (2 : Int32))).toNatClampNeg) (sc.2 ((x3 + (3 : Int32))).toNatClampNeg) s1 k) ?_
  rintro _ _ ⟨r4, s3, rfl, rfl, k⟩
  show Ex sc (d + 67) 309 596 [.float 0, .ref 0, .ref 55, .int x3] [.int r4, .int r2] (hpS s3) _
  refine Ex.i2 hq rfl (fun c => ?_) (fun c => ?_)
  · have k := k.1 c
    exact hX1150 x3 s3 k
  · have k := k.2 c
    refine Ex.seg hq 1 (j := 598) (L' := [.float 0, .ref 0, .ref 55, .int x3]) (S' := [.int (0 : Int32)]) (h' := hpS s3) rfl ?_
    exact Ex.zr hq rfl rfl (Or.inl rfl) ⟨(0 : Int32), s3, rfl, (Or.inl rfl), rfl, k⟩
/-- case 17 -/
def wl_17 (sc : Nat × (Nat → Int32)) (x3 : Int32) (s : ST) (X1150 : Int32 → ST → Prop) (K : Int32 → ST → Prop) : Prop := (pin (x3 + (1 : Int32)) sc.1 = true ∧ (pin (x3 + (2 : Int32)) sc.1 = true ∧ (pin (x3 + (3 : Int32)) sc.1 = true ∧ (pin (x3 + (4 : Int32)) sc.1 = true ∧ w_151 (sc.2 ((x3 + (1 : Int32))).toNatClampNeg) (sc.2 ((x3 + (2 : Int32))).toNatClampNeg) (sc.2 ((x3 + (3 : Int32))).toNatClampNeg) (sc.2 ((x3 + (4 : Int32))).toNatClampNeg) s (fun r2 s1 => (pin (x3 + (1 : Int32)) sc.1 = true ∧ (pin (x3 + (2 : Int32)) sc.1 = true ∧ (pin (x3 + (3 : Int32)) sc.1 = true ∧ (pin (x3 + (4 : Int32)) sc.1 = true ∧ w_258 (sc.2 ((x3 + (1 : Int32))).toNatClampNeg) (sc.2 ((x3 + (2 : Int32))).toNatClampNeg) (sc.2 ((x3 + (3 : Int32))).toNatClampNeg) (sc.2 ((x3 + (4 : Int32))).toNatClampNeg) s1 (fun r4 s3 => ((r2 = r4 → X1150 x3 s3) ∧ (¬ (r2 = r4) → K (0 : Int32) s3))))))))))))
set_option maxRecDepth 40000 in
theorem ql_17 {d : Nat} {X1150 K : Int32 → ST → Prop} (x3 : Int32) (s : ST) (k : wl_17 sc x3 s X1150 K) (hX1150 : ∀ (y3 : Int32) (s : ST), X1150 y3 s → Ex sc (d + 67) 309 1150 [.float 0, .ref 0, .ref 55, .int y3] [] (hpS s) (kZ K)) : Ex sc (d + 67) 309 599 [.float 0, .ref 0, .ref 55, .int x3] [] (hpS s) (kZ K) := by
  have hq : prog[309]? = some pm309 := rfl
  unfold wl_17 at k
  refine Ex.seg hq 5 (j := 604) (L' := [.float 0, .ref 0, .ref 55, .int x3]) (S' := [.int (x3 + (1 : Int32)), .float 0, .ref 0]) (h' := hpS s) rfl ?_
  obtain ⟨hin, k⟩ := k
  refine Ex.nx hq rfl (L' := [.float 0, .ref 0, .ref 55, .int x3]) (S' := [.int (sc.2 ((x3 + (1 : Int32))).toNatClampNeg), .ref 0]) (h' := hpS s) (by simp only [stp, pial, hin, if_true]) ?_
  refine Ex.seg hq 4 (j := 609) (L' := [.float 0, .ref 0, .ref 55, .int x3]) (S' := [.int (x3 + (2 : Int32)), .float 0, .int (sc.2 ((x3 + (1 : Int32))).toNatClampNeg), .ref 0]) (h' := hpS s) rfl ?_
  obtain ⟨hin, k⟩ := k
  refine Ex.nx hq rfl (L' := [.float 0, .ref 0, .ref 55, .int x3]) (S' := [.int (sc.2 ((x3 + (2 : Int32))).toNatClampNeg), .int (sc.2 ((x3 + (1 : Int32))).toNatClampNeg), .ref 0]) (h' := hpS s) (by simp only [stp, pial, hin, if_true]) ?_
  refine Ex.seg hq 4 (j := 614) (L' := [.float 0, .ref 0, .ref 55, .int x3]) (S' := [.int (x3 + (3 : Int32)), .float 0, .int (sc.2 ((x3 + (2 : Int32))).toNatClampNeg), .int (sc.2 ((x3 + (1 : Int32))).toNatClampNeg), .ref 0]) (h' := hpS s) rfl ?_
  obtain ⟨hin, k⟩ := k
  refine Ex.nx hq rfl (L' := [.float 0, .ref 0, .ref 55, .int x3]) (S' := [.int (sc.2 ((x3 + (3 : Int32))).toNatClampNeg), .int (sc.2 ((x3 + (2 : Int32))).toNatClampNeg), .int (sc.2 ((x3 + (1 : Int32))).toNatClampNeg), .ref 0]) (h' := hpS s) (by simp only [stp, pial, hin, if_true]) ?_
  refine Ex.seg hq 4 (j := 619) (L' := [.float 0, .ref 0, .ref 55, .int x3]) (S' := [.int (x3 + (4 : Int32)), .float 0, .int (sc.2 ((x3 + (3 : Int32))).toNatClampNeg), .int (sc.2 ((x3 + (2 : Int32))).toNatClampNeg), .int (sc.2 ((x3 + (1 : Int32))).toNatClampNeg), .ref 0]) (h' := hpS s) rfl ?_
  obtain ⟨hin, k⟩ := k
  refine Ex.nx hq rfl (L' := [.float 0, .ref 0, .ref 55, .int x3]) (S' := [.int (sc.2 ((x3 + (4 : Int32))).toNatClampNeg), .int (sc.2 ((x3 + (3 : Int32))).toNatClampNeg), .int (sc.2 ((x3 + (2 : Int32))).toNatClampNeg), .int (sc.2 ((x3 + (1 : Int32))).toNatClampNeg), .ref 0]) (h' := hpS s) (by simp only [stp, pial, hin, if_true]) ?_
  refine Ex.cl hq rfl rfl ?_
  refine Rn.mono (q_151 (d := d + 60) (sc.2 ((x3 + (1 : Int32))).toNatClampNeg) (sc.2 ((x3 + (2 : Int32))).toNatClampNeg) (sc.2 ((x3 + (3 : Int32))).toNatClampNeg) (sc.2 ((x3 + (4 : Int32))).toNatClampNeg) s k) ?_
  rintro _ _ ⟨r2, s1, rfl, rfl, k⟩
  show Ex sc (d + 67) 309 621 [.float 0, .ref 0, .ref 55, .int x3] [.int r2] (hpS s1) _
  refine Ex.seg hq 5 (j := 626) (L' := [.float 0, .ref 0, .ref 55, .int x3]) (S' := [.int (x3 + (1 : Int32)), .float 0, .ref 55, .int r2]) (h' := hpS s1) rfl ?_
  obtain ⟨hin, k⟩ := k
  refine Ex.nx hq rfl (L' := [.float 0, .ref 0, .ref 55, .int x3]) (S' := [.int (sc.2 ((x3 + (1 : Int32))).toNatClampNeg), .ref 55, .int r2]) (h' := hpS s1) (by simp only [stp, pial, hin, if_true]) ?_
  refine Ex.seg hq 4 (j := 631) (L' := [.float 0, .ref 0, .ref 55, .int x3]) (S' := [.int (x3 + (2 : Int32)), .float 0, .int (sc.2 ((x3 + (1 : Int32))).toNatClampNeg), .ref 55, .int r2]) (h' := hpS s1) rfl ?_
  obtain ⟨hin, k⟩ := k
  refine Ex.nx hq rfl (L' := [.float 0, .ref 0, .ref 55, .int x3]) (S' := [.int (sc.2 ((x3 + (2 : Int32))).toNatClampNeg), .int (sc.2 ((x3 + (1 : Int32))).toNatClampNeg), .ref 55, .int r2]) (h' := hpS s1) (by simp only [stp, pial, hin, if_true]) ?_
  refine Ex.seg hq 4 (j := 636) (L' := [.float 0, .ref 0, .ref 55, .int x3]) (S' := [.int (x3 + (3 : Int32)), .float 0, .int (sc.2 ((x3 + (2 : Int32))).toNatClampNeg), .int (sc.2 ((x3 + (1 : Int32))).toNatClampNeg), .ref 55, .int r2]) (h' := hpS s1) rfl ?_
  obtain ⟨hin, k⟩ := k
  refine Ex.nx hq rfl (L' := [.float 0, .ref 0, .ref 55, .int x3]) (S' := [.int (sc.2 ((x3 + (3 : Int32))).toNatClampNeg), .int (sc.2 ((x3 + (2 : Int32))).toNatClampNeg), .int (sc.2 ((x3 + (1 : Int32))).toNatClampNeg), .ref 55, .int r2]) (h' := hpS s1) (by simp only [stp, pial, hin, if_true]) ?_
  refine Ex.seg hq 4 (j := 641) (L' := [.float 0, .ref 0, .ref 55, .int x3]) (S' := [.int (x3 + (4 : Int32)), .float 0, .int (sc.2 ((x3 + (3 : Int32))).toNatClampNeg), .int (sc.2 ((x3 + (2 : Int32))).toNatClampNeg), .int (sc.2 ((x3 + (1 : Int32))).toNatClampNeg), .ref 55, .int r2]) (h' := hpS s1) rfl ?_
  obtain ⟨hin, k⟩ := k
  refine Ex.nx hq rfl (L' := [.float 0, .ref 0, .ref 55, .int x3]) (S' := [.int (sc.2 ((x3 + (4 : Int32))).toNatClampNeg), .int (sc.2 ((x3 + (3 : Int32))).toNatClampNeg), .int (sc.2 ((x3 + (2 : Int32))).toNatClampNeg), .int (sc.2 ((x3 + (1 : Int32))).toNatClampNeg), .ref 55, .int r2]) (h' := hpS s1) (by simp only [stp, pial, hin, if_true]) ?_
  refine Ex.cl hq rfl rfl ?_
  refine Rn.mono (q_258 (d := d + 63) (sc.2 ((x3 + (1 : Int32))).toNatClampNeg) (sc.2 ((x3 + (2 : Int32))).toNatClampNeg) (sc.2 ((x3 + (3 : Int32))).toNatClampNeg) (sc.2 ((x3 + (4 : Int32))).toNatClampNeg) s1 k) ?_
  rintro _ _ ⟨r4, s3, rfl, rfl, k⟩
  show Ex sc (d + 67) 309 643 [.float 0, .ref 0, .ref 55, .int x3] [.int r4, .int r2] (hpS s3) _
  refine Ex.i2 hq rfl (fun c => ?_) (fun c => ?_)
  · have k := k.1 c
    exact hX1150 x3 s3 k
  · have k := k.2 c
    refine Ex.seg hq 1 (j := 645) (L' := [.float 0, .ref 0, .ref 55, .int x3]) (S' := [.int (0 : Int32)]) (h' := hpS s3) rfl ?_
    exact Ex.zr hq rfl rfl (Or.inl rfl) ⟨(0 : Int32), s3, rfl, (Or.inl rfl), rfl, k⟩
/-- case 18 -/
def wl_18 (sc : Nat × (Nat → Int32)) (x3 : Int32) (s : ST) (X1150 : Int32 → ST → Prop) (K : Int32 → ST → Prop) : Prop := (pin (x3 + (1 : Int32)) sc.1 = true ∧ (pin (x3 + (2 : Int32)) sc.1 = true ∧ (pin (x3 + (3 : Int32)) sc.1 = true ∧ (pin (x3 + (4 : Int32)) sc.1 = true ∧ w_153 (sc.2 ((x3 + (1 : Int32))).toNatClampNeg) (sc.2 ((x3 + (2 : Int32))).toNatClampNeg) (sc.2 ((x3 + (3 : Int32))).toNatClampNeg) (sc.2 ((x3 + (4 : Int32))).toNatClampNeg) s (fun r2 s1 => (pin (x3 + (1 : Int32)) sc.1 = true ∧ (pin (x3 + (2 : Int32)) sc.1 = true ∧ (pin (x3 + (3 : Int32)) sc.1 = true ∧ (pin (x3 + (4 : Int32)) sc.1 = true ∧ w_262 (sc.2 ((x3 + (1 : Int32))).toNatClampNeg) (sc.2 ((x3 + (2 : Int32))).toNatClampNeg) (sc.2 ((x3 + (3 : Int32))).toNatClampNeg) (sc.2 ((x3 + (4 : Int32))).toNatClampNeg) s1 (fun r4 s3 => (((lg_cmp r2 r4) = 0 → X1150 x3 s3) ∧ (¬ ((lg_cmp r2 r4) = 0) → K (0 : Int32) s3))))))))))))
set_option maxRecDepth 40000 in
theorem ql_18 {d : Nat} {X1150 K : Int32 → ST → Prop} (x3 : Int32) (s : ST) (k : wl_18 sc x3 s X1150 K) (hX1150 : ∀ (y3 : Int32) (s : ST), X1150 y3 s → Ex sc (d + 67) 309 1150 [.float 0, .ref 0, .ref 55, .int y3] [] (hpS s) (kZ K)) : Ex sc (d + 67) 309 646 [.float 0, .ref 0, .ref 55, .int x3] [] (hpS s) (kZ K) := by
  have hq : prog[309]? = some pm309 := rfl
  unfold wl_18 at k
  refine Ex.seg hq 5 (j := 651) (L' := [.float 0, .ref 0, .ref 55, .int x3]) (S' := [.int (x3 + (1 : Int32)), .float 0, .ref 0]) (h' := hpS s) rfl ?_
  obtain ⟨hin, k⟩ := k
  refine Ex.nx hq rfl (L' := [.float 0, .ref 0, .ref 55, .int x3]) (S' := [.int (sc.2 ((x3 + (1 : Int32))).toNatClampNeg), .ref 0]) (h' := hpS s) (by simp only [stp, pial, hin, if_true]) ?_
  refine Ex.seg hq 4 (j := 656) (L' := [.float 0, .ref 0, .ref 55, .int x3]) (S' := [.int (x3 + (2 : Int32)), .float 0, .int (sc.2 ((x3 + (1 : Int32))).toNatClampNeg), .ref 0]) (h' := hpS s) rfl ?_
  obtain ⟨hin, k⟩ := k
  refine Ex.nx hq rfl (L' := [.float 0, .ref 0, .ref 55, .int x3]) (S' := [.int (sc.2 ((x3 + (2 : Int32))).toNatClampNeg), .int (sc.2 ((x3 + (1 : Int32))).toNatClampNeg), .ref 0]) (h' := hpS s) (by simp only [stp, pial, hin, if_true]) ?_
  refine Ex.seg hq 4 (j := 661) (L' := [.float 0, .ref 0, .ref 55, .int x3]) (S' := [.int (x3 + (3 : Int32)), .float 0, .int (sc.2 ((x3 + (2 : Int32))).toNatClampNeg), .int (sc.2 ((x3 + (1 : Int32))).toNatClampNeg), .ref 0]) (h' := hpS s) rfl ?_
  obtain ⟨hin, k⟩ := k
  refine Ex.nx hq rfl (L' := [.float 0, .ref 0, .ref 55, .int x3]) (S' := [.int (sc.2 ((x3 + (3 : Int32))).toNatClampNeg), .int (sc.2 ((x3 + (2 : Int32))).toNatClampNeg), .int (sc.2 ((x3 + (1 : Int32))).toNatClampNeg), .ref 0]) (h' := hpS s) (by simp only [stp, pial, hin, if_true]) ?_
  refine Ex.seg hq 4 (j := 666) (L' := [.float 0, .ref 0, .ref 55, .int x3]) (S' := [.int (x3 + (4 : Int32)), .float 0, .int (sc.2 ((x3 + (3 : Int32))).toNatClampNeg), .int (sc.2 ((x3 + (2 : Int32))).toNatClampNeg), .int (sc.2 ((x3 + (1 : Int32))).toNatClampNeg), .ref 0]) (h' := hpS s) rfl ?_
  obtain ⟨hin, k⟩ := k
  refine Ex.nx hq rfl (L' := [.float 0, .ref 0, .ref 55, .int x3]) (S' := [.int (sc.2 ((x3 + (4 : Int32))).toNatClampNeg), .int (sc.2 ((x3 + (3 : Int32))).toNatClampNeg), .int (sc.2 ((x3 + (2 : Int32))).toNatClampNeg), .int (sc.2 ((x3 + (1 : Int32))).toNatClampNeg), .ref 0]) (h' := hpS s) (by simp only [stp, pial, hin, if_true]) ?_
  refine Ex.cl hq rfl rfl ?_
  refine Rn.mono (q_153 (d := d + 60) (sc.2 ((x3 + (1 : Int32))).toNatClampNeg) (sc.2 ((x3 + (2 : Int32))).toNatClampNeg) (sc.2 ((x3 + (3 : Int32))).toNatClampNeg) (sc.2 ((x3 + (4 : Int32))).toNatClampNeg) s k) ?_
  rintro _ _ ⟨r2, s1, rfl, rfl, k⟩
  show Ex sc (d + 67) 309 668 [.float 0, .ref 0, .ref 55, .int x3] [.long r2] (hpS s1) _
  refine Ex.seg hq 5 (j := 673) (L' := [.float 0, .ref 0, .ref 55, .int x3]) (S' := [.int (x3 + (1 : Int32)), .float 0, .ref 55, .long r2]) (h' := hpS s1) rfl ?_
  obtain ⟨hin, k⟩ := k
  refine Ex.nx hq rfl (L' := [.float 0, .ref 0, .ref 55, .int x3]) (S' := [.int (sc.2 ((x3 + (1 : Int32))).toNatClampNeg), .ref 55, .long r2]) (h' := hpS s1) (by simp only [stp, pial, hin, if_true]) ?_
  refine Ex.seg hq 4 (j := 678) (L' := [.float 0, .ref 0, .ref 55, .int x3]) (S' := [.int (x3 + (2 : Int32)), .float 0, .int (sc.2 ((x3 + (1 : Int32))).toNatClampNeg), .ref 55, .long r2]) (h' := hpS s1) rfl ?_
  obtain ⟨hin, k⟩ := k
  refine Ex.nx hq rfl (L' := [.float 0, .ref 0, .ref 55, .int x3]) (S' := [.int (sc.2 ((x3 + (2 : Int32))).toNatClampNeg), .int (sc.2 ((x3 + (1 : Int32))).toNatClampNeg), .ref 55, .long r2]) (h' := hpS s1) (by simp only [stp, pial, hin, if_true]) ?_
  refine Ex.seg hq 4 (j := 683) (L' := [.float 0, .ref 0, .ref 55, .int x3]) (S' := [.int (x3 + (3 : Int32)), .float 0, .int (sc.2 ((x3 + (2 : Int32))).toNatClampNeg), .int (sc.2 ((x3 + (1 : Int32))).toNatClampNeg), .ref 55, .long r2]) (h' := hpS s1) rfl ?_
  obtain ⟨hin, k⟩ := k
  refine Ex.nx hq rfl (L' := [.float 0, .ref 0, .ref 55, .int x3]) (S' := [.int (sc.2 ((x3 + (3 : Int32))).toNatClampNeg), .int (sc.2 ((x3 + (2 : Int32))).toNatClampNeg), .int (sc.2 ((x3 + (1 : Int32))).toNatClampNeg), .ref 55, .long r2]) (h' := hpS s1) (by simp only [stp, pial, hin, if_true]) ?_
  refine Ex.seg hq 4 (j := 688) (L' := [.float 0, .ref 0, .ref 55, .int x3]) (S' := [.int (x3 + (4 : Int32)), .float 0, .int (sc.2 ((x3 + (3 : Int32))).toNatClampNeg), .int (sc.2 ((x3 + (2 : Int32))).toNatClampNeg), .int (sc.2 ((x3 + (1 : Int32))).toNatClampNeg), .ref 55, .long r2]) (h' := hpS s1) rfl ?_
  obtain ⟨hin, k⟩ := k
  refine Ex.nx hq rfl (L' := [.float 0, .ref 0, .ref 55, .int x3]) (S' := [.int (sc.2 ((x3 + (4 : Int32))).toNatClampNeg), .int (sc.2 ((x3 + (3 : Int32))).toNatClampNeg), .int (sc.2 ((x3 + (2 : Int32))).toNatClampNeg), .int (sc.2 ((x3 + (1 : Int32))).toNatClampNeg), .ref 55, .long r2]) (h' := hpS s1) (by simp only [stp, pial, hin, if_true]) ?_
  refine Ex.cl hq rfl rfl ?_
  refine Rn.mono (q_262 (d := d + 63) (sc.2 ((x3 + (1 : Int32))).toNatClampNeg) (sc.2 ((x3 + (2 : Int32))).toNatClampNeg) (sc.2 ((x3 + (3 : Int32))).toNatClampNeg) (sc.2 ((x3 + (4 : Int32))).toNatClampNeg) s1 k) ?_
  rintro _ _ ⟨r4, s3, rfl, rfl, k⟩
  show Ex sc (d + 67) 309 690 [.float 0, .ref 0, .ref 55, .int x3] [.long r4, .long r2] (hpS s3) _
  refine Ex.seg hq 1 (j := 691) (L' := [.float 0, .ref 0, .ref 55, .int x3]) (S' := [.int (lg_cmp r2 r4)]) (h' := hpS s3) rfl ?_
  refine Ex.i1 hq rfl (fun c => ?_) (fun c => ?_)
  · have k := k.1 c
    exact hX1150 x3 s3 k
  · have k := k.2 c
    refine Ex.seg hq 1 (j := 693) (L' := [.float 0, .ref 0, .ref 55, .int x3]) (S' := [.int (0 : Int32)]) (h' := hpS s3) rfl ?_
    exact Ex.zr hq rfl rfl (Or.inl rfl) ⟨(0 : Int32), s3, rfl, (Or.inl rfl), rfl, k⟩
/-- case 19 -/
def wl_19 (sc : Nat × (Nat → Int32)) (x3 : Int32) (s : ST) (X1150 : Int32 → ST → Prop) (K : Int32 → ST → Prop) : Prop := (pin (x3 + (1 : Int32)) sc.1 = true ∧ (pin (x3 + (2 : Int32)) sc.1 = true ∧ (pin (x3 + (3 : Int32)) sc.1 = true ∧ (pin (x3 + (4 : Int32)) sc.1 = true ∧ w_154 (sc.2 ((x3 + (1 : Int32))).toNatClampNeg) (sc.2 ((x3 + (2 : Int32))).toNatClampNeg) (sc.2 ((x3 + (3 : Int32))).toNatClampNeg) (sc.2 ((x3 + (4 : Int32))).toNatClampNeg) s (fun r2 s1 => (pin (x3 + (1 : Int32)) sc.1 = true ∧ (pin (x3 + (2 : Int32)) sc.1 = true ∧ (pin (x3 + (3 : Int32)) sc.1 = true ∧ (pin (x3 + (4 : Int32)) sc.1 = true ∧ w_263 (sc.2 ((x3 + (1 : Int32))).toNatClampNeg) (sc.2 ((x3 + (2 : Int32))).toNatClampNeg) (sc.2 ((x3 + (3 : Int32))).toNatClampNeg) (sc.2 ((x3 + (4 : Int32))).toNatClampNeg) s1 (fun r4 s3 => ((r2 = r4 → X1150 x3 s3) ∧ (¬ (r2 = r4) → K (0 : Int32) s3))))))))))))
set_option maxRecDepth 40000 in
theorem ql_19 {d : Nat} {X1150 K : Int32 → ST → Prop} (x3 : Int32) (s : ST) (k : wl_19 sc x3 s X1150 K) (hX1150 : ∀ (y3 : Int32) (s : ST), X1150 y3 s → Ex sc (d + 67) 309 1150 [.float 0, .ref 0, .ref 55, .int y3] [] (hpS s) (kZ K)) : Ex sc (d + 67) 309 694 [.float 0, .ref 0, .ref 55, .int x3] [] (hpS s) (kZ K) := by
  have hq : prog[309]? = some pm309 := rfl
  unfold wl_19 at k
  refine Ex.seg hq 5 (j := 699) (L' := [.float 0, .ref 0, .ref 55, .int x3]) (S' := [.int (x3 + (1 : Int32)), .float 0, .ref 0]) (h' := hpS s) rfl ?_
  obtain ⟨hin, k⟩ := k
  refine Ex.nx hq rfl (L' := [.float 0, .ref 0, .ref 55, .int x3]) (S' := [.int (sc.2 ((x3 + (1 : Int32))).toNatClampNeg), .ref 0]) (h' := hpS s) (by simp only [stp, pial, hin, if_true]) ?_
  refine Ex.seg hq 4 (j := 704) (L' := [.float 0, .ref 0, .ref 55, .int x3]) (S' := [.int (x3 + (2 : Int32)), .float 0, .int (sc.2 ((x3 + (1 : Int32))).toNatClampNeg), .ref 0]) (h' := hpS s) rfl ?_
  obtain ⟨hin, k⟩ := k
  refine Ex.nx hq rfl (L' := [.float 0, .ref 0, .ref 55, .int x3]) (S' := [.int (sc.2 ((x3 + (2 : Int32))).toNatClampNeg), .int (sc.2 ((x3 + (1 : Int32))).toNatClampNeg), .ref 0]) (h' := hpS s) (by simp only [stp, pial, hin, if_true]) ?_
  refine Ex.seg hq 4 (j := 709) (L' := [.float 0, .ref 0, .ref 55, .int x3]) (S' := [.int (x3 + (3 : Int32)), .float 0, .int (sc.2 ((x3 + (2 : Int32))).toNatClampNeg), .int (sc.2 ((x3 + (1 : Int32))).toNatClampNeg), .ref 0]) (h' := hpS s) rfl ?_
  obtain ⟨hin, k⟩ := k
  refine Ex.nx hq rfl (L' := [.float 0, .ref 0, .ref 55, .int x3]) (S' := [.int (sc.2 ((x3 + (3 : Int32))).toNatClampNeg), .int (sc.2 ((x3 + (2 : Int32))).toNatClampNeg), .int (sc.2 ((x3 + (1 : Int32))).toNatClampNeg), .ref 0]) (h' := hpS s) (by simp only [stp, pial, hin, if_true]) ?_
  refine Ex.seg hq 4 (j := 714) (L' := [.float 0, .ref 0, .ref 55, .int x3]) (S' := [.int (x3 + (4 : Int32)), .float 0, .int (sc.2 ((x3 + (3 : Int32))).toNatClampNeg), .int (sc.2 ((x3 + (2 : Int32))).toNatClampNeg), .int (sc.2 ((x3 + (1 : Int32))).toNatClampNeg), .ref 0]) (h' := hpS s) rfl ?_
  obtain ⟨hin, k⟩ := k
  refine Ex.nx hq rfl (L' := [.float 0, .ref 0, .ref 55, .int x3]) (S' := [.int (sc.2 ((x3 + (4 : Int32))).toNatClampNeg), .int (sc.2 ((x3 + (3 : Int32))).toNatClampNeg), .int (sc.2 ((x3 + (2 : Int32))).toNatClampNeg), .int (sc.2 ((x3 + (1 : Int32))).toNatClampNeg), .ref 0]) (h' := hpS s) (by simp only [stp, pial, hin, if_true]) ?_
  refine Ex.cl hq rfl rfl ?_
  refine Rn.mono (q_154 (d := d + 60) (sc.2 ((x3 + (1 : Int32))).toNatClampNeg) (sc.2 ((x3 + (2 : Int32))).toNatClampNeg) (sc.2 ((x3 + (3 : Int32))).toNatClampNeg) (sc.2 ((x3 + (4 : Int32))).toNatClampNeg) s k) ?_
  rintro _ _ ⟨r2, s1, rfl, rfl, k⟩
  show Ex sc (d + 67) 309 716 [.float 0, .ref 0, .ref 55, .int x3] [.int r2] (hpS s1) _
  refine Ex.seg hq 5 (j := 721) (L' := [.float 0, .ref 0, .ref 55, .int x3]) (S' := [.int (x3 + (1 : Int32)), .float 0, .ref 55, .int r2]) (h' := hpS s1) rfl ?_
  obtain ⟨hin, k⟩ := k
  refine Ex.nx hq rfl (L' := [.float 0, .ref 0, .ref 55, .int x3]) (S' := [.int (sc.2 ((x3 + (1 : Int32))).toNatClampNeg), .ref 55, .int r2]) (h' := hpS s1) (by simp only [stp, pial, hin, if_true]) ?_
  refine Ex.seg hq 4 (j := 726) (L' := [.float 0, .ref 0, .ref 55, .int x3]) (S' := [.int (x3 + (2 : Int32)), .float 0, .int (sc.2 ((x3 + (1 : Int32))).toNatClampNeg), .ref 55, .int r2]) (h' := hpS s1) rfl ?_
  obtain ⟨hin, k⟩ := k
  refine Ex.nx hq rfl (L' := [.float 0, .ref 0, .ref 55, .int x3]) (S' := [.int (sc.2 ((x3 + (2 : Int32))).toNatClampNeg), .int (sc.2 ((x3 + (1 : Int32))).toNatClampNeg), .ref 55, .int r2]) (h' := hpS s1) (by simp only [stp, pial, hin, if_true]) ?_
  refine Ex.seg hq 4 (j := 731) (L' := [.float 0, .ref 0, .ref 55, .int x3]) (S' := [.int (x3 + (3 : Int32)), .float 0, .int (sc.2 ((x3 + (2 : Int32))).toNatClampNeg), .int (sc.2 ((x3 + (1 : Int32))).toNatClampNeg), .ref 55, .int r2]) (h' := hpS s1) rfl ?_
  obtain ⟨hin, k⟩ := k
  refine Ex.nx hq rfl (L' := [.float 0, .ref 0, .ref 55, .int x3]) (S' := [.int (sc.2 ((x3 + (3 : Int32))).toNatClampNeg), .int (sc.2 ((x3 + (2 : Int32))).toNatClampNeg), .int (sc.2 ((x3 + (1 : Int32))).toNatClampNeg), .ref 55, .int r2]) (h' := hpS s1) (by simp only [stp, pial, hin, if_true]) ?_
  refine Ex.seg hq 4 (j := 736) (L' := [.float 0, .ref 0, .ref 55, .int x3]) (S' := [.int (x3 + (4 : Int32)), .float 0, .int (sc.2 ((x3 + (3 : Int32))).toNatClampNeg), .int (sc.2 ((x3 + (2 : Int32))).toNatClampNeg), .int (sc.2 ((x3 + (1 : Int32))).toNatClampNeg), .ref 55, .int r2]) (h' := hpS s1) rfl ?_
  obtain ⟨hin, k⟩ := k
  refine Ex.nx hq rfl (L' := [.float 0, .ref 0, .ref 55, .int x3]) (S' := [.int (sc.2 ((x3 + (4 : Int32))).toNatClampNeg), .int (sc.2 ((x3 + (3 : Int32))).toNatClampNeg), .int (sc.2 ((x3 + (2 : Int32))).toNatClampNeg), .int (sc.2 ((x3 + (1 : Int32))).toNatClampNeg), .ref 55, .int r2]) (h' := hpS s1) (by simp only [stp, pial, hin, if_true]) ?_
  refine Ex.cl hq rfl rfl ?_
  refine Rn.mono (q_263 (d := d + 63) (sc.2 ((x3 + (1 : Int32))).toNatClampNeg) (sc.2 ((x3 + (2 : Int32))).toNatClampNeg) (sc.2 ((x3 + (3 : Int32))).toNatClampNeg) (sc.2 ((x3 + (4 : Int32))).toNatClampNeg) s1 k) ?_
  rintro _ _ ⟨r4, s3, rfl, rfl, k⟩
  show Ex sc (d + 67) 309 738 [.float 0, .ref 0, .ref 55, .int x3] [.int r4, .int r2] (hpS s3) _
  refine Ex.i2 hq rfl (fun c => ?_) (fun c => ?_)
  · have k := k.1 c
    exact hX1150 x3 s3 k
  · have k := k.2 c
    refine Ex.seg hq 1 (j := 740) (L' := [.float 0, .ref 0, .ref 55, .int x3]) (S' := [.int (0 : Int32)]) (h' := hpS s3) rfl ?_
    exact Ex.zr hq rfl rfl (Or.inl rfl) ⟨(0 : Int32), s3, rfl, (Or.inl rfl), rfl, k⟩
/-- case 20 -/
def wl_20 (sc : Nat × (Nat → Int32)) (x3 : Int32) (s : ST) (X1150 : Int32 → ST → Prop) (K : Int32 → ST → Prop) : Prop := (pin (x3 + (1 : Int32)) sc.1 = true ∧ (pin (x3 + (2 : Int32)) sc.1 = true ∧ (((sc.2 ((x3 + (2 : Int32))).toNatClampNeg) = 0 → (pin (x3 + (3 : Int32)) sc.1 = true ∧ w_159 (sc.2 ((x3 + (1 : Int32))).toNatClampNeg) (0 : Int32) (sc.2 ((x3 + (3 : Int32))).toNatClampNeg) s (fun r2 s1 => (pin (x3 + (1 : Int32)) sc.1 = true ∧ (pin (x3 + (2 : Int32)) sc.1 = true ∧ (((sc.2 ((x3 + (2 : Int32))).toNatClampNeg) = 0 → (pin (x3 + (3 : Int32)) sc.1 = true ∧ w_265 (sc.2 ((x3 + (1 : Int32))).toNatClampNeg) (0 : Int32) (sc.2 ((x3 + (3 : Int32))).toNatClampNeg) s1 (fun r4 s3 => ((r2 = r4 → X1150 x3 s3) ∧ (¬ (r2 = r4) → K (0 : Int32) s3))))) ∧ (¬ ((sc.2 ((x3 + (2 : Int32))).toNatClampNeg) = 0) → (pin (x3 + (3 : Int32)) sc.1 = true ∧ w_265 (sc.2 ((x3 + (1 : Int32))).toNatClampNeg) (1 : Int32) (sc.2 ((x3 + (3 : Int32))).toNatClampNeg) s1 (fun r6 s5 => ((r2 = r6 → X1150 x3 s5) ∧ (¬ (r2 = r6) → K (0 : Int32) s5))))))))))) ∧ (¬ ((sc.2 ((x3 + (2 : Int32))).toNatClampNeg) = 0) → (pin (x3 + (3 : Int32)) sc.1 = true ∧ w_159 (sc.2 ((x3 + (1 : Int32))).toNatClampNeg) (1 : Int32) (sc.2 ((x3 + (3 : Int32))).toNatClampNeg) s (fun r8 s7 => (pin (x3 + (1 : Int32)) sc.1 = true ∧ (pin (x3 + (2 : Int32)) sc.1 = true ∧ (((sc.2 ((x3 + (2 : Int32))).toNatClampNeg) = 0 → (pin (x3 + (3 : Int32)) sc.1 = true ∧ w_265 (sc.2 ((x3 + (1 : Int32))).toNatClampNeg) (0 : Int32) (sc.2 ((x3 + (3 : Int32))).toNatClampNeg) s7 (fun r10 s9 => ((r8 = r10 → X1150 x3 s9) ∧ (¬ (r8 = r10) → K (0 : Int32) s9))))) ∧ (¬ ((sc.2 ((x3 + (2 : Int32))).toNatClampNeg) = 0) → (pin (x3 + (3 : Int32)) sc.1 = true ∧ w_265 (sc.2 ((x3 + (1 : Int32))).toNatClampNeg) (1 : Int32) (sc.2 ((x3 + (3 : Int32))).toNatClampNeg) s7 (fun r12 s11 => ((r8 = r12 → X1150 x3 s11) ∧ (¬ (r8 = r12) → K (0 : Int32) s11))))))))))))))
set_option maxRecDepth 40000 in
theorem ql_20 {d : Nat} {X1150 K : Int32 → ST → Prop} (x3 : Int32) (s : ST) (k : wl_20 sc x3 s X1150 K) (hX1150 : ∀ (y3 : Int32) (s : ST), X1150 y3 s → Ex sc (d + 67) 309 1150 [.float 0, .ref 0, .ref 55, .int y3] [] (hpS s) (kZ K)) : Ex sc (d + 67) 309 741 [.float 0, .ref 0, .ref 55, .int x3] [] (hpS s) (kZ K) := by
  have hq : prog[309]? = some pm309 := rfl
  unfold wl_20 at k
  refine Ex.seg hq 5 (j := 746) (L' := [.float 0, .ref 0, .ref 55, .int x3]) (S' := [.int (x3 + (1 : Int32)), .float 0, .ref 0]) (h' := hpS s) rfl ?_
  obtain ⟨hin, k⟩ := k
  refine Ex.nx hq rfl (L' := [.float 0, .ref 0, .ref 55, .int x3]) (S' := [.int (sc.2 ((x3 + (1 : Int32))).toNatClampNeg), .ref 0]) (h' := hpS s) (by simp only [stp, pial, hin, if_true]) ?_
  refine Ex.seg hq 4 (j := 751) (L' := [.float 0, .ref 0, .ref 55, .int x3]) (S' := [.int (x3 + (2 : Int32)), .float 0, .int (sc.2 ((x3 + (1 : Int32))).toNatClampNeg), .ref 0]) (h' := hpS s) rfl ?_
  obtain ⟨hin, k⟩ := k
  refine Ex.nx hq rfl (L' := [.float 0, .ref 0, .ref 55, .int x3]) (S' := [.int (sc.2 ((x3 + (2 : Int32))).toNatClampNeg), .int (sc.2 ((x3 + (1 : Int32))).toNatClampNeg), .ref 0]) (h' := hpS s) (by simp only [stp, pial, hin, if_true]) ?_
  refine Ex.i1 hq rfl (fun c => ?_) (fun c => ?_)
  · have k := k.1 c
    refine Ex.seg hq 5 (j := 760) (L' := [.float 0, .ref 0, .ref 55, .int x3]) (S' := [.int (x3 + (3 : Int32)), .float 0, .int (0 : Int32), .int (sc.2 ((x3 + (1 : Int32))).toNatClampNeg), .ref 0]) (h' := hpS s) rfl ?_
    obtain ⟨hin, k⟩ := k
    refine Ex.nx hq rfl (L' := [.float 0, .ref 0, .ref 55, .int x3]) (S' := [.int (sc.2 ((x3 + (3 : Int32))).toNatClampNeg), .int (0 : Int32), .int (sc.2 ((x3 + (1 : Int32))).toNatClampNeg), .ref 0]) (h' := hpS s) (by simp only [stp, pial, hin, if_true]) ?_
    refine Ex.cl hq rfl rfl ?_
    refine Rn.mono (q_159 (d := d + 63) (sc.2 ((x3 + (1 : Int32))).toNatClampNeg) (0 : Int32) (sc.2 ((x3 + (3 : Int32))).toNatClampNeg) s k) ?_
    rintro _ _ ⟨r2, s1, rfl, hzr2, rfl, k⟩
    show Ex sc (d + 67) 309 762 [.float 0, .ref 0, .ref 55, .int x3] [.int r2] (hpS s1) _
    refine Ex.seg hq 5 (j := 767) (L' := [.float 0, .ref 0, .ref 55, .int x3]) (S' := [.int (x3 + (1 : Int32)), .float 0, .ref 55, .int r2]) (h' := hpS s1) rfl ?_
    obtain ⟨hin, k⟩ := k
    refine Ex.nx hq rfl (L' := [.float 0, .ref 0, .ref 55, .int x3]) (S' := [.int (sc.2 ((x3 + (1 : Int32))).toNatClampNeg), .ref 55, .int r2]) (h' := hpS s1) (by simp only [stp, pial, hin, if_true]) ?_
    refine Ex.seg hq 4 (j := 772) (L' := [.float 0, .ref 0, .ref 55, .int x3]) (S' := [.int (x3 + (2 : Int32)), .float 0, .int (sc.2 ((x3 + (1 : Int32))).toNatClampNeg), .ref 55, .int r2]) (h' := hpS s1) rfl ?_
    obtain ⟨hin, k⟩ := k
    refine Ex.nx hq rfl (L' := [.float 0, .ref 0, .ref 55, .int x3]) (S' := [.int (sc.2 ((x3 + (2 : Int32))).toNatClampNeg), .int (sc.2 ((x3 + (1 : Int32))).toNatClampNeg), .ref 55, .int r2]) (h' := hpS s1) (by simp only [stp, pial, hin, if_true]) ?_
    refine Ex.i1 hq rfl (fun c => ?_) (fun c => ?_)
    · have k := k.1 c
      refine Ex.seg hq 5 (j := 781) (L' := [.float 0, .ref 0, .ref 55, .int x3]) (S' := [.int (x3 + (3 : Int32)), .float 0, .int (0 : Int32), .int (sc.2 ((x3 + (1 : Int32))).toNatClampNeg), .ref 55, .int r2]) (h' := hpS s1) rfl ?_
      obtain ⟨hin, k⟩ := k
      refine Ex.nx hq rfl (L' := [.float 0, .ref 0, .ref 55, .int x3]) (S' := [.int (sc.2 ((x3 + (3 : Int32))).toNatClampNeg), .int (0 : Int32), .int (sc.2 ((x3 + (1 : Int32))).toNatClampNeg), .ref 55, .int r2]) (h' := hpS s1) (by simp only [stp, pial, hin, if_true]) ?_
      refine Ex.cl hq rfl rfl ?_
      refine Rn.mono (q_265 (d := d + 65) (sc.2 ((x3 + (1 : Int32))).toNatClampNeg) (0 : Int32) (sc.2 ((x3 + (3 : Int32))).toNatClampNeg) s1 k) ?_
      rintro _ _ ⟨r4, s3, rfl, hzr4, rfl, k⟩
      show Ex sc (d + 67) 309 783 [.float 0, .ref 0, .ref 55, .int x3] [.int r4, .int r2] (hpS s3) _
      refine Ex.i2 hq rfl (fun c => ?_) (fun c => ?_)
      · have k := k.1 c
        exact hX1150 x3 s3 k
      · have k := k.2 c
        refine Ex.seg hq 1 (j := 785) (L' := [.float 0, .ref 0, .ref 55, .int x3]) (S' := [.int (0 : Int32)]) (h' := hpS s3) rfl ?_
        exact Ex.zr hq rfl rfl (Or.inl rfl) ⟨(0 : Int32), s3, rfl, (Or.inl rfl), rfl, k⟩
    · have k := k.2 c
      refine Ex.seg hq 6 (j := 781) (L' := [.float 0, .ref 0, .ref 55, .int x3]) (S' := [.int (x3 + (3 : Int32)), .float 0, .int (1 : Int32), .int (sc.2 ((x3 + (1 : Int32))).toNatClampNeg), .ref 55, .int r2]) (h' := hpS s1) rfl ?_
      obtain ⟨hin, k⟩ := k
      refine Ex.nx hq rfl (L' := [.float 0, .ref 0, .ref 55, .int x3]) (S' := [.int (sc.2 ((x3 + (3 : Int32))).toNatClampNeg), .int (1 : Int32), .int (sc.2 ((x3 + (1 : Int32))).toNatClampNeg), .ref 55, .int r2]) (h' := hpS s1) (by simp only [stp, pial, hin, if_true]) ?_
      refine Ex.cl hq rfl rfl ?_
      refine Rn.mono (q_265 (d := d + 65) (sc.2 ((x3 + (1 : Int32))).toNatClampNeg) (1 : Int32) (sc.2 ((x3 + (3 : Int32))).toNatClampNeg) s1 k) ?_
      rintro _ _ ⟨r6, s5, rfl, hzr6, rfl, k⟩
      show Ex sc (d + 67) 309 783 [.float 0, .ref 0, .ref 55, .int x3] [.int r6, .int r2] (hpS s5) _
      refine Ex.i2 hq rfl (fun c => ?_) (fun c => ?_)
      · have k := k.1 c
        exact hX1150 x3 s5 k
      · have k := k.2 c
        refine Ex.seg hq 1 (j := 785) (L' := [.float 0, .ref 0, .ref 55, .int x3]) (S' := [.int (0 : Int32)]) (h' := hpS s5) rfl ?_
        exact Ex.zr hq rfl rfl (Or.inl rfl) ⟨(0 : Int32), s5, rfl, (Or.inl rfl), rfl, k⟩
  · have k := k.2 c
    refine Ex.seg hq 6 (j := 760) (L' := [.float 0, .ref 0, .ref 55, .int x3]) (S' := [.int (x3 + (3 : Int32)), .float 0, .int (1 : Int32), .int (sc.2 ((x3 + (1 : Int32))).toNatClampNeg), .ref 0]) (h' := hpS s) rfl ?_
    obtain ⟨hin, k⟩ := k
    refine Ex.nx hq rfl (L' := [.float 0, .ref 0, .ref 55, .int x3]) (S' := [.int (sc.2 ((x3 + (3 : Int32))).toNatClampNeg), .int (1 : Int32), .int (sc.2 ((x3 + (1 : Int32))).toNatClampNeg), .ref 0]) (h' := hpS s) (by simp only [stp, pial, hin, if_true]) ?_
    refine Ex.cl hq rfl rfl ?_
    refine Rn.mono (q_159 (d := d + 63) (sc.2 ((x3 + (1 : Int32))).toNatClampNeg) (1 : Int32) (sc.2 ((x3 + (3 : Int32))).toNatClampNeg) s k) ?_
    rintro _ _ ⟨r8, s7, rfl, hzr8, rfl, k⟩
    show Ex sc (d + 67) 309 762 [.float 0, .ref 0, .ref 55, .int x3] [.int r8] (hpS s7) _
    refine Ex.seg hq 5 (j := 767) (L' := [.float 0, .ref 0, .ref 55, .int x3]) (S' := [.int (x3 + (1 : Int32)), .float 0, .ref 55, .int r8]) (h' := hpS s7) rfl ?_
    obtain ⟨hin, k⟩ := k
    refine Ex.nx hq rfl (L' := [.float 0, .ref 0, .ref 55, .int x3]) (S' := [.int (sc.2 ((x3 + (1 : Int32))).toNatClampNeg), .ref 55, .int r8]) (h' := hpS s7) (by simp only [stp, pial, hin, if_true]) ?_
    refine Ex.seg hq 4 (j := 772) (L' := [.float 0, .ref 0, .ref 55, .int x3]) (S' := [.int (x3 + (2 : Int32)), .float 0, .int (sc.2 ((x3 + (1 : Int32))).toNatClampNeg), .ref 55, .int r8]) (h' := hpS s7) rfl ?_
    obtain ⟨hin, k⟩ := k
    refine Ex.nx hq rfl (L' := [.float 0, .ref 0, .ref 55, .int x3]) (S' := [.int (sc.2 ((x3 + (2 : Int32))).toNatClampNeg), .int (sc.2 ((x3 + (1 : Int32))).toNatClampNeg), .ref 55, .int r8]) (h' := hpS s7) (by simp only [stp, pial, hin, if_true]) ?_
    refine Ex.i1 hq rfl (fun c => ?_) (fun c => ?_)
    · have k := k.1 c
      refine Ex.seg hq 5 (j := 781) (L' := [.float 0, .ref 0, .ref 55, .int x3]) (S' := [.int (x3 + (3 : Int32)), .float 0, .int (0 : Int32), .int (sc.2 ((x3 + (1 : Int32))).toNatClampNeg), .ref 55, .int r8]) (h' := hpS s7) rfl ?_
      obtain ⟨hin, k⟩ := k
      refine Ex.nx hq rfl (L' := [.float 0, .ref 0, .ref 55, .int x3]) (S' := [.int (sc.2 ((x3 + (3 : Int32))).toNatClampNeg), .int (0 : Int32), .int (sc.2 ((x3 + (1 : Int32))).toNatClampNeg), .ref 55, .int r8]) (h' := hpS s7) (by simp only [stp, pial, hin, if_true]) ?_
      refine Ex.cl hq rfl rfl ?_
      refine Rn.mono (q_265 (d := d + 65) (sc.2 ((x3 + (1 : Int32))).toNatClampNeg) (0 : Int32) (sc.2 ((x3 + (3 : Int32))).toNatClampNeg) s7 k) ?_
      rintro _ _ ⟨r10, s9, rfl, hzr10, rfl, k⟩
      show Ex sc (d + 67) 309 783 [.float 0, .ref 0, .ref 55, .int x3] [.int r10, .int r8] (hpS s9) _
      refine Ex.i2 hq rfl (fun c => ?_) (fun c => ?_)
      · have k := k.1 c
        exact hX1150 x3 s9 k
      · have k := k.2 c
        refine Ex.seg hq 1 (j := 785) (L' := [.float 0, .ref 0, .ref 55, .int x3]) (S' := [.int (0 : Int32)]) (h' := hpS s9) rfl ?_
        exact Ex.zr hq rfl rfl (Or.inl rfl) ⟨(0 : Int32), s9, rfl, (Or.inl rfl), rfl, k⟩
    · have k := k.2 c
      refine Ex.seg hq 6 (j := 781) (L' := [.float 0, .ref 0, .ref 55, .int x3]) (S' := [.int (x3 + (3 : Int32)), .float 0, .int (1 : Int32), .int (sc.2 ((x3 + (1 : Int32))).toNatClampNeg), .ref 55, .int r8]) (h' := hpS s7) rfl ?_
      obtain ⟨hin, k⟩ := k
      refine Ex.nx hq rfl (L' := [.float 0, .ref 0, .ref 55, .int x3]) (S' := [.int (sc.2 ((x3 + (3 : Int32))).toNatClampNeg), .int (1 : Int32), .int (sc.2 ((x3 + (1 : Int32))).toNatClampNeg), .ref 55, .int r8]) (h' := hpS s7) (by simp only [stp, pial, hin, if_true]) ?_
      refine Ex.cl hq rfl rfl ?_
      refine Rn.mono (q_265 (d := d + 65) (sc.2 ((x3 + (1 : Int32))).toNatClampNeg) (1 : Int32) (sc.2 ((x3 + (3 : Int32))).toNatClampNeg) s7 k) ?_
      rintro _ _ ⟨r12, s11, rfl, hzr12, rfl, k⟩
      show Ex sc (d + 67) 309 783 [.float 0, .ref 0, .ref 55, .int x3] [.int r12, .int r8] (hpS s11) _
      refine Ex.i2 hq rfl (fun c => ?_) (fun c => ?_)
      · have k := k.1 c
        exact hX1150 x3 s11 k
      · have k := k.2 c
        refine Ex.seg hq 1 (j := 785) (L' := [.float 0, .ref 0, .ref 55, .int x3]) (S' := [.int (0 : Int32)]) (h' := hpS s11) rfl ?_
        exact Ex.zr hq rfl rfl (Or.inl rfl) ⟨(0 : Int32), s11, rfl, (Or.inl rfl), rfl, k⟩
/-- case 21 -/
def wl_21 (sc : Nat × (Nat → Int32)) (x3 : Int32) (s : ST) (X1150 : Int32 → ST → Prop) (K : Int32 → ST → Prop) : Prop := (pin (x3 + (1 : Int32)) sc.1 = true ∧ (pin (x3 + (2 : Int32)) sc.1 = true ∧ (((sc.2 ((x3 + (2 : Int32))).toNatClampNeg) = 0 → (pin (x3 + (3 : Int32)) sc.1 = true ∧ (pin (x3 + (4 : Int32)) sc.1 = true ∧ (((sc.2 ((x3 + (4 : Int32))).toNatClampNeg) = 0 → w_160 (sc.2 ((x3 + (1 : Int32))).toNatClampNeg) (0 : Int32) (sc.2 ((x3 + (3 : Int32))).toNatClampNeg) (0 : Int32) s (fun r2 s1 => (pin (x3 + (1 : Int32)) sc.1 = true ∧ (pin (x3 + (2 : Int32)) sc.1 = true ∧ (((sc.2 ((x3 + (2 : Int32))).toNatClampNeg) = 0 → (pin (x3 + (3 : Int32)) sc.1 = true ∧ (pin (x3 + (4 : Int32)) sc.1 = true ∧ (((sc.2 ((x3 + (4 : Int32))).toNatClampNeg) = 0 → w_267 (sc.2 ((x3 + (1 : Int32))).toNatClampNeg) (0 : Int32) (sc.2 ((x3 + (3 : Int32))).toNatClampNeg) (0 : Int32) s1 (fun r4 s3 => ((r2 = r4 → X1150 x3 s3) ∧ (¬ (r2 = r4) → K (0 : Int32) s3)))) ∧ (¬ ((sc.2 ((x3 + (4 : Int32))).toNatClampNeg) = 0) → w_267 (sc.2 ((x3 + (1 : Int32))).toNatClampNeg) (0 : Int32) (sc.2 ((x3 + (3 : Int32))).toNatClampNeg) (1 : Int32) s1 (fun r6 s5 => ((r2 = r6 → X1150 x3 s5) ∧ (¬ (r2 = r6) → K (0 : Int32) s5)))))))) ∧ (¬ ((sc.2 ((x3 + (2 : Int32))).toNatClampNeg) = 0) → (pin (x3 + (3 : Int32)) sc.1 = true ∧ (pin (x3 + (4 : Int32)) sc.1 = true ∧ (((sc.2 ((x3 + (4 : Int32))).toNatClampNeg) = 0 → w_267 (sc.2 ((x3 + (1 : Int32))).toNatClampNeg) (1 : Int32) (sc.2 ((x3 + (3 : Int32))).toNatClampNeg) (0 : Int32) s1 (fun r8 s7 => ((r2 = r8 → X1150 x3 s7) ∧ (¬ (r2 = r8) → K (0 : Int32) s7)))) ∧ (¬ ((sc.2 ((x3 + (4 : Int32))).toNatClampNeg) = 0) → w_267 (sc.2 ((x3 + (1 : Int32))).toNatClampNeg) (1 : Int32) (sc.2 ((x3 + (3 : Int32))).toNatClampNeg) (1 : Int32) s1 (fun r10 s9 => ((r2 = r10 → X1150 x3 s9) ∧ (¬ (r2 = r10) → K (0 : Int32) s9))))))))))))) ∧ (¬ ((sc.2 ((x3 + (4 : Int32))).toNatClampNeg) = 0) → w_160 (sc.2 ((x3 + (1 : Int32))).toNatClampNeg) (0 : Int32) (sc.2 ((x3 + (3 : Int32))).toNatClampNeg) (1 : Int32) s (fun r12 s11 => (pin (x3 + (1 : Int32)) sc.1 = true ∧ (pin (x3 + (2 : Int32)) sc.1 = true ∧ (((sc.2 ((x3 + (2 : Int32))).toNatClampNeg) = 0 → (pin (x3 + (3 : Int32)) sc.1 = true ∧ (pin (x3 + (4 : Int32)) sc.1 = true ∧ (((sc.2 ((x3 + (4 : Int32))).toNatClampNeg) = 0 → w_267 (sc.2 ((x3 + (1 : Int32))).toNatClampNeg) (0 : Int32) (sc.2 ((x3 + (3 : Int32))).toNatClampNeg) (0 : Int32) s11 (fun r14 s13 => ((r12 = r14 → X1150 x3 s13) ∧ (¬ (r12 = r14) → K (0 : Int32) s13)))) ∧ (¬ ((sc.2 ((x3 + (4 : Int32))).toNatClampNeg) = 0) → w_267 (sc.2 ((x3 + (1 : Int32))).toNatClampNeg) (0 : Int32) (sc.2 ((x3 + (3 : Int32))).toNatClampNeg) (1 : Int32) s11 (fun r16 s15 => ((r12 = r16 → X1150 x3 s15) ∧ (¬ (r12 = r16) → K (0 : Int32) s15)))))))) ∧ (¬ ((sc.2 ((x3 + (2 : Int32))).toNatClampNeg) = 0) → (pin (x3 + (3 : Int32)) sc.1 = true ∧ (pin (x3 + (4 : Int32)) sc.1 = true ∧ (((sc.2 ((x3 + (4 : Int32))).toNatClampNeg) = 0 → w_267 (sc.2 ((x3 + (1 : Int32))).toNatClampNeg) (1 : Int32) (sc.2 ((x3 + (3 : Int32))).toNatClampNeg) (0 : Int32) s11 (fun r18 s17 => ((r12 = r18 → X1150 x3 s17) ∧ (¬ (r12 = r18) → K (0 : Int32) s17)))) ∧ (¬ ((sc.2 ((x3 + (4 : Int32))).toNatClampNeg) = 0) → w_267 (sc.2 ((x3 + (1 : Int32))).toNatClampNeg) (1 : Int32) (sc.2 ((x3 + (3 : Int32))).toNatClampNeg) (1 : Int32) s11 (fun r20 s19 => ((r12 = r20 → X1150 x3 s19) ∧ (¬ (r12 = r20) → K (0 : Int32) s19))))))))))))))))) ∧ (¬ ((sc.2 ((x3 + (2 : Int32))).toNatClampNeg) = 0) → (pin (x3 + (3 : Int32)) sc.1 = true ∧ (pin (x3 + (4 : Int32)) sc.1 = true ∧ (((sc.2 ((x3 + (4 : Int32))).toNatClampNeg) = 0 → w_160 (sc.2 ((x3 + (1 : Int32))).toNatClampNeg) (1 : Int32) (sc.2 ((x3 + (3 : Int32))).toNatClampNeg) (0 : Int32) s (fun r22 s21 => (pin (x3 + (1 : Int32)) sc.1 = true ∧ (pin (x3 + (2 : Int32)) sc.1 = true ∧ (((sc.2 ((x3 + (2 : Int32))).toNatClampNeg) = 0 → (pin (x3 + (3 : Int32)) sc.1 = true ∧ (pin (x3 + (4 : Int32)) sc.1 = true ∧ (((sc.2 ((x3 + (4 : Int32))).toNatClampNeg) = 0 → w_267 (sc.2 ((x3 + (1 : Int32))).toNatClampNeg) (0 : Int32) (sc.2 ((x3 + (3 : Int32))).toNatClampNeg) (0 : Int32) s21 (fun r24 s23 => ((r22 = r24 → X1150 x3 s23) ∧ (¬ (r22 = r24) → K (0 : Int32) s23)))) ∧ (¬ ((sc.2 ((x3 + (4 : Int32))).toNatClampNeg) = 0) → w_267 (sc.2 ((x3 + (1 : Int32))).toNatClampNeg) (0 : Int32) (sc.2 ((x3 + (3 : Int32))).toNatClampNeg) (1 : Int32) s21 (fun r26 s25 => ((r22 = r26 → X1150 x3 s25) ∧ (¬ (r22 = r26) → K (0 : Int32) s25)))))))) ∧ (¬ ((sc.2 ((x3 + (2 : Int32))).toNatClampNeg) = 0) → (pin (x3 + (3 : Int32)) sc.1 = true ∧ (pin (x3 + (4 : Int32)) sc.1 = true ∧ (((sc.2 ((x3 + (4 : Int32))).toNatClampNeg) = 0 → w_267 (sc.2 ((x3 + (1 : Int32))).toNatClampNeg) (1 : Int32) (sc.2 ((x3 + (3 : Int32))).toNatClampNeg) (0 : Int32) s21 (fun r28 s27 => ((r22 = r28 → X1150 x3 s27) ∧ (¬ (r22 = r28) → K (0 : Int32) s27)))) ∧ (¬ ((sc.2 ((x3 + (4 : Int32))).toNatClampNeg) = 0) → w_267 (sc.2 ((x3 + (1 : Int32))).toNatClampNeg) (1 : Int32) (sc.2 ((x3 + (3 : Int32))).toNatClampNeg) (1 : Int32) s21 (fun r30 s29 => ((r22 = r30 → X1150 x3 s29) ∧ (¬ (r22 = r30) → K (0 : Int32) s29))))))))))))) ∧ (¬ ((sc.2 ((x3 + (4 : Int32))).toNatClampNeg) = 0) → w_160 (sc.2 ((x3 + (1 : Int32))).toNatClampNeg) (1 : Int32) (sc.2 ((x3 + (3 : Int32))).toNatClampNeg) (1 : Int32) s (fun r32 s31 => (pin (x3 + (1 : Int32)) sc.1 = true ∧ (pin (x3 + (2 : Int32)) sc.1 = true ∧ (((sc.2 ((x3 + (2 : Int32))).toNatClampNeg) = 0 → (pin (x3 + (3 : Int32)) sc.1 = true ∧ (pin (x3 + (4 : Int32)) sc.1 = true ∧ (((sc.2 ((x3 + (4 : Int32))).toNatClampNeg) = 0 → w_267 (sc.2 ((x3 + (1 : Int32))).toNatClampNeg) (0 : Int32) (sc.2 ((x3 + (3 : Int32))).toNatClampNeg) (0 : Int32) s31 (fun r34 s33 => ((r32 = r34 → X1150 x3 s33) ∧ (¬ (r32 = r34) → K (0 : Int32) s33)))) ∧ (¬ ((sc.2 ((x3 + (4 : Int32))).toNatClampNeg) = 0) → w_267 (sc.2 ((x3 + (1 : Int32))).toNatClampNeg) (0 : Int32) (sc.2 ((x3 + (3 : Int32))).toNatClampNeg) (1 : Int32) s31 (fun r36 s35 => ((r32 = r36 → X1150 x3 s35) ∧ (¬ (r32 = r36) → K (0 : Int32) s35)))))))) ∧ (¬ ((sc.2 ((x3 + (2 : Int32))).toNatClampNeg) = 0) → (pin (x3 + (3 : Int32)) sc.1 = true ∧ (pin (x3 + (4 : Int32)) sc.1 = true ∧ (((sc.2 ((x3 + (4 : Int32))).toNatClampNeg) = 0 → w_267 (sc.2 ((x3 + (1 : Int32))).toNatClampNeg) (1 : Int32) (sc.2 ((x3 + (3 : Int32))).toNatClampNeg) (0 : Int32) s31 (fun r38 s37 => ((r32 = r38 → X1150 x3 s37) ∧ (¬ (r32 = r38) → K (0 : Int32) s37)))) ∧ (¬ ((sc.2 ((x3 + (4 : Int32))).toNatClampNeg) = 0) → w_267 (sc.2 ((x3 + (1 : Int32))).toNatClampNeg) (1 : Int32) (sc.2 ((x3 + (3 : Int32))).toNatClampNeg) (1 : Int32) s31 (fun r40 s39 => ((r32 = r40 → X1150 x3 s39) ∧ (¬ (r32 = r40) → K (0 : Int32) s39))))))))))))))))))))
set_option maxRecDepth 40000 in
theorem ql_21 {d : Nat} {X1150 K : Int32 → ST → Prop} (x3 : Int32) (s : ST) (k : wl_21 sc x3 s X1150 K) (hX1150 : ∀ (y3 : Int32) (s : ST), X1150 y3 s → Ex sc (d + 67) 309 1150 [.float 0, .ref 0, .ref 55, .int y3] [] (hpS s) (kZ K)) : Ex sc (d + 67) 309 786 [.float 0, .ref 0, .ref 55, .int x3] [] (hpS s) (kZ K) := by
  have hq : prog[309]? = some pm309 := rfl
  unfold wl_21 at k
  refine Ex.seg hq 5 (j := 791) (L' := [.float 0, .ref 0, .ref 55, .int x3]) (S' := [.int (x3 + (1 : Int32)), .float 0, .ref 0]) (h' := hpS s) rfl ?_
  obtain ⟨hin, k⟩ := k
  refine Ex.nx hq rfl (L' := [.float 0, .ref 0, .ref 55, .int x3]) (S' := [.int (sc.2 ((x3 + (1 : Int32))).toNatClampNeg), .ref 0]) (h' := hpS s) (by simp only [stp, pial, hin, if_true]) ?_
  refine Ex.seg hq 4 (j := 796) (L' := [.float 0, .ref 0, .ref 55, .int x3]) (S' := [.int (x3 + (2 : Int32)), .float 0, .int (sc.2 ((x3 + (1 : Int32))).toNatClampNeg), .ref 0]) (h' := hpS s) rfl ?_
  obtain ⟨hin, k⟩ := k
  refine Ex.nx hq rfl (L' := [.float 0, .ref 0, .ref 55, .int x3]) (S' := [.int (sc.2 ((x3 + (2 : Int32))).toNatClampNeg), .int (sc.2 ((x3 + (1 : Int32))).toNatClampNeg), .ref 0]) (h' := hpS s) (by simp only [stp, pial, hin, if_true]) ?_
  refine Ex.i1 hq rfl (fun c => ?_) (fun c => ?_)
  · have k := k.1 c
    refine Ex.seg hq 5 (j := 805) (L' := [.float 0, .ref 0, .ref 55, .int x3]) (S' := [.int (x3 + (3 : Int32)), .float 0, .int (0 : Int32), .int (sc.2 ((x3 + (1 : Int32))).toNatClampNeg), .ref 0]) (h' := hpS s) rfl ?_
    obtain ⟨hin, k⟩ := k
    refine Ex.nx hq rfl (L' := [.float 0, .ref 0, .ref 55, .int x3]) (S' := [.int (sc.2 ((x3 + (3 : Int32))).toNatClampNeg), .int (0 : Int32), .int (sc.2 ((x3 + (1 : Int32))).toNatClampNeg), .ref 0]) (h' := hpS s) (by simp only [stp, pial, hin, if_true]) ?_
    refine Ex.seg hq 4 (j := 810) (L' := [.float 0, .ref 0, .ref 55, .int x3]) (S' := [.int (x3 + (4 : Int32)), .float 0, .int (sc.2 ((x3 + (3 : Int32))).toNatClampNeg), .int (0 : Int32), .int (sc.2 ((x3 + (1 : Int32))).toNatClampNeg), .ref 0]) (h' := hpS s) rfl ?_
    obtain ⟨hin, k⟩ := k
    refine Ex.nx hq rfl (L' := [.float 0, .ref 0, .ref 55, .int x3]) (S' := [.int (sc.2 ((x3 + (4 : Int32))).toNatClampNeg), .int (sc.2 ((x3 + (3 : Int32))).toNatClampNeg), .int (0 : Int32), .int (sc.2 ((x3 + (1 : Int32))).toNatClampNeg), .ref 0]) (h' := hpS s) (by simp only [stp, pial, hin, if_true]) ?_
    refine Ex.i1 hq rfl (fun c => ?_) (fun c => ?_)
    · have k := k.1 c
      refine Ex.seg hq 1 (j := 815) (L' := [.float 0, .ref 0, .ref 55, .int x3]) (S' := [.int (0 : Int32), .int (sc.2 ((x3 + (3 : Int32))).toNatClampNeg), .int (0 : Int32), .int (sc.2 ((x3 + (1 : Int32))).toNatClampNeg), .ref 0]) (h' := hpS s) rfl ?_
      refine Ex.cl hq rfl rfl ?_
      refine Rn.mono (q_160 (d := d + 63) (sc.2 ((x3 + (1 : Int32))).toNatClampNeg) (0 : Int32) (sc.2 ((x3 + (3 : Int32))).toNatClampNeg) (0 : Int32) s k) ?_
      rintro _ _ ⟨r2, s1, rfl, rfl, k⟩
      show Ex sc (d + 67) 309 816 [.float 0, .ref 0, .ref 55, .int x3] [.int r2] (hpS s1) _
      refine Ex.seg hq 5 (j := 821) (L' := [.float 0, .ref 0, .ref 55, .int x3]) (S' := [.int (x3 + (1 : Int32)), .float 0, .ref 55, .int r2]) (h' := hpS s1) rfl ?_
      obtain ⟨hin, k⟩ := k
      refine Ex.nx hq rfl (L' := [.float 0, .ref 0, .ref 55, .int x3]) (S' := [.int (sc.2 ((x3 + (1 : Int32))).toNatClampNeg), .ref 55, .int r2]) (h' := hpS s1) (by simp only [stp, pial, hin, if_true]) ?_
      refine Ex.seg hq 4 (j := 826) (L' := [.float 0, .ref 0, .ref 55, .int x3]) (S' := [.int (x3 + (2 : Int32)), .float 0, .int (sc.2 ((x3 + (1 : Int32))).toNatClampNeg), .ref 55, .int r2]) (h' := hpS s1) rfl ?_
      obtain ⟨hin, k⟩ := k
      refine Ex.nx hq rfl (L' := [.float 0, .ref 0, .ref 55, .int x3]) (S' := [.int (sc.2 ((x3 + (2 : Int32))).toNatClampNeg), .int (sc.2 ((x3 + (1 : Int32))).toNatClampNeg), .ref 55, .int r2]) (h' := hpS s1) (by simp only [stp, pial, hin, if_true]) ?_
      refine Ex.i1 hq rfl (fun c => ?_) (fun c => ?_)
      · have k := k.1 c
        refine Ex.seg hq 5 (j := 835) (L' := [.float 0, .ref 0, .ref 55, .int x3]) (S' := [.int (x3 + (3 : Int32)), .float 0, .int (0 : Int32), .int (sc.2 ((x3 + (1 : Int32))).toNatClampNeg), .ref 55, .int r2]) (h' := hpS s1) rfl ?_
        obtain ⟨hin, k⟩ := k
        refine Ex.nx hq rfl (L' := [.float 0, .ref 0, .ref 55, .int x3]) (S' := [.int (sc.2 ((x3 + (3 : Int32))).toNatClampNeg), .int (0 : Int32), .int (sc.2 ((x3 + (1 : Int32))).toNatClampNeg), .ref 55, .int r2]) (h' := hpS s1) (by simp only [stp, pial, hin, if_true]) ?_
        refine Ex.seg hq 4 (j := 840) (L' := [.float 0, .ref 0, .ref 55, .int x3]) (S' := [.int (x3 + (4 : Int32)), .float 0, .int (sc.2 ((x3 + (3 : Int32))).toNatClampNeg), .int (0 : Int32), .int (sc.2 ((x3 + (1 : Int32))).toNatClampNeg), .ref 55, .int r2]) (h' := hpS s1) rfl ?_
        obtain ⟨hin, k⟩ := k
        refine Ex.nx hq rfl (L' := [.float 0, .ref 0, .ref 55, .int x3]) (S' := [.int (sc.2 ((x3 + (4 : Int32))).toNatClampNeg), .int (sc.2 ((x3 + (3 : Int32))).toNatClampNeg), .int (0 : Int32), .int (sc.2 ((x3 + (1 : Int32))).toNatClampNeg), .ref 55, .int r2]) (h' := hpS s1) (by simp only [stp, pial, hin, if_true]) ?_
        refine Ex.i1 hq rfl (fun c => ?_) (fun c => ?_)
        · have k := k.1 c
          refine Ex.seg hq 1 (j := 845) (L' := [.float 0, .ref 0, .ref 55, .int x3]) (S' := [.int (0 : Int32), .int (sc.2 ((x3 + (3 : Int32))).toNatClampNeg), .int (0 : Int32), .int (sc.2 ((x3 + (1 : Int32))).toNatClampNeg), .ref 55, .int r2]) (h' := hpS s1) rfl ?_
          refine Ex.cl hq rfl rfl ?_
          refine Rn.mono (q_267 (d := d + 65) (sc.2 ((x3 + (1 : Int32))).toNatClampNeg) (0 : Int32) (sc.2 ((x3 + (3 : Int32))).toNatClampNeg) (0 : Int32) s1 k) ?_
          rintro _ _ ⟨r4, s3, rfl, rfl, k⟩
          show Ex sc (d + 67) 309 846 [.float 0, .ref 0, .ref 55, .int x3] [.int r4, .int r2] (hpS s3) _
          refine Ex.i2 hq rfl (fun c => ?_) (fun c => ?_)
          · have k := k.1 c
            exact hX1150 x3 s3 k
          · have k := k.2 c
            refine Ex.seg hq 1 (j := 848) (L' := [.float 0, .ref 0, .ref 55, .int x3]) (S' := [.int (0 : Int32)]) (h' := hpS s3) rfl ?_
            exact Ex.zr hq rfl rfl (Or.inl rfl) ⟨(0 : Int32), s3, rfl, (Or.inl rfl), rfl, k⟩
        · have k := k.2 c
          refine Ex.seg hq 2 (j := 845) (L' := [.float 0, .ref 0, .ref 55, .int x3]) (S' := [.int (1 : Int32), .int (sc.2 ((x3 + (3 : Int32))).toNatClampNeg), .int (0 : Int32), .int (sc.2 ((x3 + (1 : Int32))).toNatClampNeg), .ref 55, .int r2]) (h' := hpS s1) rfl ?_
          refine Ex.cl hq rfl rfl ?_
          refine Rn.mono (q_267 (d := d + 65) (sc.2 ((x3 + (1 : Int32))).toNatClampNeg) (0 : Int32) (sc.2 ((x3 + (3 : Int32))).toNatClampNeg) (1 : Int32) s1 k) ?_
          rintro _ _ ⟨r6, s5, rfl, rfl, k⟩
          show Ex sc (d + 67) 309 846 [.float 0, .ref 0, .ref 55, .int x3] [.int r6, .int r2] (hpS s5) _
          refine Ex.i2 hq rfl (fun c => ?_) (fun c => ?_)
          · have k := k.1 c
            exact hX1150 x3 s5 k
          · have k := k.2 c
            refine Ex.seg hq 1 (j := 848) (L' := [.float 0, .ref 0, .ref 55, .int x3]) (S' := [.int (0 : Int32)]) (h' := hpS s5) rfl ?_
            exact Ex.zr hq rfl rfl (Or.inl rfl) ⟨(0 : Int32), s5, rfl, (Or.inl rfl), rfl, k⟩
      · have k := k.2 c
        refine Ex.seg hq 6 (j := 835) (L' := [.float 0, .ref 0, .ref 55, .int x3]) (S' := [.int (x3 + (3 : Int32)), .float 0, .int (1 : Int32), .int (sc.2 ((x3 + (1 : Int32))).toNatClampNeg), .ref 55, .int r2]) (h' := hpS s1) rfl ?_
        obtain ⟨hin, k⟩ := k
        refine Ex.nx hq rfl (L' := [.float 0, .ref 0, .ref 55, .int x3]) (S' := [.int (sc.2 ((x3 + (3 : Int32))).toNatClampNeg), .int (1 : Int32), .int (sc.2 ((x3 + (1 : Int32))).toNatClampNeg), .ref 55, .int r2]) (h' := hpS s1) (by simp only [stp, pial, hin, if_true]) ?_
        refine Ex.seg hq 4 (j := 840) (L' := [.float 0, .ref 0, .ref 55, .int x3]) (S' := [.int (x3 + (4 : Int32)), .float 0, .int (sc.2 ((x3 + (3 : Int32))).toNatClampNeg), .int (1 : Int32), .int (sc.2 ((x3 + (1 : Int32))).toNatClampNeg), .ref 55, .int r2]) (h' := hpS s1) rfl ?_
        obtain ⟨hin, k⟩ := k
        refine Ex.nx hq rfl (L' := [.float 0, .ref 0, .ref 55, .int x3]) (S' := [.int (sc.2 ((x3 + (4 : Int32))).toNatClampNeg), .int (sc.2 ((x3 + (3 : Int32))).toNatClampNeg), .int (1 : Int32), .int (sc.2 ((x3 + (1 : Int32))).toNatClampNeg), .ref 55, .int r2]) (h' := hpS s1) (by simp only [stp, pial, hin, if_true]) ?_
        refine Ex.i1 hq rfl (fun c => ?_) (fun c => ?_)
        · have k := k.1 c
          refine Ex.seg hq 1 (j := 845) (L' := [.float 0, .ref 0, .ref 55, .int x3]) (S' := [.int (0 : Int32), .int (sc.2 ((x3 + (3 : Int32))).toNatClampNeg), .int (1 : Int32), .int (sc.2 ((x3 + (1 : Int32))).toNatClampNeg), .ref 55, .int r2]) (h' := hpS s1) rfl ?_
          refine Ex.cl hq rfl rfl ?_
          refine Rn.mono (q_267 (d := d + 65) (sc.2 ((x3 + (1 : Int32))).toNatClampNeg) (1 : Int32) (sc.2 ((x3 + (3 : Int32))).toNatClampNeg) (0 : Int32) s1 k) ?_
          rintro _ _ ⟨r8, s7, rfl, rfl, k⟩
          show Ex sc (d + 67) 309 846 [.float 0, .ref 0, .ref 55, .int x3] [.int r8, .int r2] (hpS s7) _
          refine Ex.i2 hq rfl (fun c => ?_) (fun c => ?_)
          · have k := k.1 c
            exact hX1150 x3 s7 k
          · have k := k.2 c
            refine Ex.seg hq 1 (j := 848) (L' := [.float 0, .ref 0, .ref 55, .int x3]) (S' := [.int (0 : Int32)]) (h' := hpS s7) rfl ?_
            exact Ex.zr hq rfl rfl (Or.inl rfl) ⟨(0 : Int32), s7, rfl, (Or.inl rfl), rfl, k⟩
        · have k := k.2 c
          refine Ex.seg hq 2 (j := 845) (L' := [.float 0, .ref 0, .ref 55, .int x3]) (S' := [.int (1 : Int32), .int (sc.2 ((x3 + (3 : Int32))).toNatClampNeg), .int (1 : Int32), .int (sc.2 ((x3 + (1 : Int32))).toNatClampNeg), .ref 55, .int r2]) (h' := hpS s1) rfl ?_
          refine Ex.cl hq rfl rfl ?_
          refine Rn.mono (q_267 (d := d + 65) (sc.2 ((x3 + (1 : Int32))).toNatClampNeg) (1 : Int32) (sc.2 ((x3 + (3 : Int32))).toNatClampNeg) (1 : Int32) s1 k) ?_
          rintro _ _ ⟨r10, s9, rfl, rfl, k⟩
          show Ex sc (d + 67) 309 846 [.float 0, .ref 0, .ref 55, .int x3] [.int r10, .int r2] (hpS s9) _
          refine Ex.i2 hq rfl (fun c => ?_) (fun c => ?_)
          · have k := k.1 c
            exact hX1150 x3 s9 k
          · have k := k.2 c
            refine Ex.seg hq 1 (j := 848) (L' := [.float 0, .ref 0, .ref 55, .int x3]) (S' := [.int (0 : Int32)]) (h' := hpS s9) rfl ?_
            exact Ex.zr hq rfl rfl (Or.inl rfl) ⟨(0 : Int32), s9, rfl, (Or.inl rfl), rfl, k⟩
    · have k := k.2 c
      refine Ex.seg hq 2 (j := 815) (L' := [.float 0, .ref 0, .ref 55, .int x3]) (S' := [.int (1 : Int32), .int (sc.2 ((x3 + (3 : Int32))).toNatClampNeg), .int (0 : Int32), .int (sc.2 ((x3 + (1 : Int32))).toNatClampNeg), .ref 0]) (h' := hpS s) rfl ?_
      refine Ex.cl hq rfl rfl ?_
      refine Rn.mono (q_160 (d := d + 63) (sc.2 ((x3 + (1 : Int32))).toNatClampNeg) (0 : Int32) (sc.2 ((x3 + (3 : Int32))).toNatClampNeg) (1 : Int32) s k) ?_
      rintro _ _ ⟨r12, s11, rfl, rfl, k⟩
      show Ex sc (d + 67) 309 816 [.float 0, .ref 0, .ref 55, .int x3] [.int r12] (hpS s11) _
      refine Ex.seg hq 5 (j := 821) (L' := [.float 0, .ref 0, .ref 55, .int x3]) (S' := [.int (x3 + (1 : Int32)), .float 0, .ref 55, .int r12]) (h' := hpS s11) rfl ?_
      obtain ⟨hin, k⟩ := k
      refine Ex.nx hq rfl (L' := [.float 0, .ref 0, .ref 55, .int x3]) (S' := [.int (sc.2 ((x3 + (1 : Int32))).toNatClampNeg), .ref 55, .int r12]) (h' := hpS s11) (by simp only [stp, pial, hin, if_true]) ?_
      refine Ex.seg hq 4 (j := 826) (L' := [.float 0, .ref 0, .ref 55, .int x3]) (S' := [.int (x3 + (2 : Int32)), .float 0, .int (sc.2 ((x3 + (1 : Int32))).toNatClampNeg), .ref 55, .int r12]) (h' := hpS s11) rfl ?_
      obtain ⟨hin, k⟩ := k
      refine Ex.nx hq rfl (L' := [.float 0, .ref 0, .ref 55, .int x3]) (S' := [.int (sc.2 ((x3 + (2 : Int32))).toNatClampNeg), .int (sc.2 ((x3 + (1 : Int32))).toNatClampNeg), .ref 55, .int r12]) (h' := hpS s11) (by simp only [stp, pial, hin, if_true]) ?_
      refine Ex.i1 hq rfl (fun c => ?_) (fun c => ?_)
      · have k := k.1 c
        refine Ex.seg hq 5 (j := 835) (L' := [.float 0, .ref 0, .ref 55, .int x3]) (S' := [.int (x3 + (3 : Int32)), .float 0, .int (0 : Int32), .int (sc.2 ((x3 + (1 : Int32))).toNatClampNeg), .ref 55, .int r12]) (h' := hpS s11) rfl ?_
        obtain ⟨hin, k⟩ := k
        refine Ex.nx hq rfl (L' := [.float 0, .ref 0, .ref 55, .int x3]) (S' := [.int (sc.2 ((x3 + (3 : Int32))).toNatClampNeg), .int (0 : Int32), .int (sc.2 ((x3 + (1 : Int32))).toNatClampNeg), .ref 55, .int r12]) (h' := hpS s11) (by simp only [stp, pial, hin, if_true]) ?_
        refine Ex.seg hq 4 (j := 840) (L' := [.float 0, .ref 0, .ref 55, .int x3]) (S' := [.int (x3 + (4 : Int32)), .float 0, .int (sc.2 ((x3 + (3 : Int32))).toNatClampNeg), .int (0 : Int32), .int (sc.2 ((x3 + (1 : Int32))).toNatClampNeg), .ref 55, .int r12]) (h' := hpS s11) rfl ?_
        obtain ⟨hin, k⟩ := k
        refine Ex.nx hq rfl (L' := [.float 0, .ref 0, .ref 55, .int x3]) (S' := [.int (sc.2 ((x3 + (4 : Int32))).toNatClampNeg), .int (sc.2 ((x3 + (3 : Int32))).toNatClampNeg), .int (0 : Int32), .int (sc.2 ((x3 + (1 : Int32))).toNatClampNeg), .ref 55, .int r12]) (h' := hpS s11) (by simp only [stp, pial, hin, if_true]) ?_
        refine Ex.i1 hq rfl (fun c => ?_) (fun c => ?_)
        · have k := k.1 c
          refine Ex.seg hq 1 (j := 845) (L' := [.float 0, .ref 0, .ref 55, .int x3]) (S' := [.int (0 : Int32), .int (sc.2 ((x3 + (3 : Int32))).toNatClampNeg), .int (0 : Int32), .int (sc.2 ((x3 + (1 : Int32))).toNatClampNeg), .ref 55, .int r12]) (h' := hpS s11) rfl ?_
          refine Ex.cl hq rfl rfl ?_
          refine Rn.mono (q_267 (d := d + 65) (sc.2 ((x3 + (1 : Int32))).toNatClampNeg) (0 : Int32) (sc.2 ((x3 + (3 : Int32))).toNatClampNeg) (0 : Int32) s11 k) ?_
          rintro _ _ ⟨r14, s13, rfl, rfl, k⟩
          show Ex sc (d + 67) 309 846 [.float 0, .ref 0, .ref 55, .int x3] [.int r14, .int r12] (hpS s13) _
          refine Ex.i2 hq rfl (fun c => ?_) (fun c => ?_)
          · have k := k.1 c
            exact hX1150 x3 s13 k
          · have k := k.2 c
            refine Ex.seg hq 1 (j := 848) (L' := [.float 0, .ref 0, .ref 55, .int x3]) (S' := [.int (0 : Int32)]) (h' := hpS s13) rfl ?_
            exact Ex.zr hq rfl rfl (Or.inl rfl) ⟨(0 : Int32), s13, rfl, (Or.inl rfl), rfl, k⟩
        · have k := k.2 c
          refine Ex.seg hq 2 (j := 845) (L' := [.float 0, .ref 0, .ref 55, .int x3]) (S' := [.int (1 : Int32), .int (sc.2 ((x3 + (3 : Int32))).toNatClampNeg), .int (0 : Int32), .int (sc.2 ((x3 + (1 : Int32))).toNatClampNeg), .ref 55, .int r12]) (h' := hpS s11) rfl ?_
          refine Ex.cl hq rfl rfl ?_
          refine Rn.mono (q_267 (d := d + 65) (sc.2 ((x3 + (1 : Int32))).toNatClampNeg) (0 : Int32) (sc.2 ((x3 + (3 : Int32))).toNatClampNeg) (1 : Int32) s11 k) ?_
          rintro _ _ ⟨r16, s15, rfl, rfl, k⟩
          show Ex sc (d + 67) 309 846 [.float 0, .ref 0, .ref 55, .int x3] [.int r16, .int r12] (hpS s15) _
          refine Ex.i2 hq rfl (fun c => ?_) (fun c => ?_)
          · have k := k.1 c
            exact hX1150 x3 s15 k
          · have k := k.2 c
            refine Ex.seg hq 1 (j := 848) (L' := [.float 0, .ref 0, .ref 55, .int x3]) (S' := [.int (0 : Int32)]) (h' := hpS s15) rfl ?_
            exact Ex.zr hq rfl rfl (Or.inl rfl) ⟨(0 : Int32), s15, rfl, (Or.inl rfl), rfl, k⟩
      · have k := k.2 c
        refine Ex.seg hq 6 (j := 835) (L' := [.float 0, .ref 0, .ref 55, .int x3]) (S' := [.int (x3 + (3 : Int32)), .float 0, .int (1 : Int32), .int (sc.2 ((x3 + (1 : Int32))).toNatClampNeg), .ref 55, .int r12]) (h' := hpS s11) rfl ?_
        obtain ⟨hin, k⟩ := k
        refine Ex.nx hq rfl (L' := [.float 0, .ref 0, .ref 55, .int x3]) (S' := [.int (sc.2 ((x3 + (3 : Int32))).toNatClampNeg), .int (1 : Int32), .int (sc.2 ((x3 + (1 : Int32))).toNatClampNeg), .ref 55, .int r12]) (h' := hpS s11) (by simp only [stp, pial, hin, if_true]) ?_
        refine Ex.seg hq 4 (j := 840) (L' := [.float 0, .ref 0, .ref 55, .int x3]) (S' := [.int (x3 + (4 : Int32)), .float 0, .int (sc.2 ((x3 + (3 : Int32))).toNatClampNeg), .int (1 : Int32), .int (sc.2 ((x3 + (1 : Int32))).toNatClampNeg), .ref 55, .int r12]) (h' := hpS s11) rfl ?_
        obtain ⟨hin, k⟩ := k
        refine Ex.nx hq rfl (L' := [.float 0, .ref 0, .ref 55, .int x3]) (S' := [.int (sc.2 ((x3 + (4 : Int32))).toNatClampNeg), .int (sc.2 ((x3 + (3 : Int32))).toNatClampNeg), .int (1 : Int32), .int (sc.2 ((x3 + (1 : Int32))).toNatClampNeg), .ref 55, .int r12]) (h' := hpS s11) (by simp only [stp, pial, hin, if_true]) ?_
        refine Ex.i1 hq rfl (fun c => ?_) (fun c => ?_)
        · have k := k.1 c
          refine Ex.seg hq 1 (j := 845) (L' := [.float 0, .ref 0, .ref 55, .int x3]) (S' := [.int (0 : Int32), .int (sc.2 ((x3 + (3 : Int32))).toNatClampNeg), .int (1 : Int32), .int (sc.2 ((x3 + (1 : Int32))).toNatClampNeg), .ref 55, .int r12]) (h' := hpS s11) rfl ?_
          refine Ex.cl hq rfl rfl ?_
          refine Rn.mono (q_267 (d := d + 65) (sc.2 ((x3 + (1 : Int32))).toNatClampNeg) (1 : Int32) (sc.2 ((x3 + (3 : Int32))).toNatClampNeg) (0 : Int32) s11 k) ?_
          rintro _ _ ⟨r18, s17, rfl, rfl, k⟩
          show Ex sc (d + 67) 309 846 [.float 0, .ref 0, .ref 55, .int x3] [.int r18, .int r12] (hpS s17) _
          refine Ex.i2 hq rfl (fun c => ?_) (fun c => ?_)
          · have k := k.1 c
            exact hX1150 x3 s17 k
          · have k := k.2 c
            refine Ex.seg hq 1 (j := 848) (L' := [.float 0, .ref 0, .ref 55, .int x3]) (S' := [.int (0 : Int32)]) (h' := hpS s17) rfl ?_
            exact Ex.zr hq rfl rfl (Or.inl rfl) ⟨(0 : Int32), s17, rfl, (Or.inl rfl), rfl, k⟩
        · have k := k.2 c
          refine Ex.seg hq 2 (j := 845) (L' := [.float 0, .ref 0, .ref 55, .int x3]) (S' := [.int (1 : Int32), .int (sc.2 ((x3 + (3 : Int32))).toNatClampNeg), .int (1 : Int32), .int (sc.2 ((x3 + (1 : Int32))).toNatClampNeg), .ref 55, .int r12]) (h' := hpS s11) rfl ?_
          refine Ex.cl hq rfl rfl ?_
          refine Rn.mono (q_267 (d := d + 65) (sc.2 ((x3 + (1 : Int32))).toNatClampNeg) (1 : Int32) (sc.2 ((x3 + (3 : Int32))).toNatClampNeg) (1 : Int32) s11 k) ?_
          rintro _ _ ⟨r20, s19, rfl, rfl, k⟩
          show Ex sc (d + 67) 309 846 [.float 0, .ref 0, .ref 55, .int x3] [.int r20, .int r12] (hpS s19) _
          refine Ex.i2 hq rfl (fun c => ?_) (fun c => ?_)
          · have k := k.1 c
            exact hX1150 x3 s19 k
          · have k := k.2 c
            refine Ex.seg hq 1 (j := 848) (L' := [.float 0, .ref 0, .ref 55, .int x3]) (S' := [.int (0 : Int32)]) (h' := hpS s19) rfl ?_
            exact Ex.zr hq rfl rfl (Or.inl rfl) ⟨(0 : Int32), s19, rfl, (Or.inl rfl), rfl, k⟩
  · have k := k.2 c
    refine Ex.seg hq 6 (j := 805) (L' := [.float 0, .ref 0, .ref 55, .int x3]) (S' := [.int (x3 + (3 : Int32)), .float 0, .int (1 : Int32), .int (sc.2 ((x3 + (1 : Int32))).toNatClampNeg), .ref 0]) (h' := hpS s) rfl ?_
    obtain ⟨hin, k⟩ := k
    refine Ex.nx hq rfl (L' := [.float 0, .ref 0, .ref 55, .int x3]) (S' := [.int (sc.2 ((x3 + (3 : Int32))).toNatClampNeg), .int (1 : Int32), .int (sc.2 ((x3 + (1 : Int32))).toNatClampNeg), .ref 0]) (h' := hpS s) (by simp only [stp, pial, hin, if_true]) ?_
    refine Ex.seg hq 4 (j := 810) (L' := [.float 0, .ref 0, .ref 55, .int x3]) (S' := [.int (x3 + (4 : Int32)), .float 0, .int (sc.2 ((x3 + (3 : Int32))).toNatClampNeg), .int (1 : Int32), .int (sc.2 ((x3 + (1 : Int32))).toNatClampNeg), .ref 0]) (h' := hpS s) rfl ?_
    obtain ⟨hin, k⟩ := k
    refine Ex.nx hq rfl (L' := [.float 0, .ref 0, .ref 55, .int x3]) (S' := [.int (sc.2 ((x3 + (4 : Int32))).toNatClampNeg), .int (sc.2 ((x3 + (3 : Int32))).toNatClampNeg), .int (1 : Int32), .int (sc.2 ((x3 + (1 : Int32))).toNatClampNeg), .ref 0]) (h' := hpS s) (by simp only [stp, pial, hin, if_true]) ?_
    refine Ex.i1 hq rfl (fun c => ?_) (fun c => ?_)
    · have k := k.1 c
      refine Ex.seg hq 1 (j := 815) (L' := [.float 0, .ref 0, .ref 55, .int x3]) (S' := [.int (0 : Int32), .int (sc.2 ((x3 + (3 : Int32))).toNatClampNeg), .int (1 : Int32), .int (sc.2 ((x3 + (1 : Int32))).toNatClampNeg), .ref 0]) (h' := hpS s) rfl ?_
      refine Ex.cl hq rfl rfl ?_
      refine Rn.mono (q_160 (d := d + 63) (sc.2 ((x3 + (1 : Int32))).toNatClampNeg) (1 : Int32) (sc.2 ((x3 + (3 : Int32))).toNatClampNeg) (0 : Int32) s k) ?_
      rintro _ _ ⟨r22, s21, rfl, rfl, k⟩
      show Ex sc (d + 67) 309 816 [.float 0, .ref 0, .ref 55, .int x3] [.int r22] (hpS s21) _
      refine Ex.seg hq 5 (j := 821) (L' := [.float 0, .ref 0, .ref 55, .int x3]) (S' := [.int (x3 + (1 : Int32)), .float 0, .ref 55, .int r22]) (h' := hpS s21) rfl ?_
      obtain ⟨hin, k⟩ := k
      refine Ex.nx hq rfl (L' := [.float 0, .ref 0, .ref 55, .int x3]) (S' := [.int (sc.2 ((x3 + (1 : Int32))).toNatClampNeg), .ref 55, .int r22]) (h' := hpS s21) (by simp only [stp, pial, hin, if_true]) ?_
      refine Ex.seg hq 4 (j := 826) (L' := [.float 0, .ref 0, .ref 55, .int x3]) (S' := [.int (x3 + (2 : Int32)), .float 0, .int (sc.2 ((x3 + (1 : Int32))).toNatClampNeg), .ref 55, .int r22]) (h' := hpS s21) rfl ?_
      obtain ⟨hin, k⟩ := k
      refine Ex.nx hq rfl (L' := [.float 0, .ref 0, .ref 55, .int x3]) (S' := [.int (sc.2 ((x3 + (2 : Int32))).toNatClampNeg), .int (sc.2 ((x3 + (1 : Int32))).toNatClampNeg), .ref 55, .int r22]) (h' := hpS s21) (by simp only [stp, pial, hin, if_true]) ?_
      refine Ex.i1 hq rfl (fun c => ?_) (fun c => ?_)
      · have k := k.1 c
        refine Ex.seg hq 5 (j := 835) (L' := [.float 0, .ref 0, .ref 55, .int x3]) (S' := [.int (x3 + (3 : Int32)), .float 0, .int (0 : Int32), .int (sc.2 ((x3 + (1 : Int32))).toNatClampNeg), .ref 55, .int r22]) (h' := hpS s21) rfl ?_
        obtain ⟨hin, k⟩ := k
        refine Ex.nx hq rfl (L' := [.float 0, .ref 0, .ref 55, .int x3]) (S' := [.int (sc.2 ((x3 + (3 : Int32))).toNatClampNeg), .int (0 : Int32), .int (sc.2 ((x3 + (1 : Int32))).toNatClampNeg), .ref 55, .int r22]) (h' := hpS s21) (by simp only [stp, pial, hin, if_true]) ?_
        refine Ex.seg hq 4 (j := 840) (L' := [.float 0, .ref 0, .ref 55, .int x3]) (S' := [.int (x3 + (4 : Int32)), .float 0, .int (sc.2 ((x3 + (3 : Int32))).toNatClampNeg), .int (0 : Int32), .int (sc.2 ((x3 + (1 : Int32))).toNatClampNeg), .ref 55, .int r22]) (h' := hpS s21) rfl ?_
        obtain ⟨hin, k⟩ := k
        refine Ex.nx hq rfl (L' := [.float 0, .ref 0, .ref 55, .int x3]) (S' := [.int (sc.2 ((x3 + (4 : Int32))).toNatClampNeg), .int (sc.2 ((x3 + (3 : Int32))).toNatClampNeg), .int (0 : Int32), .int (sc.2 ((x3 + (1 : Int32))).toNatClampNeg), .ref 55, .int r22]) (h' := hpS s21) (by simp only [stp, pial, hin, if_true]) ?_
        refine Ex.i1 hq rfl (fun c => ?_) (fun c => ?_)
        · have k := k.1 c
          refine Ex.seg hq 1 (j := 845) (L' := [.float 0, .ref 0, .ref 55, .int x3]) (S' := [.int (0 : Int32), .int (sc.2 ((x3 + (3 : Int32))).toNatClampNeg), .int (0 : Int32), .int (sc.2 ((x3 + (1 : Int32))).toNatClampNeg), .ref 55, .int r22]) (h' := hpS s21) rfl ?_
          refine Ex.cl hq rfl rfl ?_
          refine Rn.mono (q_267 (d := d + 65) (sc.2 ((x3 + (1 : Int32))).toNatClampNeg) (0 : Int32) (sc.2 ((x3 + (3 : Int32))).toNatClampNeg) (0 : Int32) s21 k) ?_
          rintro _ _ ⟨r24, s23, rfl, rfl, k⟩
          show Ex sc (d + 67) 309 846 [.float 0, .ref 0, .ref 55, .int x3] [.int r24, .int r22] (hpS s23) _
          refine Ex.i2 hq rfl (fun c => ?_) (fun c => ?_)
          · have k := k.1 c
            exact hX1150 x3 s23 k
          · have k := k.2 c
            refine Ex.seg hq 1 (j := 848) (L' := [.float 0, .ref 0, .ref 55, .int x3]) (S' := [.int (0 : Int32)]) (h' := hpS s23) rfl ?_
            exact Ex.zr hq rfl rfl (Or.inl rfl) ⟨(0 : Int32), s23, rfl, (Or.inl rfl), rfl, k⟩
        · have k := k.2 c
          refine Ex.seg hq 2 (j := 845) (L' := [.float 0, .ref 0, .ref 55, .int x3]) (S' := [.int (1 : Int32), .int (sc.2 ((x3 + (3 : Int32))).toNatClampNeg), .int (0 : Int32), .int (sc.2 ((x3 + (1 : Int32))).toNatClampNeg), .ref 55, .int r22]) (h' := hpS s21) rfl ?_
          refine Ex.cl hq rfl rfl ?_
          refine Rn.mono (q_267 (d := d + 65) (sc.2 ((x3 + (1 : Int32))).toNatClampNeg) (0 : Int32) (sc.2 ((x3 + (3 : Int32))).toNatClampNeg) (1 : Int32) s21 k) ?_
          rintro _ _ ⟨r26, s25, rfl, rfl, k⟩
          show Ex sc (d + 67) 309 846 [.float 0, .ref 0, .ref 55, .int x3] [.int r26, .int r22] (hpS s25) _
          refine Ex.i2 hq rfl (fun c => ?_) (fun c => ?_)
          · have k := k.1 c
            exact hX1150 x3 s25 k
          · have k := k.2 c
            refine Ex.seg hq 1 (j := 848) (L' := [.float 0, .ref 0, .ref 55, .int x3]) (S' := [.int (0 : Int32)]) (h' := hpS s25) rfl ?_
            exact Ex.zr hq rfl rfl (Or.inl rfl) ⟨(0 : Int32), s25, rfl, (Or.inl rfl), rfl, k⟩
      · have k := k.2 c
        refine Ex.seg hq 6 (j := 835) (L' := [.float 0, .ref 0, .ref 55, .int x3]) (S' := [.int (x3 + (3 : Int32)), .float 0, .int (1 : Int32), .int (sc.2 ((x3 + (1 : Int32))).toNatClampNeg), .ref 55, .int r22]) (h' := hpS s21) rfl ?_
        obtain ⟨hin, k⟩ := k
        refine Ex.nx hq rfl (L' := [.float 0, .ref 0, .ref 55, .int x3]) (S' := [.int (sc.2 ((x3 + (3 : Int32))).toNatClampNeg), .int (1 : Int32), .int (sc.2 ((x3 + (1 : Int32))).toNatClampNeg), .ref 55, .int r22]) (h' := hpS s21) (by simp only [stp, pial, hin, if_true]) ?_
        refine Ex.seg hq 4 (j := 840) (L' := [.float 0, .ref 0, .ref 55, .int x3]) (S' := [.int (x3 + (4 : Int32)), .float 0, .int (sc.2 ((x3 + (3 : Int32))).toNatClampNeg), .int (1 : Int32), .int (sc.2 ((x3 + (1 : Int32))).toNatClampNeg), .ref 55, .int r22]) (h' := hpS s21) rfl ?_
        obtain ⟨hin, k⟩ := k
        refine Ex.nx hq rfl (L' := [.float 0, .ref 0, .ref 55, .int x3]) (S' := [.int (sc.2 ((x3 + (4 : Int32))).toNatClampNeg), .int (sc.2 ((x3 + (3 : Int32))).toNatClampNeg), .int (1 : Int32), .int (sc.2 ((x3 + (1 : Int32))).toNatClampNeg), .ref 55, .int r22]) (h' := hpS s21) (by simp only [stp, pial, hin, if_true]) ?_
        refine Ex.i1 hq rfl (fun c => ?_) (fun c => ?_)
        · have k := k.1 c
          refine Ex.seg hq 1 (j := 845) (L' := [.float 0, .ref 0, .ref 55, .int x3]) (S' := [.int (0 : Int32), .int (sc.2 ((x3 + (3 : Int32))).toNatClampNeg), .int (1 : Int32), .int (sc.2 ((x3 + (1 : Int32))).toNatClampNeg), .ref 55, .int r22]) (h' := hpS s21) rfl ?_
          refine Ex.cl hq rfl rfl ?_
          refine Rn.mono (q_267 (d := d + 65) (sc.2 ((x3 + (1 : Int32))).toNatClampNeg) (1 : Int32) (sc.2 ((x3 + (3 : Int32))).toNatClampNeg) (0 : Int32) s21 k) ?_
          rintro _ _ ⟨r28, s27, rfl, rfl, k⟩
          show Ex sc (d + 67) 309 846 [.float 0, .ref 0, .ref 55, .int x3] [.int r28, .int r22] (hpS s27) _
          refine Ex.i2 hq rfl (fun c => ?_) (fun c => ?_)
          · have k := k.1 c
            exact hX1150 x3 s27 k
          · have k := k.2 c
            refine Ex.seg hq 1 (j := 848) (L' := [.float 0, .ref 0, .ref 55, .int x3]) (S' := [.int (0 : Int32)]) (h' := hpS s27) rfl ?_
            exact Ex.zr hq rfl rfl (Or.inl rfl) ⟨(0 : Int32), s27, rfl, (Or.inl rfl), rfl, k⟩
        · have k := k.2 c
          refine Ex.seg hq 2 (j := 845) (L' := [.float 0, .ref 0, .ref 55, .int x3]) (S' := [.int (1 : Int32), .int (sc.2 ((x3 + (3 : Int32))).toNatClampNeg), .int (1 : Int32), .int (sc.2 ((x3 + (1 : Int32))).toNatClampNeg), .ref 55, .int r22]) (h' := hpS s21) rfl ?_
          refine Ex.cl hq rfl rfl ?_
          refine Rn.mono (q_267 (d := d + 65) (sc.2 ((x3 + (1 : Int32))).toNatClampNeg) (1 : Int32) (sc.2 ((x3 + (3 : Int32))).toNatClampNeg) (1 : Int32) s21 k) ?_
          rintro _ _ ⟨r30, s29, rfl, rfl, k⟩
          show Ex sc (d + 67) 309 846 [.float 0, .ref 0, .ref 55, .int x3] [.int r30, .int r22] (hpS s29) _
          refine Ex.i2 hq rfl (fun c => ?_) (fun c => ?_)
          · have k := k.1 c
            exact hX1150 x3 s29 k
          · have k := k.2 c
            refine Ex.seg hq 1 (j := 848) (L' := [.float 0, .ref 0, .ref 55, .int x3]) (S' := [.int (0 : Int32)]) (h' := hpS s29) rfl ?_
            exact Ex.zr hq rfl rfl (Or.inl rfl) ⟨(0 : Int32), s29, rfl, (Or.inl rfl), rfl, k⟩
    · have k := k.2 c
      refine Ex.seg hq 2 (j := 815) (L' := [.float 0, .ref 0, .ref 55, .int x3]) (S' := [.int (1 : Int32), .int (sc.2 ((x3 + (3 : Int32))).toNatClampNeg), .int (1 : Int32), .int (sc.2 ((x3 + (1 : Int32))).toNatClampNeg), .ref 0]) (h' := hpS s) rfl ?_
      refine Ex.cl hq rfl rfl ?_
      refine Rn.mono (q_160 (d := d + 63) (sc.2 ((x3 + (1 : Int32))).toNatClampNeg) (1 : Int32) (sc.2 ((x3 + (3 : Int32))).toNatClampNeg) (1 : Int32) s k) ?_
      rintro _ _ ⟨r32, s31, rfl, rfl, k⟩
      show Ex sc (d + 67) 309 816 [.float 0, .ref 0, .ref 55, .int x3] [.int r32] (hpS s31) _
      refine Ex.seg hq 5 (j := 821) (L' := [.float 0, .ref 0, .ref 55, .int x3]) (S' := [.int (x3 + (1 : Int32)), .float 0, .ref 55, .int r32]) (h' := hpS s31) rfl ?_
      obtain ⟨hin, k⟩ := k
      refine Ex.nx hq rfl (L' := [.float 0, .ref 0, .ref 55, .int x3]) (S' := [.int (sc.2 ((x3 + (1 : Int32))).toNatClampNeg), .ref 55, .int r32]) (h' := hpS s31) (by simp only [stp, pial, hin, if_true]) ?_
      refine Ex.seg hq 4 (j := 826) (L' := [.float 0, .ref 0, .ref 55, .int x3]) (S' := [.int (x3 + (2 : Int32)), .float 0, .int (sc.2 ((x3 + (1 : Int32))).toNatClampNeg), .ref 55, .int r32]) (h' := hpS s31) rfl ?_
      obtain ⟨hin, k⟩ := k
      refine Ex.nx hq rfl (L' := [.float 0, .ref 0, .ref 55, .int x3]) (S' := [.int (sc.2 ((x3 + (2 : Int32))).toNatClampNeg), .int (sc.2 ((x3 + (1 : Int32))).toNatClampNeg), .ref 55, .int r32]) (h' := hpS s31) (by simp only [stp, pial, hin, if_true]) ?_
      refine Ex.i1 hq rfl (fun c => ?_) (fun c => ?_)
      · have k := k.1 c
        refine Ex.seg hq 5 (j := 835) (L' := [.float 0, .ref 0, .ref 55, .int x3]) (S' := [.int (x3 + (3 : Int32)), .float 0, .int (0 : Int32), .int (sc.2 ((x3 + (1 : Int32))).toNatClampNeg), .ref 55, .int r32]) (h' := hpS s31) rfl ?_
        obtain ⟨hin, k⟩ := k
        refine Ex.nx hq rfl (L' := [.float 0, .ref 0, .ref 55, .int x3]) (S' := [.int (sc.2 ((x3 + (3 : Int32))).toNatClampNeg), .int (0 : Int32), .int (sc.2 ((x3 + (1 : Int32))).toNatClampNeg), .ref 55, .int r32]) (h' := hpS s31) (by simp only [stp, pial, hin, if_true]) ?_
        refine Ex.seg hq 4 (j := 840) (L' := [.float 0, .ref 0, .ref 55, .int x3]) (S' := [.int (x3 + (4 : Int32)), .float 0, .int (sc.2 ((x3 + (3 : Int32))).toNatClampNeg), .int (0 : Int32), .int (sc.2 ((x3 + (1 : Int32))).toNatClampNeg), .ref 55, .int r32]) (h' := hpS s31) rfl ?_
        obtain ⟨hin, k⟩ := k
        refine Ex.nx hq rfl (L' := [.float 0, .ref 0, .ref 55, .int x3]) (S' := [.int (sc.2 ((x3 + (4 : Int32))).toNatClampNeg), .int (sc.2 ((x3 + (3 : Int32))).toNatClampNeg), .int (0 : Int32), .int (sc.2 ((x3 + (1 : Int32))).toNatClampNeg), .ref 55, .int r32]) (h' := hpS s31) (by simp only [stp, pial, hin, if_true]) ?_
        refine Ex.i1 hq rfl (fun c => ?_) (fun c => ?_)
        · have k := k.1 c
          refine Ex.seg hq 1 (j := 845) (L' := [.float 0, .ref 0, .ref 55, .int x3]) (S' := [.int (0 : Int32), .int (sc.2 ((x3 + (3 : Int32))).toNatClampNeg), .int (0 : Int32), .int (sc.2 ((x3 + (1 : Int32))).toNatClampNeg), .ref 55, .int r32]) (h' := hpS s31) rfl ?_
          refine Ex.cl hq rfl rfl ?_
          refine Rn.mono (q_267 (d := d + 65) (sc.2 ((x3 + (1 : Int32))).toNatClampNeg) (0 : Int32) (sc.2 ((x3 + (3 : Int32))).toNatClampNeg) (0 : Int32) s31 k) ?_
          rintro _ _ ⟨r34, s33, rfl, rfl, k⟩
          show Ex sc (d + 67) 309 846 [.float 0, .ref 0, .ref 55, .int x3] [.int r34, .int r32] (hpS s33) _
          refine Ex.i2 hq rfl (fun c => ?_) (fun c => ?_)
          · have k := k.1 c
            exact hX1150 x3 s33 k
          · have k := k.2 c
            refine Ex.seg hq 1 (j := 848) (L' := [.float 0, .ref 0, .ref 55, .int x3]) (S' := [.int (0 : Int32)]) (h' := hpS s33) rfl ?_
            exact Ex.zr hq rfl rfl (Or.inl rfl) ⟨(0 : Int32), s33, rfl, (Or.inl rfl), rfl, k⟩
        · have k := k.2 c
          refine Ex.seg hq 2 (j := 845) (L' := [.float 0, .ref 0, .ref 55, .int x3]) (S' := [.int (1 : Int32), .int (sc.2 ((x3 + (3 : Int32))).toNatClampNeg), .int (0 : Int32), .int (sc.2 ((x3 + (1 : Int32))).toNatClampNeg), .ref 55, .int r32]) (h' := hpS s31) rfl ?_
          refine Ex.cl hq rfl rfl ?_
          refine Rn.mono (q_267 (d := d + 65) (sc.2 ((x3 + (1 : Int32))).toNatClampNeg) (0 : Int32) (sc.2 ((x3 + (3 : Int32))).toNatClampNeg) (1 : Int32) s31 k) ?_
          rintro _ _ ⟨r36, s35, rfl, rfl, k⟩
          show Ex sc (d + 67) 309 846 [.float 0, .ref 0, .ref 55, .int x3] [.int r36, .int r32] (hpS s35) _
          refine Ex.i2 hq rfl (fun c => ?_) (fun c => ?_)
          · have k := k.1 c
            exact hX1150 x3 s35 k
          · have k := k.2 c
            refine Ex.seg hq 1 (j := 848) (L' := [.float 0, .ref 0, .ref 55, .int x3]) (S' := [.int (0 : Int32)]) (h' := hpS s35) rfl ?_
            exact Ex.zr hq rfl rfl (Or.inl rfl) ⟨(0 : Int32), s35, rfl, (Or.inl rfl), rfl, k⟩
      · have k := k.2 c
        refine Ex.seg hq 6 (j := 835) (L' := [.float 0, .ref 0, .ref 55, .int x3]) (S' := [.int (x3 + (3 : Int32)), .float 0, .int (1 : Int32), .int (sc.2 ((x3 + (1 : Int32))).toNatClampNeg), .ref 55, .int r32]) (h' := hpS s31) rfl ?_
        obtain ⟨hin, k⟩ := k
        refine Ex.nx hq rfl (L' := [.float 0, .ref 0, .ref 55, .int x3]) (S' := [.int (sc.2 ((x3 + (3 : Int32))).toNatClampNeg), .int (1 : Int32), .int (sc.2 ((x3 + (1 : Int32))).toNatClampNeg), .ref 55, .int r32]) (h' := hpS s31) (by simp only [stp, pial, hin, if_true]) ?_
        refine Ex.seg hq 4 (j := 840) (L' := [.float 0, .ref 0, .ref 55, .int x3]) (S' := [.int (x3 + (4 : Int32)), .float 0, .int (sc.2 ((x3 + (3 : Int32))).toNatClampNeg), .int (1 : Int32), .int (sc.2 ((x3 + (1 : Int32))).toNatClampNeg), .ref 55, .int r32]) (h' := hpS s31) rfl ?_
        obtain ⟨hin, k⟩ := k
        refine Ex.nx hq rfl (L' := [.float 0, .ref 0, .ref 55, .int x3]) (S' := [.int (sc.2 ((x3 + (4 : Int32))).toNatClampNeg), .int (sc.2 ((x3 + (3 : Int32))).toNatClampNeg), .int (1 : Int32), .int (sc.2 ((x3 + (1 : Int32))).toNatClampNeg), .ref 55, .int r32]) (h' := hpS s31) (by simp only [stp, pial, hin, if_true]) ?_
        refine Ex.i1 hq rfl (fun c => ?_) (fun c => ?_)
        · have k := k.1 c
          refine Ex.seg hq 1 (j := 845) (L' := [.float 0, .ref 0, .ref 55, .int x3]) (S' := [.int (0 : Int32), .int (sc.2 ((x3 + (3 : Int32))).toNatClampNeg), .int (1 : Int32), .int (sc.2 ((x3 + (1 : Int32))).toNatClampNeg), .ref 55, .int r32]) (h' := hpS s31) rfl ?_
          refine Ex.cl hq rfl rfl ?_
          refine Rn.mono (q_267 (d := d + 65) (sc.2 ((x3 + (1 : Int32))).toNatClampNeg) (1 : Int32) (sc.2 ((x3 + (3 : Int32))).toNatClampNeg) (0 : Int32) s31 k) ?_
          rintro _ _ ⟨r38, s37, rfl, rfl, k⟩
          show Ex sc (d + 67) 309 846 [.float 0, .ref 0, .ref 55, .int x3] [.int r38, .int r32] (hpS s37) _
          refine Ex.i2 hq rfl (fun c => ?_) (fun c => ?_)
          · have k := k.1 c
            exact hX1150 x3 s37 k
          · have k := k.2 c
            refine Ex.seg hq 1 (j := 848) (L' := [.float 0, .ref 0, .ref 55, .int x3]) (S' := [.int (0 : Int32)]) (h' := hpS s37) rfl ?_
            exact Ex.zr hq rfl rfl (Or.inl rfl) ⟨(0 : Int32), s37, rfl, (Or.inl rfl), rfl, k⟩
        · have k := k.2 c
          refine Ex.seg hq 2 (j := 845) (L' := [.float 0, .ref 0, .ref 55, .int x3]) (S' := [.int (1 : Int32), .int (sc.2 ((x3 + (3 : Int32))).toNatClampNeg), .int (1 : Int32), .int (sc.2 ((x3 + (1 : Int32))).toNatClampNeg), .ref 55, .int r32]) (h' := hpS s31) rfl ?_
          refine Ex.cl hq rfl rfl ?_
          refine Rn.mono (q_267 (d := d + 65) (sc.2 ((x3 + (1 : Int32))).toNatClampNeg) (1 : Int32) (sc.2 ((x3 + (3 : Int32))).toNatClampNeg) (1 : Int32) s31 k) ?_
          rintro _ _ ⟨r40, s39, rfl, rfl, k⟩
          show Ex sc (d + 67) 309 846 [.float 0, .ref 0, .ref 55, .int x3] [.int r40, .int r32] (hpS s39) _
          refine Ex.i2 hq rfl (fun c => ?_) (fun c => ?_)
          · have k := k.1 c
            exact hX1150 x3 s39 k
          · have k := k.2 c
            refine Ex.seg hq 1 (j := 848) (L' := [.float 0, .ref 0, .ref 55, .int x3]) (S' := [.int (0 : Int32)]) (h' := hpS s39) rfl ?_
            exact Ex.zr hq rfl rfl (Or.inl rfl) ⟨(0 : Int32), s39, rfl, (Or.inl rfl), rfl, k⟩
end LW
