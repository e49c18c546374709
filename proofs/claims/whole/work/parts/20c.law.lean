/-! ===== the law's cases, printed by wip/whole/genlaw.py ===== -/
section LW
variable {sc : Nat × (Nat → Int32)}
/-- case 22 -/
def wl_22 (sc : Nat × (Nat → Int32)) (x3 : Int32) (s : ST) (X1150 : Int32 → ST → Prop) (K : Int32 → ST → Prop) : Prop := (pin (x3 + (1 : Int32)) sc.1 = true ∧ w_161 (sc.2 ((x3 + (1 : Int32))).toNatClampNeg) s (fun r2 s1 => (pin (x3 + (1 : Int32)) sc.1 = true ∧ w_268 (sc.2 ((x3 + (1 : Int32))).toNatClampNeg) s1 (fun r4 s3 => ((r2 = r4 → X1150 x3 s3) ∧ (¬ (r2 = r4) → K (0 : Int32) s3))))))
set_option maxRecDepth 40000 in
theorem ql_22 {d : Nat} {X1150 K : Int32 → ST → Prop} (x3 : Int32) (s : ST) (k : wl_22 sc x3 s X1150 K) (hX1150 : ∀ (y3 : Int32) (s : ST), X1150 y3 s → Ex sc (d + 67) 309 1150 [.float 0, .ref 0, .ref 55, .int y3] [] (hpS s) (kZ K)) : Ex sc (d + 67) 309 849 [.float 0, .ref 0, .ref 55, .int x3] [] (hpS s) (kZ K) := by
  have hq : prog[309]? = some pm309 := rfl
  unfold wl_22 at k
  refine Ex.seg hq 5 (j := 854) (L' := [.float 0, .ref 0, .ref 55, .int x3]) (S' := [.int (x3 + (1 : Int32)), .float 0, .ref 0]) (h' := hpS s) rfl ?_
  obtain ⟨hin, k⟩ := k
  refine Ex.nx hq rfl (L' := [.float 0, .ref 0, .ref 55, .int x3]) (S' := [.int (sc.2 ((x3 + (1 : Int32))).toNatClampNeg), .ref 0]) (h' := hpS s) (by simp only [stp, pial, hin, if_true]) ?_
  refine Ex.cl hq rfl rfl ?_
  refine Rn.mono (q_161 (d := d + 61) (sc.2 ((x3 + (1 : Int32))).toNatClampNeg) s k) ?_
  rintro _ _ ⟨r2, s1, rfl, rfl, k⟩
  show Ex sc (d + 67) 309 856 [.float 0, .ref 0, .ref 55, .int x3] [.int r2] (hpS s1) _
  refine Ex.seg hq 5 (j := 861) (L' := [.float 0, .ref 0, .ref 55, .int x3]) (S' := [.int (x3 + (1 : Int32)), .float 0, .ref 55, .int r2]) (h' := hpS s1) rfl ?_
  obtain ⟨hin, k⟩ := k
  refine Ex.nx hq rfl (L' := [.float 0, .ref 0, .ref 55, .int x3]) (S' := [.int (sc.2 ((x3 + (1 : Int32))).toNatClampNeg), .ref 55, .int r2]) (h' := hpS s1) (by simp only [stp, pial, hin, if_true]) ?_
  refine Ex.cl hq rfl rfl ?_
  refine Rn.mono (q_268 (d := d + 64) (sc.2 ((x3 + (1 : Int32))).toNatClampNeg) s1 k) ?_
  rintro _ _ ⟨r4, s3, rfl, rfl, k⟩
  show Ex sc (d + 67) 309 863 [.float 0, .ref 0, .ref 55, .int x3] [.int r4, .int r2] (hpS s3) _
  refine Ex.i2 hq rfl (fun c => ?_) (fun c => ?_)
  · have k := k.1 c
    exact hX1150 x3 s3 k
  · have k := k.2 c
    refine Ex.seg hq 1 (j := 865) (L' := [.float 0, .ref 0, .ref 55, .int x3]) (S' := [.int (0 : Int32)]) (h' := hpS s3) rfl ?_
    exact Ex.zr hq rfl rfl (Or.inl rfl) ⟨(0 : Int32), s3, rfl, (Or.inl rfl), rfl, k⟩
/-- case 23 -/
def wl_23 (sc : Nat × (Nat → Int32)) (x3 : Int32) (s : ST) (X1150 : Int32 → ST → Prop) (K : Int32 → ST → Prop) : Prop := (pin (x3 + (1 : Int32)) sc.1 = true ∧ (pin (x3 + (2 : Int32)) sc.1 = true ∧ (pin (x3 + (3 : Int32)) sc.1 = true ∧ w_164 (sc.2 ((x3 + (1 : Int32))).toNatClampNeg) (sc.2 ((x3 + (2 : Int32))).toNatClampNeg) (sc.2 ((x3 + (3 : Int32))).toNatClampNeg) s (fun r2 s1 => (pin (x3 + (1 : Int32)) sc.1 = true ∧ (pin (x3 + (2 : Int32)) sc.1 = true ∧ (pin (x3 + (3 : Int32)) sc.1 = true ∧ w_269 (sc.2 ((x3 + (1 : Int32))).toNatClampNeg) (sc.2 ((x3 + (2 : Int32))).toNatClampNeg) (sc.2 ((x3 + (3 : Int32))).toNatClampNeg) s1 (fun r4 s3 => ((r2 = r4 → X1150 x3 s3) ∧ (¬ (r2 = r4) → K (0 : Int32) s3))))))))))
set_option maxRecDepth 40000 in
theorem ql_23 {d : Nat} {X1150 K : Int32 → ST → Prop} (x3 : Int32) (s : ST) (k : wl_23 sc x3 s X1150 K) (hX1150 : ∀ (y3 : Int32) (s : ST), X1150 y3 s → Ex sc (d + 67) 309 1150 [.float 0, .ref 0, .ref 55, .int y3] [] (hpS s) (kZ K)) : Ex sc (d + 67) 309 866 [.float 0, .ref 0, .ref 55, .int x3] [] (hpS s) (kZ K) := by
  have hq : prog[309]? = some pm309 := rfl
  unfold wl_23 at k
  refine Ex.seg hq 5 (j := 871) (L' := [.float 0, .ref 0, .ref 55, .int x3]) (S' := [.int (x3 + (1 : Int32)), .float 0, .ref 0]) (h' := hpS s) rfl ?_
  obtain ⟨hin, k⟩ := k
  refine Ex.nx hq rfl (L' := [.float 0, .ref 0, .ref 55, .int x3]) (S' := [.int (sc.2 ((x3 + (1 : Int32))).toNatClampNeg), .ref 0]) (h' := hpS s) (by simp only [stp, pial, hin, if_true]) ?_
  refine Ex.seg hq 4 (j := 876) (L' := [.float 0, .ref 0, .ref 55, .int x3]) (S' := [.int (x3 + (2 : Int32)), .float 0, .int (sc.2 ((x3 + (1 : Int32))).toNatClampNeg), .ref 0]) (h' := hpS s) rfl ?_
  obtain ⟨hin, k⟩ := k
  refine Ex.nx hq rfl (L' := [.float 0, .ref 0, .ref 55, .int x3]) (S' := [.int (sc.2 ((x3 + (2 : Int32))).toNatClampNeg), .int (sc.2 ((x3 + (1 : Int32))).toNatClampNeg), .ref 0]) (h' := hpS s) (by simp only [stp, pial, hin, if_true]) ?_
  refine Ex.seg hq 4 (j := 881) (L' := [.float 0, .ref 0, .ref 55, .int x3]) (S' := [.int (x3 + (3 : Int32)), .float 0, .int (sc.2 ((x3 + (2 : Int32))).toNatClampNeg), .int (sc.2 ((x3 + (1 : Int32))).toNatClampNeg), .ref 0]) (h' := hpS s) rfl ?_
  obtain ⟨hin, k⟩ := k
  refine Ex.nx hq rfl (L' := [.float 0, .ref 0, .ref 55, .int x3]) (S' := [.int (sc.2 ((x3 + (3 : Int32))).toNatClampNeg), .int (sc.2 ((x3 + (2 : Int32))).toNatClampNeg), .int (sc.2 ((x3 + (1 : Int32))).toNatClampNeg), .ref 0]) (h' := hpS s) (by simp only [stp, pial, hin, if_true]) ?_
  refine Ex.cl hq rfl rfl ?_
  refine Rn.mono (q_164 (d := d + 59) (sc.2 ((x3 + (1 : Int32))).toNatClampNeg) (sc.2 ((x3 + (2 : Int32))).toNatClampNeg) (sc.2 ((x3 + (3 : Int32))).toNatClampNeg) s k) ?_
  rintro _ _ ⟨r2, s1, rfl, rfl, k⟩
  show Ex sc (d + 67) 309 883 [.float 0, .ref 0, .ref 55, .int x3] [.int r2] (hpS s1) _
  refine Ex.seg hq 5 (j := 888) (L' := [.float 0, .ref 0, .ref 55, .int x3]) (S' := [.int (x3 + (1 : Int32)), .float 0, .ref 55, .int r2]) (h' := hpS s1) rfl ?_
  obtain ⟨hin, k⟩ := k
  refine Ex.nx hq rfl (L' := [.float 0, .ref 0, .ref 55, .int x3]) (S' := [.int (sc.2 ((x3 + (1 : Int32))).toNatClampNeg), .ref 55, .int r2]) (h' := hpS s1) (by simp only [stp, pial, hin, if_true]) ?_
  refine Ex.seg hq 4 (j := 893) (L' := [.float 0, .ref 0, .ref 55, .int x3]) (S' := [.int (x3 + (2 : Int32)), .float 0, .int (sc.2 ((x3 + (1 : Int32))).toNatClampNeg), .ref 55, .int r2]) (h' := hpS s1) rfl ?_
  obtain ⟨hin, k⟩ := k
  refine Ex.nx hq rfl (L' := [.float 0, .ref 0, .ref 55, .int x3]) (S' := [.int (sc.2 ((x3 + (2 : Int32))).toNatClampNeg), .int (sc.2 ((x3 + (1 : Int32))).toNatClampNeg), .ref 55, .int r2]) (h' := hpS s1) (by simp only [stp, pial, hin, if_true]) ?_
  refine Ex.seg hq 4 (j := 898) (L' := [.float 0, .ref 0, .ref 55, .int x3]) (S' := [.int (x3 + (3 : Int32)), .float 0, .int (sc.2 ((x3 + (2 : Int32))).toNatClampNeg), .int (sc.2 ((x3 + (1 : Int32))).toNatClampNeg), .ref 55, .int r2]) (h' := hpS s1) rfl ?_
  obtain ⟨hin, k⟩ := k
  refine Ex.nx hq rfl (L' := [.float 0, .ref 0, .ref 55, .int x3]) (S' := [.int (sc.2 ((x3 + (3 : Int32))).toNatClampNeg), .int (sc.2 ((x3 + (2 : Int32))).toNatClampNeg), .int (sc.2 ((x3 + (1 : Int32))).toNatClampNeg), .ref 55, .int r2]) (h' := hpS s1) (by simp only [stp, pial, hin, if_true]) ?_
  refine Ex.cl hq rfl rfl ?_
  refine Rn.mono (q_269 (d := d + 61) (sc.2 ((x3 + (1 : Int32))).toNatClampNeg) (sc.2 ((x3 + (2 : Int32))).toNatClampNeg) (sc.2 ((x3 + (3 : Int32))).toNatClampNeg) s1 k) ?_
  rintro _ _ ⟨r4, s3, rfl, rfl, k⟩
  show Ex sc (d + 67) 309 900 [.float 0, .ref 0, .ref 55, .int x3] [.int r4, .int r2] (hpS s3) _
  refine Ex.i2 hq rfl (fun c => ?_) (fun c => ?_)
  · have k := k.1 c
    exact hX1150 x3 s3 k
  · have k := k.2 c
    refine Ex.seg hq 1 (j := 902) (L' := [.float 0, .ref 0, .ref 55, .int x3]) (S' := [.int (0 : Int32)]) (h' := hpS s3) rfl ?_
    exact Ex.zr hq rfl rfl (Or.inl rfl) ⟨(0 : Int32), s3, rfl, (Or.inl rfl), rfl, k⟩
/-- case 24 -/
def wl_24 (sc : Nat × (Nat → Int32)) (x3 : Int32) (s : ST) (X1150 : Int32 → ST → Prop) (K : Int32 → ST → Prop) : Prop := (pin (x3 + (1 : Int32)) sc.1 = true ∧ (pin (x3 + (2 : Int32)) sc.1 = true ∧ (pin (x3 + (3 : Int32)) sc.1 = true ∧ w_168 (sc.2 ((x3 + (1 : Int32))).toNatClampNeg) (sc.2 ((x3 + (2 : Int32))).toNatClampNeg) (sc.2 ((x3 + (3 : Int32))).toNatClampNeg) s (fun r2 s1 => (pin (x3 + (1 : Int32)) sc.1 = true ∧ (pin (x3 + (2 : Int32)) sc.1 = true ∧ (pin (x3 + (3 : Int32)) sc.1 = true ∧ w_270 (sc.2 ((x3 + (1 : Int32))).toNatClampNeg) (sc.2 ((x3 + (2 : Int32))).toNatClampNeg) (sc.2 ((x3 + (3 : Int32))).toNatClampNeg) s1 (fun r4 s3 => ((r2 = r4 → X1150 x3 s3) ∧ (¬ (r2 = r4) → K (0 : Int32) s3))))))))))
set_option maxRecDepth 40000 in
theorem ql_24 {d : Nat} {X1150 K : Int32 → ST → Prop} (x3 : Int32) (s : ST) (k : wl_24 sc x3 s X1150 K) (hX1150 : ∀ (y3 : Int32) (s : ST), X1150 y3 s → Ex sc (d + 67) 309 1150 [.float 0, .ref 0, .ref 55, .int y3] [] (hpS s) (kZ K)) : Ex sc (d + 67) 309 903 [.float 0, .ref 0, .ref 55, .int x3] [] (hpS s) (kZ K) := by
  have hq : prog[309]? = some pm309 := rfl
  unfold wl_24 at k
  refine Ex.seg hq 5 (j := 908) (L' := [.float 0, .ref 0, .ref 55, .int x3]) (S' := [.int (x3 + (1 : Int32)), .float 0, .ref 0]) (h' := hpS s) rfl ?_
  obtain ⟨hin, k⟩ := k
  refine Ex.nx hq rfl (L' := [.float 0, .ref 0, .ref 55, .int x3]) (S' := [.int (sc.2 ((x3 + (1 : Int32))).toNatClampNeg), .ref 0]) (h' := hpS s) (by simp only [stp, pial, hin, if_true]) ?_
  refine Ex.seg hq 4 (j := 913) (L' := [.float 0, .ref 0, .ref 55, .int x3]) (S' := [.int (x3 + (2 : Int32)), .float 0, .int (sc.2 ((x3 + (1 : Int32))).toNatClampNeg), .ref 0]) (h' := hpS s) rfl ?_
  obtain ⟨hin, k⟩ := k
  refine Ex.nx hq rfl (L' := [.float 0, .ref 0, .ref 55, .int x3]) (S' := [.int (sc.2 ((x3 + (2 : Int32))).toNatClampNeg), .int (sc.2 ((x3 + (1 : Int32))).toNatClampNeg), .ref 0]) (h' := hpS s) (by simp only [stp, pial, hin, if_true]) ?_
  refine Ex.seg hq 4 (j := 918) (L' := [.float 0, .ref 0, .ref 55, .int x3]) (S' := [.int (x3 + (3 : Int32)), .float 0, .int (sc.2 ((x3 + (2 : Int32))).toNatClampNeg), .int (sc.2 ((x3 + (1 : Int32))).toNatClampNeg), .ref 0]) (h' := hpS s) rfl ?_
  obtain ⟨hin, k⟩ := k
  refine Ex.nx hq rfl (L' := [.float 0, .ref 0, .ref 55, .int x3]) (S' := [.int (sc.2 ((x3 + (3 : Int32))).toNatClampNeg), .int (sc.2 ((x3 + (2 : Int32))).toNatClampNeg), .int (sc.2 ((x3 + (1 : Int32))).toNatClampNeg), .ref 0]) (h' := hpS s) (by simp only [stp, pial, hin, if_true]) ?_
  refine Ex.cl hq rfl rfl ?_
  refine Rn.mono (q_168 (d := d + 64) (sc.2 ((x3 + (1 : Int32))).toNatClampNeg) (sc.2 ((x3 + (2 : Int32))).toNatClampNeg) (sc.2 ((x3 + (3 : Int32))).toNatClampNeg) s k) ?_
  rintro _ _ ⟨r2, s1, rfl, rfl, k⟩
  show Ex sc (d + 67) 309 920 [.float 0, .ref 0, .ref 55, .int x3] [.int r2] (hpS s1) _
  refine Ex.seg hq 5 (j := 925) (L' := [.float 0, .ref 0, .ref 55, .int x3]) (S' := [.int (x3 + (1 : Int32)), .float 0, .ref 55, .int r2]) (h' := hpS s1) rfl ?_
  obtain ⟨hin, k⟩ := k
  refine Ex.nx hq rfl (L' := [.float 0, .ref 0, .ref 55, .int x3]) (S' := [.int (sc.2 ((x3 + (1 : Int32))).toNatClampNeg), .ref 55, .int r2]) (h' := hpS s1) (by simp only [stp, pial, hin, if_true]) ?_
  refine Ex.seg hq 4 (j := 930) (L' := [.float 0, .ref 0, .ref 55, .int x3]) (S' := [.int (x3 + (2 : Int32)), .float 0, .int (sc.2 ((x3 + (1 : Int32))).toNatClampNeg), .ref 55, .int r2]) (h' := hpS s1) rfl ?_
  obtain ⟨hin, k⟩ := k
  refine Ex.nx hq rfl (L' := [.float 0, .ref 0, .ref 55, .int x3]) (S' := [.int (sc.2 ((x3 + (2 : Int32))).toNatClampNeg), .int (sc.2 ((x3 + (1 : Int32))).toNatClampNeg), .ref 55, .int r2]) (h' := hpS s1) (by simp only [stp, pial, hin, if_true]) ?_
  refine Ex.seg hq 4 (j := 935) (L' := [.float 0, .ref 0, .ref 55, .int x3]) (S' := [.int (x3 + (3 : Int32)), .float 0, .int (sc.2 ((x3 + (2 : Int32))).toNatClampNeg), .int (sc.2 ((x3 + (1 : Int32))).toNatClampNeg), .ref 55, .int r2]) (h' := hpS s1) rfl ?_
  obtain ⟨hin, k⟩ := k
  refine Ex.nx hq rfl (L' := [.float 0, .ref 0, .ref 55, .int x3]) (S' := [.int (sc.2 ((x3 + (3 : Int32))).toNatClampNeg), .int (sc.2 ((x3 + (2 : Int32))).toNatClampNeg), .int (sc.2 ((x3 + (1 : Int32))).toNatClampNeg), .ref 55, .int r2]) (h' := hpS s1) (by simp only [stp, pial, hin, if_true]) ?_
  refine Ex.cl hq rfl rfl ?_
  refine Rn.mono (q_270 (d := d + 65) (sc.2 ((x3 + (1 : Int32))).toNatClampNeg) (sc.2 ((x3 + (2 : Int32))).toNatClampNeg) (sc.2 ((x3 + (3 : Int32))).toNatClampNeg) s1 k) ?_
  rintro _ _ ⟨r4, s3, rfl, rfl, k⟩
  show Ex sc (d + 67) 309 937 [.float 0, .ref 0, .ref 55, .int x3] [.int r4, .int r2] (hpS s3) _
  refine Ex.i2 hq rfl (fun c => ?_) (fun c => ?_)
  · have k := k.1 c
    exact hX1150 x3 s3 k
  · have k := k.2 c
    refine Ex.seg hq 1 (j := 939) (L' := [.float 0, .ref 0, .ref 55, .int x3]) (S' := [.int (0 : Int32)]) (h' := hpS s3) rfl ?_
    exact Ex.zr hq rfl rfl (Or.inl rfl) ⟨(0 : Int32), s3, rfl, (Or.inl rfl), rfl, k⟩
/-- case 25 -/
def wl_25 (sc : Nat × (Nat → Int32)) (x3 : Int32) (s : ST) (X1150 : Int32 → ST → Prop) (K : Int32 → ST → Prop) : Prop := (pin (x3 + (1 : Int32)) sc.1 = true ∧ (pin (x3 + (2 : Int32)) sc.1 = true ∧ w_169 (sc.2 ((x3 + (1 : Int32))).toNatClampNeg) (sc.2 ((x3 + (2 : Int32))).toNatClampNeg) s (fun r2 s1 => (pin (x3 + (1 : Int32)) sc.1 = true ∧ (pin (x3 + (2 : Int32)) sc.1 = true ∧ w_272 (sc.2 ((x3 + (1 : Int32))).toNatClampNeg) (sc.2 ((x3 + (2 : Int32))).toNatClampNeg) s1 (fun r4 s3 => ((r2 = r4 → X1150 x3 s3) ∧ (¬ (r2 = r4) → K (0 : Int32) s3))))))))
set_option maxRecDepth 40000 in
theorem ql_25 {d : Nat} {X1150 K : Int32 → ST → Prop} (x3 : Int32) (s : ST) (k : wl_25 sc x3 s X1150 K) (hX1150 : ∀ (y3 : Int32) (s : ST), X1150 y3 s → Ex sc (d + 67) 309 1150 [.float 0, .ref 0, .ref 55, .int y3] [] (hpS s) (kZ K)) : Ex sc (d + 67) 309 940 [.float 0, .ref 0, .ref 55, .int x3] [] (hpS s) (kZ K) := by
  have hq : prog[309]? = some pm309 := rfl
  unfold wl_25 at k
  refine Ex.seg hq 5 (j := 945) (L' := [.float 0, .ref 0, .ref 55, .int x3]) (S' := [.int (x3 + (1 : Int32)), .float 0, .ref 0]) (h' := hpS s) rfl ?_
  obtain ⟨hin, k⟩ := k
  refine Ex.nx hq rfl (L' := [.float 0, .ref 0, .ref 55, .int x3]) (S' := [.int (sc.2 ((x3 + (1 : Int32))).toNatClampNeg), .ref 0]) (h' := hpS s) (by simp only [stp, pial, hin, if_true]) ?_
  refine Ex.seg hq 4 (j := 950) (L' := [.float 0, .ref 0, .ref 55, .int x3]) (S' := [.int (x3 + (2 : Int32)), .float 0, .int (sc.2 ((x3 + (1 : Int32))).toNatClampNeg), .ref 0]) (h' := hpS s) rfl ?_
  obtain ⟨hin, k⟩ := k
  refine Ex.nx hq rfl (L' := [.float 0, .ref 0, .ref 55, .int x3]) (S' := [.int (sc.2 ((x3 + (2 : Int32))).toNatClampNeg), .int (sc.2 ((x3 + (1 : Int32))).toNatClampNeg), .ref 0]) (h' := hpS s) (by simp only [stp, pial, hin, if_true]) ?_
  refine Ex.cl hq rfl rfl ?_
  refine Rn.mono (q_169 (d := d + 64) (sc.2 ((x3 + (1 : Int32))).toNatClampNeg) (sc.2 ((x3 + (2 : Int32))).toNatClampNeg) s k) ?_
  rintro _ _ ⟨r2, s1, rfl, hzr2, rfl, k⟩
  show Ex sc (d + 67) 309 952 [.float 0, .ref 0, .ref 55, .int x3] [.int r2] (hpS s1) _
  refine Ex.seg hq 5 (j := 957) (L' := [.float 0, .ref 0, .ref 55, .int x3]) (S' := [.int (x3 + (1 : Int32)), .float 0, .ref 55, .int r2]) (h' := hpS s1) rfl ?_
  obtain ⟨hin, k⟩ := k
  refine Ex.nx hq rfl (L' := [.float 0, .ref 0, .ref 55, .int x3]) (S' := [.int (sc.2 ((x3 + (1 : Int32))).toNatClampNeg), .ref 55, .int r2]) (h' := hpS s1) (by simp only [stp, pial, hin, if_true]) ?_
  refine Ex.seg hq 4 (j := 962) (L' := [.float 0, .ref 0, .ref 55, .int x3]) (S' := [.int (x3 + (2 : Int32)), .float 0, .int (sc.2 ((x3 + (1 : Int32))).toNatClampNeg), .ref 55, .int r2]) (h' := hpS s1) rfl ?_
  obtain ⟨hin, k⟩ := k
  refine Ex.nx hq rfl (L' := [.float 0, .ref 0, .ref 55, .int x3]) (S' := [.int (sc.2 ((x3 + (2 : Int32))).toNatClampNeg), .int (sc.2 ((x3 + (1 : Int32))).toNatClampNeg), .ref 55, .int r2]) (h' := hpS s1) (by simp only [stp, pial, hin, if_true]) ?_
  refine Ex.cl hq rfl rfl ?_
  refine Rn.mono (q_272 (d := d + 65) (sc.2 ((x3 + (1 : Int32))).toNatClampNeg) (sc.2 ((x3 + (2 : Int32))).toNatClampNeg) s1 k) ?_
  rintro _ _ ⟨r4, s3, rfl, hzr4, rfl, k⟩
  show Ex sc (d + 67) 309 964 [.float 0, .ref 0, .ref 55, .int x3] [.int r4, .int r2] (hpS s3) _
  refine Ex.i2 hq rfl (fun c => ?_) (fun c => ?_)
  · have k := k.1 c
    exact hX1150 x3 s3 k
  · have k := k.2 c
    refine Ex.seg hq 1 (j := 966) (L' := [.float 0, .ref 0, .ref 55, .int x3]) (S' := [.int (0 : Int32)]) (h' := hpS s3) rfl ?_
    exact Ex.zr hq rfl rfl (Or.inl rfl) ⟨(0 : Int32), s3, rfl, (Or.inl rfl), rfl, k⟩
/-- case 26 -/
def wl_26 (sc : Nat × (Nat → Int32)) (x3 : Int32) (s : ST) (X1150 : Int32 → ST → Prop) (K : Int32 → ST → Prop) : Prop := (pin (x3 + (1 : Int32)) sc.1 = true ∧ w_170 (sc.2 ((x3 + (1 : Int32))).toNatClampNeg) s (fun r2 s1 => (pin (x3 + (1 : Int32)) sc.1 = true ∧ w_273 (sc.2 ((x3 + (1 : Int32))).toNatClampNeg) s1 (fun r4 s3 => ((r2 = r4 → X1150 x3 s3) ∧ (¬ (r2 = r4) → K (0 : Int32) s3))))))
set_option maxRecDepth 40000 in
theorem ql_26 {d : Nat} {X1150 K : Int32 → ST → Prop} (x3 : Int32) (s : ST) (k : wl_26 sc x3 s X1150 K) (hX1150 : ∀ (y3 : Int32) (s : ST), X1150 y3 s → Ex sc (d + 67) 309 1150 [.float 0, .ref 0, .ref 55, .int y3] [] (hpS s) (kZ K)) : Ex sc (d + 67) 309 967 [.float 0, .ref 0, .ref 55, .int x3] [] (hpS s) (kZ K) := by
  have hq : prog[309]? = some pm309 := rfl
  unfold wl_26 at k
  refine Ex.seg hq 5 (j := 972) (L' := [.float 0, .ref 0, .ref 55, .int x3]) (S' := [.int (x3 + (1 : Int32)), .float 0, .ref 0]) (h' := hpS s) rfl ?_
  obtain ⟨hin, k⟩ := k
  refine Ex.nx hq rfl (L' := [.float 0, .ref 0, .ref 55, .int x3]) (S' := [.int (sc.2 ((x3 + (1 : Int32))).toNatClampNeg), .ref 0]) (h' := hpS s) (by simp only [stp, pial, hin, if_true]) ?_
  refine Ex.cl hq rfl rfl ?_
  refine Rn.mono (q_170 (d := d + 61) (sc.2 ((x3 + (1 : Int32))).toNatClampNeg) s k) ?_
  rintro _ _ ⟨r2, s1, rfl, rfl, k⟩
  show Ex sc (d + 67) 309 974 [.float 0, .ref 0, .ref 55, .int x3] [.int r2] (hpS s1) _
  refine Ex.seg hq 5 (j := 979) (L' := [.float 0, .ref 0, .ref 55, .int x3]) (S' := [.int (x3 + (1 : Int32)), .float 0, .ref 55, .int r2]) (h' := hpS s1) rfl ?_
  obtain ⟨hin, k⟩ := k
  refine Ex.nx hq rfl (L' := [.float 0, .ref 0, .ref 55, .int x3]) (S' := [.int (sc.2 ((x3 + (1 : Int32))).toNatClampNeg), .ref 55, .int r2]) (h' := hpS s1) (by simp only [stp, pial, hin, if_true]) ?_
  refine Ex.cl hq rfl rfl ?_
  refine Rn.mono (q_273 (d := d + 65) (sc.2 ((x3 + (1 : Int32))).toNatClampNeg) s1 k) ?_
  rintro _ _ ⟨r4, s3, rfl, rfl, k⟩
  show Ex sc (d + 67) 309 981 [.float 0, .ref 0, .ref 55, .int x3] [.int r4, .int r2] (hpS s3) _
  refine Ex.i2 hq rfl (fun c => ?_) (fun c => ?_)
  · have k := k.1 c
    exact hX1150 x3 s3 k
  · have k := k.2 c
    refine Ex.seg hq 1 (j := 983) (L' := [.float 0, .ref 0, .ref 55, .int x3]) (S' := [.int (0 : Int32)]) (h' := hpS s3) rfl ?_
    exact Ex.zr hq rfl rfl (Or.inl rfl) ⟨(0 : Int32), s3, rfl, (Or.inl rfl), rfl, k⟩
/-- case 27 -/
def wl_27 (sc : Nat × (Nat → Int32)) (x3 : Int32) (s : ST) (X1150 : Int32 → ST → Prop) (K : Int32 → ST → Prop) : Prop := (pin (x3 + (1 : Int32)) sc.1 = true ∧ w_172 (sc.2 ((x3 + (1 : Int32))).toNatClampNeg) s (fun r2 s1 => (pin (x3 + (1 : Int32)) sc.1 = true ∧ w_243 (sc.2 ((x3 + (1 : Int32))).toNatClampNeg) s1 (fun r4 s3 => ((r2 = r4 → X1150 x3 s3) ∧ (¬ (r2 = r4) → K (0 : Int32) s3))))))
set_option maxRecDepth 40000 in
theorem ql_27 {d : Nat} {X1150 K : Int32 → ST → Prop} (x3 : Int32) (s : ST) (k : wl_27 sc x3 s X1150 K) (hX1150 : ∀ (y3 : Int32) (s : ST), X1150 y3 s → Ex sc (d + 67) 309 1150 [.float 0, .ref 0, .ref 55, .int y3] [] (hpS s) (kZ K)) : Ex sc (d + 67) 309 984 [.float 0, .ref 0, .ref 55, .int x3] [] (hpS s) (kZ K) := by
  have hq : prog[309]? = some pm309 := rfl
  unfold wl_27 at k
  refine Ex.seg hq 5 (j := 989) (L' := [.float 0, .ref 0, .ref 55, .int x3]) (S' := [.int (x3 + (1 : Int32)), .float 0, .ref 0]) (h' := hpS s) rfl ?_
  obtain ⟨hin, k⟩ := k
  refine Ex.nx hq rfl (L' := [.float 0, .ref 0, .ref 55, .int x3]) (S' := [.int (sc.2 ((x3 + (1 : Int32))).toNatClampNeg), .ref 0]) (h' := hpS s) (by simp only [stp, pial, hin, if_true]) ?_
  refine Ex.cl hq rfl rfl ?_
  refine Rn.mono (q_172 (d := d + 59) (sc.2 ((x3 + (1 : Int32))).toNatClampNeg) s k) ?_
  rintro _ _ ⟨r2, s1, rfl, rfl, k⟩
  show Ex sc (d + 67) 309 991 [.float 0, .ref 0, .ref 55, .int x3] [.int r2] (hpS s1) _
  refine Ex.seg hq 5 (j := 996) (L' := [.float 0, .ref 0, .ref 55, .int x3]) (S' := [.int (x3 + (1 : Int32)), .float 0, .ref 55, .int r2]) (h' := hpS s1) rfl ?_
  obtain ⟨hin, k⟩ := k
  refine Ex.nx hq rfl (L' := [.float 0, .ref 0, .ref 55, .int x3]) (S' := [.int (sc.2 ((x3 + (1 : Int32))).toNatClampNeg), .ref 55, .int r2]) (h' := hpS s1) (by simp only [stp, pial, hin, if_true]) ?_
  refine Ex.cl hq rfl rfl ?_
  refine Rn.mono (q_243 (d := d + 60) (sc.2 ((x3 + (1 : Int32))).toNatClampNeg) s1 k) ?_
  rintro _ _ ⟨r4, s3, rfl, rfl, k⟩
  show Ex sc (d + 67) 309 998 [.float 0, .ref 0, .ref 55, .int x3] [.int r4, .int r2] (hpS s3) _
  refine Ex.i2 hq rfl (fun c => ?_) (fun c => ?_)
  · have k := k.1 c
    exact hX1150 x3 s3 k
  · have k := k.2 c
    refine Ex.seg hq 1 (j := 1000) (L' := [.float 0, .ref 0, .ref 55, .int x3]) (S' := [.int (0 : Int32)]) (h' := hpS s3) rfl ?_
    exact Ex.zr hq rfl rfl (Or.inl rfl) ⟨(0 : Int32), s3, rfl, (Or.inl rfl), rfl, k⟩
/-- case 28 -/
def wl_28 (sc : Nat × (Nat → Int32)) (x3 : Int32) (s : ST) (X1150 : Int32 → ST → Prop) (K : Int32 → ST → Prop) : Prop := (pin (x3 + (1 : Int32)) sc.1 = true ∧ w_173 (sc.2 ((x3 + (1 : Int32))).toNatClampNeg) s (fun r2 s1 => (pin (x3 + (1 : Int32)) sc.1 = true ∧ w_274 (sc.2 ((x3 + (1 : Int32))).toNatClampNeg) s1 (fun r4 s3 => ((r2 = r4 → X1150 x3 s3) ∧ (¬ (r2 = r4) → K (0 : Int32) s3))))))
set_option maxRecDepth 40000 in
theorem ql_28 {d : Nat} {X1150 K : Int32 → ST → Prop} (x3 : Int32) (s : ST) (k : wl_28 sc x3 s X1150 K) (hX1150 : ∀ (y3 : Int32) (s : ST), X1150 y3 s → Ex sc (d + 67) 309 1150 [.float 0, .ref 0, .ref 55, .int y3] [] (hpS s) (kZ K)) : Ex sc (d + 67) 309 1001 [.float 0, .ref 0, .ref 55, .int x3] [] (hpS s) (kZ K) := by
  have hq : prog[309]? = some pm309 := rfl
  unfold wl_28 at k
  refine Ex.seg hq 5 (j := 1006) (L' := [.float 0, .ref 0, .ref 55, .int x3]) (S' := [.int (x3 + (1 : Int32)), .float 0, .ref 0]) (h' := hpS s) rfl ?_
  obtain ⟨hin, k⟩ := k
  refine Ex.nx hq rfl (L' := [.float 0, .ref 0, .ref 55, .int x3]) (S' := [.int (sc.2 ((x3 + (1 : Int32))).toNatClampNeg), .ref 0]) (h' := hpS s) (by simp only [stp, pial, hin, if_true]) ?_
  refine Ex.cl hq rfl rfl ?_
  refine Rn.mono (q_173 (d := d + 65) (sc.2 ((x3 + (1 : Int32))).toNatClampNeg) s k) ?_
  rintro _ _ ⟨r2, s1, rfl, hzr2, rfl, k⟩
  show Ex sc (d + 67) 309 1008 [.float 0, .ref 0, .ref 55, .int x3] [.int r2] (hpS s1) _
  refine Ex.seg hq 5 (j := 1013) (L' := [.float 0, .ref 0, .ref 55, .int x3]) (S' := [.int (x3 + (1 : Int32)), .float 0, .ref 55, .int r2]) (h' := hpS s1) rfl ?_
  obtain ⟨hin, k⟩ := k
  refine Ex.nx hq rfl (L' := [.float 0, .ref 0, .ref 55, .int x3]) (S' := [.int (sc.2 ((x3 + (1 : Int32))).toNatClampNeg), .ref 55, .int r2]) (h' := hpS s1) (by simp only [stp, pial, hin, if_true]) ?_
  refine Ex.cl hq rfl rfl ?_
  refine Rn.mono (q_274 (d := d + 65) (sc.2 ((x3 + (1 : Int32))).toNatClampNeg) s1 k) ?_
  rintro _ _ ⟨r4, s3, rfl, hzr4, rfl, k⟩
  show Ex sc (d + 67) 309 1015 [.float 0, .ref 0, .ref 55, .int x3] [.int r4, .int r2] (hpS s3) _
  refine Ex.i2 hq rfl (fun c => ?_) (fun c => ?_)
  · have k := k.1 c
    exact hX1150 x3 s3 k
  · have k := k.2 c
    refine Ex.seg hq 1 (j := 1017) (L' := [.float 0, .ref 0, .ref 55, .int x3]) (S' := [.int (0 : Int32)]) (h' := hpS s3) rfl ?_
    exact Ex.zr hq rfl rfl (Or.inl rfl) ⟨(0 : Int32), s3, rfl, (Or.inl rfl), rfl, k⟩
/-- case 29 -/
def wl_29 (sc : Nat × (Nat → Int32)) (x3 : Int32) (s : ST) (X1150 : Int32 → ST → Prop) (K : Int32 → ST → Prop) : Prop := (pin (x3 + (1 : Int32)) sc.1 = true ∧ w_174 (sc.2 ((x3 + (1 : Int32))).toNatClampNeg) s (fun r2 s1 => (pin (x3 + (1 : Int32)) sc.1 = true ∧ w_275 (sc.2 ((x3 + (1 : Int32))).toNatClampNeg) s1 (fun r4 s3 => ((r2 = r4 → X1150 x3 s3) ∧ (¬ (r2 = r4) → K (0 : Int32) s3))))))
set_option maxRecDepth 40000 in
theorem ql_29 {d : Nat} {X1150 K : Int32 → ST → Prop} (x3 : Int32) (s : ST) (k : wl_29 sc x3 s X1150 K) (hX1150 : ∀ (y3 : Int32) (s : ST), X1150 y3 s → Ex sc (d + 67) 309 1150 [.float 0, .ref 0, .ref 55, .int y3] [] (hpS s) (kZ K)) : Ex sc (d + 67) 309 1018 [.float 0, .ref 0, .ref 55, .int x3] [] (hpS s) (kZ K) := by
  have hq : prog[309]? = some pm309 := rfl
  unfold wl_29 at k
  refine Ex.seg hq 5 (j := 1023) (L' := [.float 0, .ref 0, .ref 55, .int x3]) (S' := [.int (x3 + (1 : Int32)), .float 0, .ref 0]) (h' := hpS s) rfl ?_
  obtain ⟨hin, k⟩ := k
  refine Ex.nx hq rfl (L' := [.float 0, .ref 0, .ref 55, .int x3]) (S' := [.int (sc.2 ((x3 + (1 : Int32))).toNatClampNeg), .ref 0]) (h' := hpS s) (by simp only [stp, pial, hin, if_true]) ?_
  refine Ex.cl hq rfl rfl ?_
  refine Rn.mono (q_174 (d := d + 60) (sc.2 ((x3 + (1 : Int32))).toNatClampNeg) s k) ?_
  rintro _ _ ⟨r2, s1, rfl, rfl, k⟩
  show Ex sc (d + 67) 309 1025 [.float 0, .ref 0, .ref 55, .int x3] [.int r2] (hpS s1) _
  refine Ex.seg hq 5 (j := 1030) (L' := [.float 0, .ref 0, .ref 55, .int x3]) (S' := [.int (x3 + (1 : Int32)), .float 0, .ref 55, .int r2]) (h' := hpS s1) rfl ?_
  obtain ⟨hin, k⟩ := k
  refine Ex.nx hq rfl (L' := [.float 0, .ref 0, .ref 55, .int x3]) (S' := [.int (sc.2 ((x3 + (1 : Int32))).toNatClampNeg), .ref 55, .int r2]) (h' := hpS s1) (by simp only [stp, pial, hin, if_true]) ?_
  refine Ex.cl hq rfl rfl ?_
  refine Rn.mono (q_275 (d := d + 61) (sc.2 ((x3 + (1 : Int32))).toNatClampNeg) s1 k) ?_
  rintro _ _ ⟨r4, s3, rfl, rfl, k⟩
  show Ex sc (d + 67) 309 1032 [.float 0, .ref 0, .ref 55, .int x3] [.int r4, .int r2] (hpS s3) _
  refine Ex.i2 hq rfl (fun c => ?_) (fun c => ?_)
  · have k := k.1 c
    exact hX1150 x3 s3 k
  · have k := k.2 c
    refine Ex.seg hq 1 (j := 1034) (L' := [.float 0, .ref 0, .ref 55, .int x3]) (S' := [.int (0 : Int32)]) (h' := hpS s3) rfl ?_
    exact Ex.zr hq rfl rfl (Or.inl rfl) ⟨(0 : Int32), s3, rfl, (Or.inl rfl), rfl, k⟩
/-- case 30 -/
def wl_30 (sc : Nat × (Nat → Int32)) (x3 : Int32) (s : ST) (X1150 : Int32 → ST → Prop) (K : Int32 → ST → Prop) : Prop := (pin (x3 + (1 : Int32)) sc.1 = true ∧ (pin (x3 + (2 : Int32)) sc.1 = true ∧ (pin (x3 + (3 : Int32)) sc.1 = true ∧ w_175 (sc.2 ((x3 + (1 : Int32))).toNatClampNeg) (sc.2 ((x3 + (2 : Int32))).toNatClampNeg) (sc.2 ((x3 + (3 : Int32))).toNatClampNeg) s (fun r2 s1 => (pin (x3 + (1 : Int32)) sc.1 = true ∧ (pin (x3 + (2 : Int32)) sc.1 = true ∧ (pin (x3 + (3 : Int32)) sc.1 = true ∧ w_276 (sc.2 ((x3 + (1 : Int32))).toNatClampNeg) (sc.2 ((x3 + (2 : Int32))).toNatClampNeg) (sc.2 ((x3 + (3 : Int32))).toNatClampNeg) s1 (fun r4 s3 => ((r2 = r4 → X1150 x3 s3) ∧ (¬ (r2 = r4) → K (0 : Int32) s3))))))))))
set_option maxRecDepth 40000 in
theorem ql_30 {d : Nat} {X1150 K : Int32 → ST → Prop} (x3 : Int32) (s : ST) (k : wl_30 sc x3 s X1150 K) (hX1150 : ∀ (y3 : Int32) (s : ST), X1150 y3 s → Ex sc (d + 67) 309 1150 [.float 0, .ref 0, .ref 55, .int y3] [] (hpS s) (kZ K)) : Ex sc (d + 67) 309 1035 [.float 0, .ref 0, .ref 55, .int x3] [] (hpS s) (kZ K) := by
  have hq : prog[309]? = some pm309 := rfl
  unfold wl_30 at k
  refine Ex.seg hq 5 (j := 1040) (L' := [.float 0, .ref 0, .ref 55, .int x3]) (S' := [.int (x3 + (1 : Int32)), .float 0, .ref 0]) (h' := hpS s) rfl ?_
  obtain ⟨hin, k⟩ := k
  refine Ex.nx hq rfl (L' := [.float 0, .ref 0, .ref 55, .int x3]) (S' := [.int (sc.2 ((x3 + (1 : Int32))).toNatClampNeg), .ref 0]) (h' := hpS s) (by simp only [stp, pial, hin, if_true]) ?_
  refine Ex.seg hq 4 (j := 1045) (L' := [.float 0, .ref 0, .ref 55, .int x3]) (S' := [.int (x3 + (2 : Int32)), .float 0, .int (sc.2 ((x3 + (1 : Int32))).toNatClampNeg), .ref 0]) (h' := hpS s) rfl ?_
  obtain ⟨hin, k⟩ := k
  refine Ex.nx hq rfl (L' := [.float 0, .ref 0, .ref 55, .int x3]) (S' := [.int (sc.2 ((x3 + (2 : Int32))).toNatClampNeg), .int (sc.2 ((x3 + (1 : Int32))).toNatClampNeg), .ref 0]) (h' := hpS s) (by simp only [stp, pial, hin, if_true]) ?_
  refine Ex.seg hq 4 (j := 1050) (L' := [.float 0, .ref 0, .ref 55, .int x3]) (S' := [.int (x3 + (3 : Int32)), .float 0, .int (sc.2 ((x3 + (2 : Int32))).toNatClampNeg), .int (sc.2 ((x3 + (1 : Int32))).toNatClampNeg), .ref 0]) (h' := hpS s) rfl ?_
  obtain ⟨hin, k⟩ := k
  refine Ex.nx hq rfl (L' := [.float 0, .ref 0, .ref 55, .int x3]) (S' := [.int (sc.2 ((x3 + (3 : Int32))).toNatClampNeg), .int (sc.2 ((x3 + (2 : Int32))).toNatClampNeg), .int (sc.2 ((x3 + (1 : Int32))).toNatClampNeg), .ref 0]) (h' := hpS s) (by simp only [stp, pial, hin, if_true]) ?_
  refine Ex.cl hq rfl rfl ?_
  refine Rn.mono (q_175 (d := d + 65) (sc.2 ((x3 + (1 : Int32))).toNatClampNeg) (sc.2 ((x3 + (2 : Int32))).toNatClampNeg) (sc.2 ((x3 + (3 : Int32))).toNatClampNeg) s k) ?_
  rintro _ _ ⟨r2, s1, rfl, rfl, k⟩
  show Ex sc (d + 67) 309 1052 [.float 0, .ref 0, .ref 55, .int x3] [.int r2] (hpS s1) _
  refine Ex.seg hq 5 (j := 1057) (L' := [.float 0, .ref 0, .ref 55, .int x3]) (S' := [.int (x3 + (1 : Int32)), .float 0, .ref 55, .int r2]) (h' := hpS s1) rfl ?_
  obtain ⟨hin, k⟩ := k
  refine Ex.nx hq rfl (L' := [.float 0, .ref 0, .ref 55, .int x3]) (S' := [.int (sc.2 ((x3 + (1 : Int32))).toNatClampNeg), .ref 55, .int r2]) (h' := hpS s1) (by simp only [stp, pial, hin, if_true]) ?_
  refine Ex.seg hq 4 (j := 1062) (L' := [.float 0, .ref 0, .ref 55, .int x3]) (S' := [.int (x3 + (2 : Int32)), .float 0, .int (sc.2 ((x3 + (1 : Int32))).toNatClampNeg), .ref 55, .int r2]) (h' := hpS s1) rfl ?_
  obtain ⟨hin, k⟩ := k
  refine Ex.nx hq rfl (L' := [.float 0, .ref 0, .ref 55, .int x3]) (S' := [.int (sc.2 ((x3 + (2 : Int32))).toNatClampNeg), .int (sc.2 ((x3 + (1 : Int32))).toNatClampNeg), .ref 55, .int r2]) (h' := hpS s1) (by simp only [stp, pial, hin, if_true]) ?_
  refine Ex.seg hq 4 (j := 1067) (L' := [.float 0, .ref 0, .ref 55, .int x3]) (S' := [.int (x3 + (3 : Int32)), .float 0, .int (sc.2 ((x3 + (2 : Int32))).toNatClampNeg), .int (sc.2 ((x3 + (1 : Int32))).toNatClampNeg), .ref 55, .int r2]) (h' := hpS s1) rfl ?_
  obtain ⟨hin, k⟩ := k
  refine Ex.nx hq rfl (L' := [.float 0, .ref 0, .ref 55, .int x3]) (S' := [.int (sc.2 ((x3 + (3 : Int32))).toNatClampNeg), .int (sc.2 ((x3 + (2 : Int32))).toNatClampNeg), .int (sc.2 ((x3 + (1 : Int32))).toNatClampNeg), .ref 55, .int r2]) (h' := hpS s1) (by simp only [stp, pial, hin, if_true]) ?_
  refine Ex.cl hq rfl rfl ?_
  refine Rn.mono (q_276 (d := d + 65) (sc.2 ((x3 + (1 : Int32))).toNatClampNeg) (sc.2 ((x3 + (2 : Int32))).toNatClampNeg) (sc.2 ((x3 + (3 : Int32))).toNatClampNeg) s1 k) ?_
  rintro _ _ ⟨r4, s3, rfl, rfl, k⟩
  show Ex sc (d + 67) 309 1069 [.float 0, .ref 0, .ref 55, .int x3] [.int r4, .int r2] (hpS s3) _
  refine Ex.i2 hq rfl (fun c => ?_) (fun c => ?_)
  · have k := k.1 c
    exact hX1150 x3 s3 k
  · have k := k.2 c
    refine Ex.seg hq 1 (j := 1071) (L' := [.float 0, .ref 0, .ref 55, .int x3]) (S' := [.int (0 : Int32)]) (h' := hpS s3) rfl ?_
    exact Ex.zr hq rfl rfl (Or.inl rfl) ⟨(0 : Int32), s3, rfl, (Or.inl rfl), rfl, k⟩
/-- case 31 -/
def wl_31 (sc : Nat × (Nat → Int32)) (x3 : Int32) (s : ST) (X1150 : Int32 → ST → Prop) (K : Int32 → ST → Prop) : Prop := (pin (x3 + (1 : Int32)) sc.1 = true ∧ w_176 (sc.2 ((x3 + (1 : Int32))).toNatClampNeg) s (fun r2 s1 => (pin (x3 + (1 : Int32)) sc.1 = true ∧ w_279 (sc.2 ((x3 + (1 : Int32))).toNatClampNeg) s1 (fun r4 s3 => ((r2 = r4 → X1150 x3 s3) ∧ (¬ (r2 = r4) → K (0 : Int32) s3))))))
set_option maxRecDepth 40000 in
theorem ql_31 {d : Nat} {X1150 K : Int32 → ST → Prop} (x3 : Int32) (s : ST) (k : wl_31 sc x3 s X1150 K) (hX1150 : ∀ (y3 : Int32) (s : ST), X1150 y3 s → Ex sc (d + 67) 309 1150 [.float 0, .ref 0, .ref 55, .int y3] [] (hpS s) (kZ K)) : Ex sc (d + 67) 309 1072 [.float 0, .ref 0, .ref 55, .int x3] [] (hpS s) (kZ K) := by
  have hq : prog[309]? = some pm309 := rfl
  unfold wl_31 at k
  refine Ex.seg hq 5 (j := 1077) (L' := [.float 0, .ref 0, .ref 55, .int x3]) (S' := [.int (x3 + (1 : Int32)), .float 0, .ref 0]) (h' := hpS s) rfl ?_
  obtain ⟨hin, k⟩ := k
  refine Ex.nx hq rfl (L' := [.float 0, .ref 0, .ref 55, .int x3]) (S' := [.int (sc.2 ((x3 + (1 : Int32))).toNatClampNeg), .ref 0]) (h' := hpS s) (by simp only [stp, pial, hin, if_true]) ?_
  refine Ex.cl hq rfl rfl ?_
  refine Rn.mono (q_176 (d := d + 61) (sc.2 ((x3 + (1 : Int32))).toNatClampNeg) s k) ?_
  rintro _ _ ⟨r2, s1, rfl, rfl, k⟩
  show Ex sc (d + 67) 309 1079 [.float 0, .ref 0, .ref 55, .int x3] [.int r2] (hpS s1) _
  refine Ex.seg hq 5 (j := 1084) (L' := [.float 0, .ref 0, .ref 55, .int x3]) (S' := [.int (x3 + (1 : Int32)), .float 0, .ref 55, .int r2]) (h' := hpS s1) rfl ?_
  obtain ⟨hin, k⟩ := k
  refine Ex.nx hq rfl (L' := [.float 0, .ref 0, .ref 55, .int x3]) (S' := [.int (sc.2 ((x3 + (1 : Int32))).toNatClampNeg), .ref 55, .int r2]) (h' := hpS s1) (by simp only [stp, pial, hin, if_true]) ?_
  refine Ex.cl hq rfl rfl ?_
  refine Rn.mono (q_279 (d := d + 65) (sc.2 ((x3 + (1 : Int32))).toNatClampNeg) s1 k) ?_
  rintro _ _ ⟨r4, s3, rfl, rfl, k⟩
  show Ex sc (d + 67) 309 1086 [.float 0, .ref 0, .ref 55, .int x3] [.int r4, .int r2] (hpS s3) _
  refine Ex.i2 hq rfl (fun c => ?_) (fun c => ?_)
  · have k := k.1 c
    exact hX1150 x3 s3 k
  · have k := k.2 c
    refine Ex.seg hq 1 (j := 1088) (L' := [.float 0, .ref 0, .ref 55, .int x3]) (S' := [.int (0 : Int32)]) (h' := hpS s3) rfl ?_
    exact Ex.zr hq rfl rfl (Or.inl rfl) ⟨(0 : Int32), s3, rfl, (Or.inl rfl), rfl, k⟩
/-- case 32 -/
def wl_32 (sc : Nat × (Nat → Int32)) (x3 : Int32) (s : ST) (X1150 : Int32 → ST → Prop) (K : Int32 → ST → Prop) : Prop := (pin (x3 + (1 : Int32)) sc.1 = true ∧ w_177 (sc.2 ((x3 + (1 : Int32))).toNatClampNeg) s (fun r2 s1 => (pin (x3 + (1 : Int32)) sc.1 = true ∧ w_280 (sc.2 ((x3 + (1 : Int32))).toNatClampNeg) s1 (fun r4 s3 => ((r2 = r4 → X1150 x3 s3) ∧ (¬ (r2 = r4) → K (0 : Int32) s3))))))
set_option maxRecDepth 40000 in
theorem ql_32 {d : Nat} {X1150 K : Int32 → ST → Prop} (x3 : Int32) (s : ST) (k : wl_32 sc x3 s X1150 K) (hX1150 : ∀ (y3 : Int32) (s : ST), X1150 y3 s → Ex sc (d + 67) 309 1150 [.float 0, .ref 0, .ref 55, .int y3] [] (hpS s) (kZ K)) : Ex sc (d + 67) 309 1089 [.float 0, .ref 0, .ref 55, .int x3] [] (hpS s) (kZ K) := by
  have hq : prog[309]? = some pm309 := rfl
  unfold wl_32 at k
  refine Ex.seg hq 5 (j := 1094) (L' := [.float 0, .ref 0, .ref 55, .int x3]) (S' := [.int (x3 + (1 : Int32)), .float 0, .ref 0]) (h' := hpS s) rfl ?_
  obtain ⟨hin, k⟩ := k
  refine Ex.nx hq rfl (L' := [.float 0, .ref 0, .ref 55, .int x3]) (S' := [.int (sc.2 ((x3 + (1 : Int32))).toNatClampNeg), .ref 0]) (h' := hpS s) (by simp only [stp, pial, hin, if_true]) ?_
  refine Ex.cl hq rfl rfl ?_
  refine Rn.mono (q_177 (d := d + 63) (sc.2 ((x3 + (1 : Int32))).toNatClampNeg) s k) ?_
  rintro _ _ ⟨r2, s1, rfl, rfl, k⟩
  show Ex sc (d + 67) 309 1096 [.float 0, .ref 0, .ref 55, .int x3] [.int r2] (hpS s1) _
  refine Ex.seg hq 5 (j := 1101) (L' := [.float 0, .ref 0, .ref 55, .int x3]) (S' := [.int (x3 + (1 : Int32)), .float 0, .ref 55, .int r2]) (h' := hpS s1) rfl ?_
  obtain ⟨hin, k⟩ := k
  refine Ex.nx hq rfl (L' := [.float 0, .ref 0, .ref 55, .int x3]) (S' := [.int (sc.2 ((x3 + (1 : Int32))).toNatClampNeg), .ref 55, .int r2]) (h' := hpS s1) (by simp only [stp, pial, hin, if_true]) ?_
  refine Ex.cl hq rfl rfl ?_
  refine Rn.mono (q_280 (d := d + 65) (sc.2 ((x3 + (1 : Int32))).toNatClampNeg) s1 k) ?_
  rintro _ _ ⟨r4, s3, rfl, rfl, k⟩
  show Ex sc (d + 67) 309 1103 [.float 0, .ref 0, .ref 55, .int x3] [.int r4, .int r2] (hpS s3) _
  refine Ex.i2 hq rfl (fun c => ?_) (fun c => ?_)
  · have k := k.1 c
    exact hX1150 x3 s3 k
  · have k := k.2 c
    refine Ex.seg hq 1 (j := 1105) (L' := [.float 0, .ref 0, .ref 55, .int x3]) (S' := [.int (0 : Int32)]) (h' := hpS s3) rfl ?_
    exact Ex.zr hq rfl rfl (Or.inl rfl) ⟨(0 : Int32), s3, rfl, (Or.inl rfl), rfl, k⟩
/-- case 33 -/
def wl_33 (sc : Nat × (Nat → Int32)) (x3 : Int32) (s : ST) (X1150 : Int32 → ST → Prop) (K : Int32 → ST → Prop) : Prop := (pin (x3 + (1 : Int32)) sc.1 = true ∧ (pin (x3 + (2 : Int32)) sc.1 = true ∧ w_178 (sc.2 ((x3 + (1 : Int32))).toNatClampNeg) (sc.2 ((x3 + (2 : Int32))).toNatClampNeg) s (fun r2 s1 => (pin (x3 + (1 : Int32)) sc.1 = true ∧ (pin (x3 + (2 : Int32)) sc.1 = true ∧ w_281 (sc.2 ((x3 + (1 : Int32))).toNatClampNeg) (sc.2 ((x3 + (2 : Int32))).toNatClampNeg) s1 (fun r4 s3 => ((r2 = r4 → X1150 x3 s3) ∧ (¬ (r2 = r4) → K (0 : Int32) s3))))))))
set_option maxRecDepth 40000 in
theorem ql_33 {d : Nat} {X1150 K : Int32 → ST → Prop} (x3 : Int32) (s : ST) (k : wl_33 sc x3 s X1150 K) (hX1150 : ∀ (y3 : Int32) (s : ST), X1150 y3 s → Ex sc (d + 67) 309 1150 [.float 0, .ref 0, .ref 55, .int y3] [] (hpS s) (kZ K)) : Ex sc (d + 67) 309 1106 [.float 0, .ref 0, .ref 55, .int x3] [] (hpS s) (kZ K) := by
  have hq : prog[309]? = some pm309 := rfl
  unfold wl_33 at k
  refine Ex.seg hq 5 (j := 1111) (L' := [.float 0, .ref 0, .ref 55, .int x3]) (S' := [.int (x3 + (1 : Int32)), .float 0, .ref 0]) (h' := hpS s) rfl ?_
  obtain ⟨hin, k⟩ := k
  refine Ex.nx hq rfl (L' := [.float 0, .ref 0, .ref 55, .int x3]) (S' := [.int (sc.2 ((x3 + (1 : Int32))).toNatClampNeg), .ref 0]) (h' := hpS s) (by simp only [stp, pial, hin, if_true]) ?_
  refine Ex.seg hq 4 (j := 1116) (L' := [.float 0, .ref 0, .ref 55, .int x3]) (S' := [.int (x3 + (2 : Int32)), .float 0, .int (sc.2 ((x3 + (1 : Int32))).toNatClampNeg), .ref 0]) (h' := hpS s) rfl ?_
  obtain ⟨hin, k⟩ := k
  refine Ex.nx hq rfl (L' := [.float 0, .ref 0, .ref 55, .int x3]) (S' := [.int (sc.2 ((x3 + (2 : Int32))).toNatClampNeg), .int (sc.2 ((x3 + (1 : Int32))).toNatClampNeg), .ref 0]) (h' := hpS s) (by simp only [stp, pial, hin, if_true]) ?_
  refine Ex.cl hq rfl rfl ?_
  refine Rn.mono (q_178 (d := d + 65) (sc.2 ((x3 + (1 : Int32))).toNatClampNeg) (sc.2 ((x3 + (2 : Int32))).toNatClampNeg) s k) ?_
  rintro _ _ ⟨r2, s1, rfl, rfl, k⟩
  show Ex sc (d + 67) 309 1118 [.float 0, .ref 0, .ref 55, .int x3] [.int r2] (hpS s1) _
  refine Ex.seg hq 5 (j := 1123) (L' := [.float 0, .ref 0, .ref 55, .int x3]) (S' := [.int (x3 + (1 : Int32)), .float 0, .ref 55, .int r2]) (h' := hpS s1) rfl ?_
  obtain ⟨hin, k⟩ := k
  refine Ex.nx hq rfl (L' := [.float 0, .ref 0, .ref 55, .int x3]) (S' := [.int (sc.2 ((x3 + (1 : Int32))).toNatClampNeg), .ref 55, .int r2]) (h' := hpS s1) (by simp only [stp, pial, hin, if_true]) ?_
  refine Ex.seg hq 4 (j := 1128) (L' := [.float 0, .ref 0, .ref 55, .int x3]) (S' := [.int (x3 + (2 : Int32)), .float 0, .int (sc.2 ((x3 + (1 : Int32))).toNatClampNeg), .ref 55, .int r2]) (h' := hpS s1) rfl ?_
  obtain ⟨hin, k⟩ := k
  refine Ex.nx hq rfl (L' := [.float 0, .ref 0, .ref 55, .int x3]) (S' := [.int (sc.2 ((x3 + (2 : Int32))).toNatClampNeg), .int (sc.2 ((x3 + (1 : Int32))).toNatClampNeg), .ref 55, .int r2]) (h' := hpS s1) (by simp only [stp, pial, hin, if_true]) ?_
  refine Ex.cl hq rfl rfl ?_
  refine Rn.mono (q_281 (d := d + 65) (sc.2 ((x3 + (1 : Int32))).toNatClampNeg) (sc.2 ((x3 + (2 : Int32))).toNatClampNeg) s1 k) ?_
  rintro _ _ ⟨r4, s3, rfl, rfl, k⟩
  show Ex sc (d + 67) 309 1130 [.float 0, .ref 0, .ref 55, .int x3] [.int r4, .int r2] (hpS s3) _
  refine Ex.i2 hq rfl (fun c => ?_) (fun c => ?_)
  · have k := k.1 c
    exact hX1150 x3 s3 k
  · have k := k.2 c
    refine Ex.seg hq 1 (j := 1132) (L' := [.float 0, .ref 0, .ref 55, .int x3]) (S' := [.int (0 : Int32)]) (h' := hpS s3) rfl ?_
    exact Ex.zr hq rfl rfl (Or.inl rfl) ⟨(0 : Int32), s3, rfl, (Or.inl rfl), rfl, k⟩
/-- case 34 -/
def wl_34 (sc : Nat × (Nat → Int32)) (x3 : Int32) (s : ST) (X1150 : Int32 → ST → Prop) (K : Int32 → ST → Prop) : Prop := (pin (x3 + (1 : Int32)) sc.1 = true ∧ w_179 (sc.2 ((x3 + (1 : Int32))).toNatClampNeg) s (fun r2 s1 => (pin (x3 + (1 : Int32)) sc.1 = true ∧ w_282 (sc.2 ((x3 + (1 : Int32))).toNatClampNeg) s1 (fun r4 s3 => ((r2 = r4 → X1150 x3 s3) ∧ (¬ (r2 = r4) → K (0 : Int32) s3))))))
set_option maxRecDepth 40000 in
theorem ql_34 {d : Nat} {X1150 K : Int32 → ST → Prop} (x3 : Int32) (s : ST) (k : wl_34 sc x3 s X1150 K) (hX1150 : ∀ (y3 : Int32) (s : ST), X1150 y3 s → Ex sc (d + 67) 309 1150 [.float 0, .ref 0, .ref 55, .int y3] [] (hpS s) (kZ K)) : Ex sc (d + 67) 309 1133 [.float 0, .ref 0, .ref 55, .int x3] [] (hpS s) (kZ K) := by
  have hq : prog[309]? = some pm309 := rfl
  unfold wl_34 at k
  refine Ex.seg hq 5 (j := 1138) (L' := [.float 0, .ref 0, .ref 55, .int x3]) (S' := [.int (x3 + (1 : Int32)), .float 0, .ref 0]) (h' := hpS s) rfl ?_
  obtain ⟨hin, k⟩ := k
  refine Ex.nx hq rfl (L' := [.float 0, .ref 0, .ref 55, .int x3]) (S' := [.int (sc.2 ((x3 + (1 : Int32))).toNatClampNeg), .ref 0]) (h' := hpS s) (by simp only [stp, pial, hin, if_true]) ?_
  refine Ex.cl hq rfl rfl ?_
  refine Rn.mono (q_179 (d := d + 62) (sc.2 ((x3 + (1 : Int32))).toNatClampNeg) s k) ?_
  rintro _ _ ⟨r2, s1, rfl, rfl, k⟩
  show Ex sc (d + 67) 309 1140 [.float 0, .ref 0, .ref 55, .int x3] [.int r2] (hpS s1) _
  refine Ex.seg hq 5 (j := 1145) (L' := [.float 0, .ref 0, .ref 55, .int x3]) (S' := [.int (x3 + (1 : Int32)), .float 0, .ref 55, .int r2]) (h' := hpS s1) rfl ?_
  obtain ⟨hin, k⟩ := k
  refine Ex.nx hq rfl (L' := [.float 0, .ref 0, .ref 55, .int x3]) (S' := [.int (sc.2 ((x3 + (1 : Int32))).toNatClampNeg), .ref 55, .int r2]) (h' := hpS s1) (by simp only [stp, pial, hin, if_true]) ?_
  refine Ex.cl hq rfl rfl ?_
  refine Rn.mono (q_282 (d := d + 65) (sc.2 ((x3 + (1 : Int32))).toNatClampNeg) s1 k) ?_
  rintro _ _ ⟨r4, s3, rfl, rfl, k⟩
  show Ex sc (d + 67) 309 1147 [.float 0, .ref 0, .ref 55, .int x3] [.int r4, .int r2] (hpS s3) _
  refine Ex.i2 hq rfl (fun c => ?_) (fun c => ?_)
  · have k := k.1 c
    exact hX1150 x3 s3 k
  · have k := k.2 c
    refine Ex.seg hq 1 (j := 1149) (L' := [.float 0, .ref 0, .ref 55, .int x3]) (S' := [.int (0 : Int32)]) (h' := hpS s3) rfl ?_
    exact Ex.zr hq rfl rfl (Or.inl rfl) ⟨(0 : Int32), s3, rfl, (Or.inl rfl), rfl, k⟩
end LW
