/-! ===== the law's loop out of an invariant, printed by wip/whole/genloop.py ===== -/
section CT2
variable {sc : Nat × (Nat → Int32)}
set_option maxRecDepth 200000 in
set_option maxHeartbeats 8000000 in
theorem ct_185 : pex prog sc 3000 999 185 0 [.ref 55] [] (List.take 55 (hpS s00) ++ [.inr (12, pD12)]) = some (none, hpS s00) := rfl
set_option maxRecDepth 100000 in
theorem ct_start {K : Option Value → PH → Prop} (k : Ex sc 1000 309 10 [.float 0, .ref 0, .ref 55, .int 0] [] (hpS s00) K) : Ex sc 1000 309 0 (pent [.float 0] 4) [] [] K := by
  have hq : prog[309]? = some pm309 := rfl
  refine Ex.seg hq 2 (j := 2) (L' := pent [.float 0] 4) (S' := [.ref 0, .ref 0]) (h' := [.inr (11, pD11)]) rfl ?_
  refine Ex.cl (d := 999) hq rfl rfl ?_
  refine Rn.of (L := [.ref 0]) (q := pm126) rfl rfl rfl ?_
  refine ⟨800, none, _, ct_126, ?_⟩
  show Ex sc 1000 309 3 (pent [.float 0] 4) [.ref 0] (List.take 55 (hpS s00)) K
  refine Ex.seg hq 3 (j := 6) (L' := [.float 0, .ref 0, pu, pu]) (S' := [.ref 55, .ref 55]) (h' := List.take 55 (hpS s00) ++ [.inr (12, pD12)]) rfl ?_
  refine Ex.cl (d := 999) hq rfl rfl ?_
  refine Rn.of (L := [.ref 55]) (q := pm185) rfl rfl rfl ?_
  refine ⟨3000, none, _, ct_185, ?_⟩
  show Ex sc 1000 309 7 [.float 0, .ref 0, pu, pu] [.ref 55] (hpS s00) K
  refine Ex.seg hq 3 (j := 10) (L' := [.float 0, .ref 0, .ref 55, .int 0]) (S' := []) (h' := hpS s00) rfl ?_
  exact k
end CT2
/-- case 0: X behind equal answers, F behind others -/
def st_0 (a1 : Int32) (s : ST) (X F : ST → Prop) : Prop := w_127 a1 s (fun r2 s1 => w_188 a1 s1 (fun r4 s3 => ((r2 = r4 → X s3) ∧ (¬ (r2 = r4) → F s3))))
theorem wl_of_0 {sc : Nat × (Nat → Int32)} {X1150 K : Int32 → ST → Prop} (x3 : Int32) (s : ST) (p1 : pin (x3 + (1 : Int32)) sc.1 = true) (h : st_0 (sc.2 ((x3 + (1 : Int32))).toNatClampNeg) s (X1150 x3) (K (0 : Int32))) : wl_0 sc x3 s X1150 K := by
  unfold wl_0
  simp only [p1, true_and]
  exact h
/-- case 1: X behind equal answers, F behind others -/
def st_1 (a1 : Int32) (s : ST) (X F : ST → Prop) : Prop := w_128 a1 s (fun r2 s1 => w_192 a1 s1 (fun r4 s3 => ((r2 = r4 → X s3) ∧ (¬ (r2 = r4) → F s3))))
theorem wl_of_1 {sc : Nat × (Nat → Int32)} {X1150 K : Int32 → ST → Prop} (x3 : Int32) (s : ST) (p1 : pin (x3 + (1 : Int32)) sc.1 = true) (h : st_1 (sc.2 ((x3 + (1 : Int32))).toNatClampNeg) s (X1150 x3) (K (0 : Int32))) : wl_1 sc x3 s X1150 K := by
  unfold wl_1
  simp only [p1, true_and]
  exact h
/-- case 2: X behind equal answers, F behind others -/
def st_2 (a1 : Int32) (a2 : Int32) (a3 : Int32) (a4 : Int32) (a5 : Int32) (a6 : Int32) (a7 : Int32) (a8 : Int32) (a9 : Int32) (s : ST) (X F : ST → Prop) : Prop := w_129 a1 a2 a3 a4 a5 a6 a7 a8 a9 s (fun r2 s1 => w_193 a1 a2 a3 a4 a5 a6 a7 a8 a9 s1 (fun r4 s3 => ((r2 = r4 → X s3) ∧ (¬ (r2 = r4) → F s3))))
theorem wl_of_2 {sc : Nat × (Nat → Int32)} {X1150 K : Int32 → ST → Prop} (x3 : Int32) (s : ST) (p1 : pin (x3 + (1 : Int32)) sc.1 = true) (p2 : pin (x3 + (2 : Int32)) sc.1 = true) (p3 : pin (x3 + (3 : Int32)) sc.1 = true) (p4 : pin (x3 + (4 : Int32)) sc.1 = true) (p5 : pin (x3 + (5 : Int32)) sc.1 = true) (p6 : pin (x3 + (6 : Int32)) sc.1 = true) (p7 : pin (x3 + (7 : Int32)) sc.1 = true) (p8 : pin (x3 + (8 : Int32)) sc.1 = true) (p9 : pin (x3 + (9 : Int32)) sc.1 = true) (h : st_2 (sc.2 ((x3 + (1 : Int32))).toNatClampNeg) (sc.2 ((x3 + (2 : Int32))).toNatClampNeg) (sc.2 ((x3 + (3 : Int32))).toNatClampNeg) (sc.2 ((x3 + (4 : Int32))).toNatClampNeg) (sc.2 ((x3 + (5 : Int32))).toNatClampNeg) (sc.2 ((x3 + (6 : Int32))).toNatClampNeg) (sc.2 ((x3 + (7 : Int32))).toNatClampNeg) (sc.2 ((x3 + (8 : Int32))).toNatClampNeg) (sc.2 ((x3 + (9 : Int32))).toNatClampNeg) s (X1150 x3) (K (0 : Int32))) : wl_2 sc x3 s X1150 K := by
  unfold wl_2
  simp only [p1, p2, p3, p4, p5, p6, p7, p8, p9, true_and]
  exact h
/-- case 3: X behind equal answers, F behind others -/
def st_3 (a1 : Int32) (a2 : Int32) (s : ST) (X F : ST → Prop) : Prop := w_131 a1 a2 s (fun r2 s1 => w_195 a1 a2 s1 (fun r4 s3 => ((r2 = r4 → X s3) ∧ (¬ (r2 = r4) → F s3))))
theorem wl_of_3 {sc : Nat × (Nat → Int32)} {X1150 K : Int32 → ST → Prop} (x3 : Int32) (s : ST) (p1 : pin (x3 + (1 : Int32)) sc.1 = true) (p2 : pin (x3 + (2 : Int32)) sc.1 = true) (h : st_3 (sc.2 ((x3 + (1 : Int32))).toNatClampNeg) (sc.2 ((x3 + (2 : Int32))).toNatClampNeg) s (X1150 x3) (K (0 : Int32))) : wl_3 sc x3 s X1150 K := by
  unfold wl_3
  simp only [p1, p2, true_and]
  exact h
/-- case 4: X behind equal answers, F behind others -/
def st_4 (a1 : Int32) (a2 : Int32) (a3 : Int32) (s : ST) (X F : ST → Prop) : Prop := w_132 a1 a2 a3 s (fun r2 s1 => w_198 a1 a2 a3 s1 (fun r4 s3 => ((r2 = r4 → X s3) ∧ (¬ (r2 = r4) → F s3))))
theorem wl_of_4 {sc : Nat × (Nat → Int32)} {X1150 K : Int32 → ST → Prop} (x3 : Int32) (s : ST) (p1 : pin (x3 + (1 : Int32)) sc.1 = true) (p2 : pin (x3 + (2 : Int32)) sc.1 = true) (p3 : pin (x3 + (3 : Int32)) sc.1 = true) (h : st_4 (sc.2 ((x3 + (1 : Int32))).toNatClampNeg) (sc.2 ((x3 + (2 : Int32))).toNatClampNeg) (sc.2 ((x3 + (3 : Int32))).toNatClampNeg) s (X1150 x3) (K (0 : Int32))) : wl_4 sc x3 s X1150 K := by
  unfold wl_4
  simp only [p1, p2, p3, true_and]
  exact h
/-- case 5: X behind equal answers, F behind others -/
def st_5 (a1 : Int32) (a2 : Int32) (a3 : Int32) (s : ST) (X F : ST → Prop) : Prop := w_133 a1 a2 a3 s (fun r2 s1 => w_199 a1 a2 a3 s1 (fun r4 s3 => ((r2 = r4 → X s3) ∧ (¬ (r2 = r4) → F s3))))
theorem wl_of_5 {sc : Nat × (Nat → Int32)} {X1150 K : Int32 → ST → Prop} (x3 : Int32) (s : ST) (p1 : pin (x3 + (1 : Int32)) sc.1 = true) (p2 : pin (x3 + (2 : Int32)) sc.1 = true) (p3 : pin (x3 + (3 : Int32)) sc.1 = true) (h : st_5 (sc.2 ((x3 + (1 : Int32))).toNatClampNeg) (sc.2 ((x3 + (2 : Int32))).toNatClampNeg) (sc.2 ((x3 + (3 : Int32))).toNatClampNeg) s (X1150 x3) (K (0 : Int32))) : wl_5 sc x3 s X1150 K := by
  unfold wl_5
  simp only [p1, p2, p3, true_and]
  exact h
/-- case 6: X behind equal answers, F behind others -/
def st_6 (a1 : Int32) (a2 : Int32) (a3 : Int32) (a4 : Int32) (a5 : Int32) (s : ST) (X F : ST → Prop) : Prop := w_134 a1 a2 a3 a4 a5 s (fun r2 s1 => w_201 a1 a2 a3 a4 a5 s1 (fun r4 s3 => ((r2 = r4 → X s3) ∧ (¬ (r2 = r4) → F s3))))
theorem wl_of_6 {sc : Nat × (Nat → Int32)} {X1150 K : Int32 → ST → Prop} (x3 : Int32) (s : ST) (p1 : pin (x3 + (1 : Int32)) sc.1 = true) (p2 : pin (x3 + (2 : Int32)) sc.1 = true) (p3 : pin (x3 + (3 : Int32)) sc.1 = true) (p4 : pin (x3 + (4 : Int32)) sc.1 = true) (p5 : pin (x3 + (5 : Int32)) sc.1 = true) (h : st_6 (sc.2 ((x3 + (1 : Int32))).toNatClampNeg) (sc.2 ((x3 + (2 : Int32))).toNatClampNeg) (sc.2 ((x3 + (3 : Int32))).toNatClampNeg) (sc.2 ((x3 + (4 : Int32))).toNatClampNeg) (sc.2 ((x3 + (5 : Int32))).toNatClampNeg) s (X1150 x3) (K (0 : Int32))) : wl_6 sc x3 s X1150 K := by
  unfold wl_6
  simp only [p1, p2, p3, p4, p5, true_and]
  exact h
/-- case 7: X behind equal answers, F behind others -/
def st_7 (a1 : Int32) (a2 : Int32) (a3 : Int32) (s : ST) (X F : ST → Prop) : Prop := w_137 a1 a2 a3 s (fun r2 s1 => w_226 a1 a2 a3 s1 (fun r4 s3 => ((r2 = r4 → X s3) ∧ (¬ (r2 = r4) → F s3))))
theorem wl_of_7 {sc : Nat × (Nat → Int32)} {X1150 K : Int32 → ST → Prop} (x3 : Int32) (s : ST) (p1 : pin (x3 + (1 : Int32)) sc.1 = true) (p2 : pin (x3 + (2 : Int32)) sc.1 = true) (p3 : pin (x3 + (3 : Int32)) sc.1 = true) (h : st_7 (sc.2 ((x3 + (1 : Int32))).toNatClampNeg) (sc.2 ((x3 + (2 : Int32))).toNatClampNeg) (sc.2 ((x3 + (3 : Int32))).toNatClampNeg) s (X1150 x3) (K (0 : Int32))) : wl_7 sc x3 s X1150 K := by
  unfold wl_7
  simp only [p1, p2, p3, true_and]
  exact h
/-- case 8: X behind equal answers, F behind others -/
def st_8 (a1 : Int32) (a2 : Int32) (s : ST) (X F : ST → Prop) : Prop := w_139 a1 a2 s (fun r2 s1 => w_237 a1 a2 s1 (fun r4 s3 => ((r2 = r4 → X s3) ∧ (¬ (r2 = r4) → F s3))))
theorem wl_of_8 {sc : Nat × (Nat → Int32)} {X1150 K : Int32 → ST → Prop} (x3 : Int32) (s : ST) (p1 : pin (x3 + (1 : Int32)) sc.1 = true) (p2 : pin (x3 + (2 : Int32)) sc.1 = true) (h : st_8 (sc.2 ((x3 + (1 : Int32))).toNatClampNeg) (sc.2 ((x3 + (2 : Int32))).toNatClampNeg) s (X1150 x3) (K (0 : Int32))) : wl_8 sc x3 s X1150 K := by
  unfold wl_8
  simp only [p1, p2, true_and]
  exact h
/-- case 9: X behind equal answers, F behind others -/
def st_9 (a1 : Int32) (a2 : Int32) (s : ST) (X F : ST → Prop) : Prop := w_140 a1 a2 s (fun r2 s1 => w_238 a1 a2 s1 (fun r4 s3 => ((r2 = r4 → X s3) ∧ (¬ (r2 = r4) → F s3))))
theorem wl_of_9 {sc : Nat × (Nat → Int32)} {X1150 K : Int32 → ST → Prop} (x3 : Int32) (s : ST) (p1 : pin (x3 + (1 : Int32)) sc.1 = true) (p2 : pin (x3 + (2 : Int32)) sc.1 = true) (h : st_9 (sc.2 ((x3 + (1 : Int32))).toNatClampNeg) (sc.2 ((x3 + (2 : Int32))).toNatClampNeg) s (X1150 x3) (K (0 : Int32))) : wl_9 sc x3 s X1150 K := by
  unfold wl_9
  simp only [p1, p2, true_and]
  exact h
/-- case 10: X behind equal answers, F behind others -/
def st_10 (a1 : Int32) (s : ST) (X F : ST → Prop) : Prop := w_141 a1 s (fun r2 s1 => w_241 a1 s1 (fun r4 s3 => ((r2 = r4 → X s3) ∧ (¬ (r2 = r4) → F s3))))
theorem wl_of_10 {sc : Nat × (Nat → Int32)} {X1150 K : Int32 → ST → Prop} (x3 : Int32) (s : ST) (p1 : pin (x3 + (1 : Int32)) sc.1 = true) (h : st_10 (sc.2 ((x3 + (1 : Int32))).toNatClampNeg) s (X1150 x3) (K (0 : Int32))) : wl_10 sc x3 s X1150 K := by
  unfold wl_10
  simp only [p1, true_and]
  exact h
/-- case 11: X behind equal answers, F behind others -/
def st_11 (a1 : Int32) (a2 : Int32) (s : ST) (X F : ST → Prop) : Prop := w_142 a1 a2 s (fun r2 s1 => w_242 a1 a2 s1 (fun r4 s3 => ((r2 = r4 → X s3) ∧ (¬ (r2 = r4) → F s3))))
theorem wl_of_11 {sc : Nat × (Nat → Int32)} {X1150 K : Int32 → ST → Prop} (x3 : Int32) (s : ST) (p1 : pin (x3 + (1 : Int32)) sc.1 = true) (p2 : pin (x3 + (2 : Int32)) sc.1 = true) (h : st_11 (sc.2 ((x3 + (1 : Int32))).toNatClampNeg) (sc.2 ((x3 + (2 : Int32))).toNatClampNeg) s (X1150 x3) (K (0 : Int32))) : wl_11 sc x3 s X1150 K := by
  unfold wl_11
  simp only [p1, p2, true_and]
  exact h
/-- case 12: X behind equal answers, F behind others -/
def st_12 (a1 : Int32) (a2 : Int32) (s : ST) (X F : ST → Prop) : Prop := w_143 a1 a2 s (fun r2 s1 => w_245 a1 a2 s1 (fun r4 s3 => ((r2 = r4 → X s3) ∧ (¬ (r2 = r4) → F s3))))
theorem wl_of_12 {sc : Nat × (Nat → Int32)} {X1150 K : Int32 → ST → Prop} (x3 : Int32) (s : ST) (p1 : pin (x3 + (1 : Int32)) sc.1 = true) (p2 : pin (x3 + (2 : Int32)) sc.1 = true) (h : st_12 (sc.2 ((x3 + (1 : Int32))).toNatClampNeg) (sc.2 ((x3 + (2 : Int32))).toNatClampNeg) s (X1150 x3) (K (0 : Int32))) : wl_12 sc x3 s X1150 K := by
  unfold wl_12
  simp only [p1, p2, true_and]
  exact h
/-- case 13: X behind equal answers, F behind others -/
def st_13 (a1 : Int32) (a2 : Int32) (a3 : Int32) (s : ST) (X F : ST → Prop) : Prop := ((a3 = 0 → w_147 a1 a2 (0 : Int32) s (fun r2 s1 => ((a3 = 0 → w_250 a1 a2 (0 : Int32) s1 (fun r4 s3 => ((r2 = r4 → X s3) ∧ (¬ (r2 = r4) → F s3)))) ∧ (¬ (a3 = 0) → w_250 a1 a2 (1 : Int32) s1 (fun r6 s5 => ((r2 = r6 → X s5) ∧ (¬ (r2 = r6) → F s5))))))) ∧ (¬ (a3 = 0) → w_147 a1 a2 (1 : Int32) s (fun r8 s7 => ((a3 = 0 → w_250 a1 a2 (0 : Int32) s7 (fun r10 s9 => ((r8 = r10 → X s9) ∧ (¬ (r8 = r10) → F s9)))) ∧ (¬ (a3 = 0) → w_250 a1 a2 (1 : Int32) s7 (fun r12 s11 => ((r8 = r12 → X s11) ∧ (¬ (r8 = r12) → F s11))))))))
theorem wl_of_13 {sc : Nat × (Nat → Int32)} {X1150 K : Int32 → ST → Prop} (x3 : Int32) (s : ST) (p1 : pin (x3 + (1 : Int32)) sc.1 = true) (p2 : pin (x3 + (2 : Int32)) sc.1 = true) (p3 : pin (x3 + (3 : Int32)) sc.1 = true) (h : st_13 (sc.2 ((x3 + (1 : Int32))).toNatClampNeg) (sc.2 ((x3 + (2 : Int32))).toNatClampNeg) (sc.2 ((x3 + (3 : Int32))).toNatClampNeg) s (X1150 x3) (K (0 : Int32))) : wl_13 sc x3 s X1150 K := by
  unfold wl_13
  simp only [p1, p2, p3, true_and]
  exact h
/-- case 14: X behind equal answers, F behind others -/
def st_14 (a1 : Int32) (a2 : Int32) (s : ST) (X F : ST → Prop) : Prop := w_148 a1 a2 s (fun r2 s1 => w_252 a1 a2 s1 (fun r4 s3 => ((r2 = r4 → X s3) ∧ (¬ (r2 = r4) → F s3))))
theorem wl_of_14 {sc : Nat × (Nat → Int32)} {X1150 K : Int32 → ST → Prop} (x3 : Int32) (s : ST) (p1 : pin (x3 + (1 : Int32)) sc.1 = true) (p2 : pin (x3 + (2 : Int32)) sc.1 = true) (h : st_14 (sc.2 ((x3 + (1 : Int32))).toNatClampNeg) (sc.2 ((x3 + (2 : Int32))).toNatClampNeg) s (X1150 x3) (K (0 : Int32))) : wl_14 sc x3 s X1150 K := by
  unfold wl_14
  simp only [p1, p2, true_and]
  exact h
/-- case 15: X behind equal answers, F behind others -/
def st_15 (a1 : Int32) (s : ST) (X F : ST → Prop) : Prop := w_149 a1 s (fun r2 s1 => w_227 a1 s1 (fun r4 s3 => ((r2 = r4 → X s3) ∧ (¬ (r2 = r4) → F s3))))
theorem wl_of_15 {sc : Nat × (Nat → Int32)} {X1150 K : Int32 → ST → Prop} (x3 : Int32) (s : ST) (p1 : pin (x3 + (1 : Int32)) sc.1 = true) (h : st_15 (sc.2 ((x3 + (1 : Int32))).toNatClampNeg) s (X1150 x3) (K (0 : Int32))) : wl_15 sc x3 s X1150 K := by
  unfold wl_15
  simp only [p1, true_and]
  exact h
/-- case 16: X behind equal answers, F behind others -/
def st_16 (a1 : Int32) (a2 : Int32) (a3 : Int32) (s : ST) (X F : ST → Prop) : Prop := w_150 a1 a2 a3 s (fun r2 s1 => w_257 a1 a2 a3 s1 (fun r4 s3 => ((r2 = r4 → X s3) ∧ (¬ (r2 = r4) → F s3))))
theorem wl_of_16 {sc : Nat × (Nat → Int32)} {X1150 K : Int32 → ST → Prop} (x3 : Int32) (s : ST) (p1 : pin (x3 + (1 : Int32)) sc.1 = true) (p2 : pin (x3 + (2 : Int32)) sc.1 = true) (p3 : pin (x3 + (3 : Int32)) sc.1 = true) (h : st_16 (sc.2 ((x3 + (1 : Int32))).toNatClampNeg) (sc.2 ((x3 + (2 : Int32))).toNatClampNeg) (sc.2 ((x3 + (3 : Int32))).toNatClampNeg) s (X1150 x3) (K (0 : Int32))) : wl_16 sc x3 s X1150 K := by
  unfold wl_16
  simp only [p1, p2, p3, true_and]
  exact h
/-- case 17: X behind equal answers, F behind others -/
def st_17 (a1 : Int32) (a2 : Int32) (a3 : Int32) (a4 : Int32) (s : ST) (X F : ST → Prop) : Prop := w_151 a1 a2 a3 a4 s (fun r2 s1 => w_258 a1 a2 a3 a4 s1 (fun r4 s3 => ((r2 = r4 → X s3) ∧ (¬ (r2 = r4) → F s3))))
theorem wl_of_17 {sc : Nat × (Nat → Int32)} {X1150 K : Int32 → ST → Prop} (x3 : Int32) (s : ST) (p1 : pin (x3 + (1 : Int32)) sc.1 = true) (p2 : pin (x3 + (2 : Int32)) sc.1 = true) (p3 : pin (x3 + (3 : Int32)) sc.1 = true) (p4 : pin (x3 + (4 : Int32)) sc.1 = true) (h : st_17 (sc.2 ((x3 + (1 : Int32))).toNatClampNeg) (sc.2 ((x3 + (2 : Int32))).toNatClampNeg) (sc.2 ((x3 + (3 : Int32))).toNatClampNeg) (sc.2 ((x3 + (4 : Int32))).toNatClampNeg) s (X1150 x3) (K (0 : Int32))) : wl_17 sc x3 s X1150 K := by
  unfold wl_17
  simp only [p1, p2, p3, p4, true_and]
  exact h
/-- case 18: X behind equal answers, F behind others -/
def st_18 (a1 : Int32) (a2 : Int32) (a3 : Int32) (a4 : Int32) (s : ST) (X F : ST → Prop) : Prop := w_153 a1 a2 a3 a4 s (fun r2 s1 => w_262 a1 a2 a3 a4 s1 (fun r4 s3 => (((lg_cmp r2 r4) = 0 → X s3) ∧ (¬ ((lg_cmp r2 r4) = 0) → F s3))))
theorem wl_of_18 {sc : Nat × (Nat → Int32)} {X1150 K : Int32 → ST → Prop} (x3 : Int32) (s : ST) (p1 : pin (x3 + (1 : Int32)) sc.1 = true) (p2 : pin (x3 + (2 : Int32)) sc.1 = true) (p3 : pin (x3 + (3 : Int32)) sc.1 = true) (p4 : pin (x3 + (4 : Int32)) sc.1 = true) (h : st_18 (sc.2 ((x3 + (1 : Int32))).toNatClampNeg) (sc.2 ((x3 + (2 : Int32))).toNatClampNeg) (sc.2 ((x3 + (3 : Int32))).toNatClampNeg) (sc.2 ((x3 + (4 : Int32))).toNatClampNeg) s (X1150 x3) (K (0 : Int32))) : wl_18 sc x3 s X1150 K := by
  unfold wl_18
  simp only [p1, p2, p3, p4, true_and]
  exact h
/-- case 19: X behind equal answers, F behind others -/
def st_19 (a1 : Int32) (a2 : Int32) (a3 : Int32) (a4 : Int32) (s : ST) (X F : ST → Prop) : Prop := w_154 a1 a2 a3 a4 s (fun r2 s1 => w_263 a1 a2 a3 a4 s1 (fun r4 s3 => ((r2 = r4 → X s3) ∧ (¬ (r2 = r4) → F s3))))
theorem wl_of_19 {sc : Nat × (Nat → Int32)} {X1150 K : Int32 → ST → Prop} (x3 : Int32) (s : ST) (p1 : pin (x3 + (1 : Int32)) sc.1 = true) (p2 : pin (x3 + (2 : Int32)) sc.1 = true) (p3 : pin (x3 + (3 : Int32)) sc.1 = true) (p4 : pin (x3 + (4 : Int32)) sc.1 = true) (h : st_19 (sc.2 ((x3 + (1 : Int32))).toNatClampNeg) (sc.2 ((x3 + (2 : Int32))).toNatClampNeg) (sc.2 ((x3 + (3 : Int32))).toNatClampNeg) (sc.2 ((x3 + (4 : Int32))).toNatClampNeg) s (X1150 x3) (K (0 : Int32))) : wl_19 sc x3 s X1150 K := by
  unfold wl_19
  simp only [p1, p2, p3, p4, true_and]
  exact h
/-- case 20: X behind equal answers, F behind others -/
def st_20 (a1 : Int32) (a2 : Int32) (a3 : Int32) (s : ST) (X F : ST → Prop) : Prop := ((a2 = 0 → w_159 a1 (0 : Int32) a3 s (fun r2 s1 => ((a2 = 0 → w_265 a1 (0 : Int32) a3 s1 (fun r4 s3 => ((r2 = r4 → X s3) ∧ (¬ (r2 = r4) → F s3)))) ∧ (¬ (a2 = 0) → w_265 a1 (1 : Int32) a3 s1 (fun r6 s5 => ((r2 = r6 → X s5) ∧ (¬ (r2 = r6) → F s5))))))) ∧ (¬ (a2 = 0) → w_159 a1 (1 : Int32) a3 s (fun r8 s7 => ((a2 = 0 → w_265 a1 (0 : Int32) a3 s7 (fun r10 s9 => ((r8 = r10 → X s9) ∧ (¬ (r8 = r10) → F s9)))) ∧ (¬ (a2 = 0) → w_265 a1 (1 : Int32) a3 s7 (fun r12 s11 => ((r8 = r12 → X s11) ∧ (¬ (r8 = r12) → F s11))))))))
theorem wl_of_20 {sc : Nat × (Nat → Int32)} {X1150 K : Int32 → ST → Prop} (x3 : Int32) (s : ST) (p1 : pin (x3 + (1 : Int32)) sc.1 = true) (p2 : pin (x3 + (2 : Int32)) sc.1 = true) (p3 : pin (x3 + (3 : Int32)) sc.1 = true) (h : st_20 (sc.2 ((x3 + (1 : Int32))).toNatClampNeg) (sc.2 ((x3 + (2 : Int32))).toNatClampNeg) (sc.2 ((x3 + (3 : Int32))).toNatClampNeg) s (X1150 x3) (K (0 : Int32))) : wl_20 sc x3 s X1150 K := by
  unfold wl_20
  simp only [p1, p2, p3, true_and]
  exact h
/-- case 21: X behind equal answers, F behind others -/
def st_21 (a1 : Int32) (a2 : Int32) (a3 : Int32) (a4 : Int32) (s : ST) (X F : ST → Prop) : Prop := ((a2 = 0 → ((a4 = 0 → w_160 a1 (0 : Int32) a3 (0 : Int32) s (fun r2 s1 => ((a2 = 0 → ((a4 = 0 → w_267 a1 (0 : Int32) a3 (0 : Int32) s1 (fun r4 s3 => ((r2 = r4 → X s3) ∧ (¬ (r2 = r4) → F s3)))) ∧ (¬ (a4 = 0) → w_267 a1 (0 : Int32) a3 (1 : Int32) s1 (fun r6 s5 => ((r2 = r6 → X s5) ∧ (¬ (r2 = r6) → F s5)))))) ∧ (¬ (a2 = 0) → ((a4 = 0 → w_267 a1 (1 : Int32) a3 (0 : Int32) s1 (fun r8 s7 => ((r2 = r8 → X s7) ∧ (¬ (r2 = r8) → F s7)))) ∧ (¬ (a4 = 0) → w_267 a1 (1 : Int32) a3 (1 : Int32) s1 (fun r10 s9 => ((r2 = r10 → X s9) ∧ (¬ (r2 = r10) → F s9))))))))) ∧ (¬ (a4 = 0) → w_160 a1 (0 : Int32) a3 (1 : Int32) s (fun r12 s11 => ((a2 = 0 → ((a4 = 0 → w_267 a1 (0 : Int32) a3 (0 : Int32) s11 (fun r14 s13 => ((r12 = r14 → X s13) ∧ (¬ (r12 = r14) → F s13)))) ∧ (¬ (a4 = 0) → w_267 a1 (0 : Int32) a3 (1 : Int32) s11 (fun r16 s15 => ((r12 = r16 → X s15) ∧ (¬ (r12 = r16) → F s15)))))) ∧ (¬ (a2 = 0) → ((a4 = 0 → w_267 a1 (1 : Int32) a3 (0 : Int32) s11 (fun r18 s17 => ((r12 = r18 → X s17) ∧ (¬ (r12 = r18) → F s17)))) ∧ (¬ (a4 = 0) → w_267 a1 (1 : Int32) a3 (1 : Int32) s11 (fun r20 s19 => ((r12 = r20 → X s19) ∧ (¬ (r12 = r20) → F s19))))))))))) ∧ (¬ (a2 = 0) → ((a4 = 0 → w_160 a1 (1 : Int32) a3 (0 : Int32) s (fun r22 s21 => ((a2 = 0 → ((a4 = 0 → w_267 a1 (0 : Int32) a3 (0 : Int32) s21 (fun r24 s23 => ((r22 = r24 → X s23) ∧ (¬ (r22 = r24) → F s23)))) ∧ (¬ (a4 = 0) → w_267 a1 (0 : Int32) a3 (1 : Int32) s21 (fun r26 s25 => ((r22 = r26 → X s25) ∧ (¬ (r22 = r26) → F s25)))))) ∧ (¬ (a2 = 0) → ((a4 = 0 → w_267 a1 (1 : Int32) a3 (0 : Int32) s21 (fun r28 s27 => ((r22 = r28 → X s27) ∧ (¬ (r22 = r28) → F s27)))) ∧ (¬ (a4 = 0) → w_267 a1 (1 : Int32) a3 (1 : Int32) s21 (fun r30 s29 => ((r22 = r30 → X s29) ∧ (¬ (r22 = r30) → F s29))))))))) ∧ (¬ (a4 = 0) → w_160 a1 (1 : Int32) a3 (1 : Int32) s (fun r32 s31 => ((a2 = 0 → ((a4 = 0 → w_267 a1 (0 : Int32) a3 (0 : Int32) s31 (fun r34 s33 => ((r32 = r34 → X s33) ∧ (¬ (r32 = r34) → F s33)))) ∧ (¬ (a4 = 0) → w_267 a1 (0 : Int32) a3 (1 : Int32) s31 (fun r36 s35 => ((r32 = r36 → X s35) ∧ (¬ (r32 = r36) → F s35)))))) ∧ (¬ (a2 = 0) → ((a4 = 0 → w_267 a1 (1 : Int32) a3 (0 : Int32) s31 (fun r38 s37 => ((r32 = r38 → X s37) ∧ (¬ (r32 = r38) → F s37)))) ∧ (¬ (a4 = 0) → w_267 a1 (1 : Int32) a3 (1 : Int32) s31 (fun r40 s39 => ((r32 = r40 → X s39) ∧ (¬ (r32 = r40) → F s39))))))))))))
theorem wl_of_21 {sc : Nat × (Nat → Int32)} {X1150 K : Int32 → ST → Prop} (x3 : Int32) (s : ST) (p1 : pin (x3 + (1 : Int32)) sc.1 = true) (p2 : pin (x3 + (2 : Int32)) sc.1 = true) (p3 : pin (x3 + (3 : Int32)) sc.1 = true) (p4 : pin (x3 + (4 : Int32)) sc.1 = true) (h : st_21 (sc.2 ((x3 + (1 : Int32))).toNatClampNeg) (sc.2 ((x3 + (2 : Int32))).toNatClampNeg) (sc.2 ((x3 + (3 : Int32))).toNatClampNeg) (sc.2 ((x3 + (4 : Int32))).toNatClampNeg) s (X1150 x3) (K (0 : Int32))) : wl_21 sc x3 s X1150 K := by
  unfold wl_21
  simp only [p1, p2, p3, p4, true_and]
  exact h
/-- case 22: X behind equal answers, F behind others -/
def st_22 (a1 : Int32) (s : ST) (X F : ST → Prop) : Prop := w_161 a1 s (fun r2 s1 => w_268 a1 s1 (fun r4 s3 => ((r2 = r4 → X s3) ∧ (¬ (r2 = r4) → F s3))))
theorem wl_of_22 {sc : Nat × (Nat → Int32)} {X1150 K : Int32 → ST → Prop} (x3 : Int32) (s : ST) (p1 : pin (x3 + (1 : Int32)) sc.1 = true) (h : st_22 (sc.2 ((x3 + (1 : Int32))).toNatClampNeg) s (X1150 x3) (K (0 : Int32))) : wl_22 sc x3 s X1150 K := by
  unfold wl_22
  simp only [p1, true_and]
  exact h
/-- case 23: X behind equal answers, F behind others -/
def st_23 (a1 : Int32) (a2 : Int32) (a3 : Int32) (s : ST) (X F : ST → Prop) : Prop := w_164 a1 a2 a3 s (fun r2 s1 => w_269 a1 a2 a3 s1 (fun r4 s3 => ((r2 = r4 → X s3) ∧ (¬ (r2 = r4) → F s3))))
theorem wl_of_23 {sc : Nat × (Nat → Int32)} {X1150 K : Int32 → ST → Prop} (x3 : Int32) (s : ST) (p1 : pin (x3 + (1 : Int32)) sc.1 = true) (p2 : pin (x3 + (2 : Int32)) sc.1 = true) (p3 : pin (x3 + (3 : Int32)) sc.1 = true) (h : st_23 (sc.2 ((x3 + (1 : Int32))).toNatClampNeg) (sc.2 ((x3 + (2 : Int32))).toNatClampNeg) (sc.2 ((x3 + (3 : Int32))).toNatClampNeg) s (X1150 x3) (K (0 : Int32))) : wl_23 sc x3 s X1150 K := by
  unfold wl_23
  simp only [p1, p2, p3, true_and]
  exact h
/-- case 24: X behind equal answers, F behind others -/
def st_24 (a1 : Int32) (a2 : Int32) (a3 : Int32) (s : ST) (X F : ST → Prop) : Prop := w_168 a1 a2 a3 s (fun r2 s1 => w_270 a1 a2 a3 s1 (fun r4 s3 => ((r2 = r4 → X s3) ∧ (¬ (r2 = r4) → F s3))))
theorem wl_of_24 {sc : Nat × (Nat → Int32)} {X1150 K : Int32 → ST → Prop} (x3 : Int32) (s : ST) (p1 : pin (x3 + (1 : Int32)) sc.1 = true) (p2 : pin (x3 + (2 : Int32)) sc.1 = true) (p3 : pin (x3 + (3 : Int32)) sc.1 = true) (h : st_24 (sc.2 ((x3 + (1 : Int32))).toNatClampNeg) (sc.2 ((x3 + (2 : Int32))).toNatClampNeg) (sc.2 ((x3 + (3 : Int32))).toNatClampNeg) s (X1150 x3) (K (0 : Int32))) : wl_24 sc x3 s X1150 K := by
  unfold wl_24
  simp only [p1, p2, p3, true_and]
  exact h
/-- case 25: X behind equal answers, F behind others -/
def st_25 (a1 : Int32) (a2 : Int32) (s : ST) (X F : ST → Prop) : Prop := w_169 a1 a2 s (fun r2 s1 => w_272 a1 a2 s1 (fun r4 s3 => ((r2 = r4 → X s3) ∧ (¬ (r2 = r4) → F s3))))
theorem wl_of_25 {sc : Nat × (Nat → Int32)} {X1150 K : Int32 → ST → Prop} (x3 : Int32) (s : ST) (p1 : pin (x3 + (1 : Int32)) sc.1 = true) (p2 : pin (x3 + (2 : Int32)) sc.1 = true) (h : st_25 (sc.2 ((x3 + (1 : Int32))).toNatClampNeg) (sc.2 ((x3 + (2 : Int32))).toNatClampNeg) s (X1150 x3) (K (0 : Int32))) : wl_25 sc x3 s X1150 K := by
  unfold wl_25
  simp only [p1, p2, true_and]
  exact h
/-- case 26: X behind equal answers, F behind others -/
def st_26 (a1 : Int32) (s : ST) (X F : ST → Prop) : Prop := w_170 a1 s (fun r2 s1 => w_273 a1 s1 (fun r4 s3 => ((r2 = r4 → X s3) ∧ (¬ (r2 = r4) → F s3))))
theorem wl_of_26 {sc : Nat × (Nat → Int32)} {X1150 K : Int32 → ST → Prop} (x3 : Int32) (s : ST) (p1 : pin (x3 + (1 : Int32)) sc.1 = true) (h : st_26 (sc.2 ((x3 + (1 : Int32))).toNatClampNeg) s (X1150 x3) (K (0 : Int32))) : wl_26 sc x3 s X1150 K := by
  unfold wl_26
  simp only [p1, true_and]
  exact h
/-- case 27: X behind equal answers, F behind others -/
def st_27 (a1 : Int32) (s : ST) (X F : ST → Prop) : Prop := w_172 a1 s (fun r2 s1 => w_243 a1 s1 (fun r4 s3 => ((r2 = r4 → X s3) ∧ (¬ (r2 = r4) → F s3))))
theorem wl_of_27 {sc : Nat × (Nat → Int32)} {X1150 K : Int32 → ST → Prop} (x3 : Int32) (s : ST) (p1 : pin (x3 + (1 : Int32)) sc.1 = true) (h : st_27 (sc.2 ((x3 + (1 : Int32))).toNatClampNeg) s (X1150 x3) (K (0 : Int32))) : wl_27 sc x3 s X1150 K := by
  unfold wl_27
  simp only [p1, true_and]
  exact h
/-- case 28: X behind equal answers, F behind others -/
def st_28 (a1 : Int32) (s : ST) (X F : ST → Prop) : Prop := w_173 a1 s (fun r2 s1 => w_274 a1 s1 (fun r4 s3 => ((r2 = r4 → X s3) ∧ (¬ (r2 = r4) → F s3))))
theorem wl_of_28 {sc : Nat × (Nat → Int32)} {X1150 K : Int32 → ST → Prop} (x3 : Int32) (s : ST) (p1 : pin (x3 + (1 : Int32)) sc.1 = true) (h : st_28 (sc.2 ((x3 + (1 : Int32))).toNatClampNeg) s (X1150 x3) (K (0 : Int32))) : wl_28 sc x3 s X1150 K := by
  unfold wl_28
  simp only [p1, true_and]
  exact h
/-- case 29: X behind equal answers, F behind others -/
def st_29 (a1 : Int32) (s : ST) (X F : ST → Prop) : Prop := w_174 a1 s (fun r2 s1 => w_275 a1 s1 (fun r4 s3 => ((r2 = r4 → X s3) ∧ (¬ (r2 = r4) → F s3))))
theorem wl_of_29 {sc : Nat × (Nat → Int32)} {X1150 K : Int32 → ST → Prop} (x3 : Int32) (s : ST) (p1 : pin (x3 + (1 : Int32)) sc.1 = true) (h : st_29 (sc.2 ((x3 + (1 : Int32))).toNatClampNeg) s (X1150 x3) (K (0 : Int32))) : wl_29 sc x3 s X1150 K := by
  unfold wl_29
  simp only [p1, true_and]
  exact h
/-- case 30: X behind equal answers, F behind others -/
def st_30 (a1 : Int32) (a2 : Int32) (a3 : Int32) (s : ST) (X F : ST → Prop) : Prop := w_175 a1 a2 a3 s (fun r2 s1 => w_276 a1 a2 a3 s1 (fun r4 s3 => ((r2 = r4 → X s3) ∧ (¬ (r2 = r4) → F s3))))
theorem wl_of_30 {sc : Nat × (Nat → Int32)} {X1150 K : Int32 → ST → Prop} (x3 : Int32) (s : ST) (p1 : pin (x3 + (1 : Int32)) sc.1 = true) (p2 : pin (x3 + (2 : Int32)) sc.1 = true) (p3 : pin (x3 + (3 : Int32)) sc.1 = true) (h : st_30 (sc.2 ((x3 + (1 : Int32))).toNatClampNeg) (sc.2 ((x3 + (2 : Int32))).toNatClampNeg) (sc.2 ((x3 + (3 : Int32))).toNatClampNeg) s (X1150 x3) (K (0 : Int32))) : wl_30 sc x3 s X1150 K := by
  unfold wl_30
  simp only [p1, p2, p3, true_and]
  exact h
/-- case 31: X behind equal answers, F behind others -/
def st_31 (a1 : Int32) (s : ST) (X F : ST → Prop) : Prop := w_176 a1 s (fun r2 s1 => w_279 a1 s1 (fun r4 s3 => ((r2 = r4 → X s3) ∧ (¬ (r2 = r4) → F s3))))
theorem wl_of_31 {sc : Nat × (Nat → Int32)} {X1150 K : Int32 → ST → Prop} (x3 : Int32) (s : ST) (p1 : pin (x3 + (1 : Int32)) sc.1 = true) (h : st_31 (sc.2 ((x3 + (1 : Int32))).toNatClampNeg) s (X1150 x3) (K (0 : Int32))) : wl_31 sc x3 s X1150 K := by
  unfold wl_31
  simp only [p1, true_and]
  exact h
/-- case 32: X behind equal answers, F behind others -/
def st_32 (a1 : Int32) (s : ST) (X F : ST → Prop) : Prop := w_177 a1 s (fun r2 s1 => w_280 a1 s1 (fun r4 s3 => ((r2 = r4 → X s3) ∧ (¬ (r2 = r4) → F s3))))
theorem wl_of_32 {sc : Nat × (Nat → Int32)} {X1150 K : Int32 → ST → Prop} (x3 : Int32) (s : ST) (p1 : pin (x3 + (1 : Int32)) sc.1 = true) (h : st_32 (sc.2 ((x3 + (1 : Int32))).toNatClampNeg) s (X1150 x3) (K (0 : Int32))) : wl_32 sc x3 s X1150 K := by
  unfold wl_32
  simp only [p1, true_and]
  exact h
/-- case 33: X behind equal answers, F behind others -/
def st_33 (a1 : Int32) (a2 : Int32) (s : ST) (X F : ST → Prop) : Prop := w_178 a1 a2 s (fun r2 s1 => w_281 a1 a2 s1 (fun r4 s3 => ((r2 = r4 → X s3) ∧ (¬ (r2 = r4) → F s3))))
theorem wl_of_33 {sc : Nat × (Nat → Int32)} {X1150 K : Int32 → ST → Prop} (x3 : Int32) (s : ST) (p1 : pin (x3 + (1 : Int32)) sc.1 = true) (p2 : pin (x3 + (2 : Int32)) sc.1 = true) (h : st_33 (sc.2 ((x3 + (1 : Int32))).toNatClampNeg) (sc.2 ((x3 + (2 : Int32))).toNatClampNeg) s (X1150 x3) (K (0 : Int32))) : wl_33 sc x3 s X1150 K := by
  unfold wl_33
  simp only [p1, p2, true_and]
  exact h
/-- case 34: X behind equal answers, F behind others -/
def st_34 (a1 : Int32) (s : ST) (X F : ST → Prop) : Prop := w_179 a1 s (fun r2 s1 => w_282 a1 s1 (fun r4 s3 => ((r2 = r4 → X s3) ∧ (¬ (r2 = r4) → F s3))))
theorem wl_of_34 {sc : Nat × (Nat → Int32)} {X1150 K : Int32 → ST → Prop} (x3 : Int32) (s : ST) (p1 : pin (x3 + (1 : Int32)) sc.1 = true) (h : st_34 (sc.2 ((x3 + (1 : Int32))).toNatClampNeg) s (X1150 x3) (K (0 : Int32))) : wl_34 sc x3 s X1150 K := by
  unfold wl_34
  simp only [p1, true_and]
  exact h
/-- what has to be shown of the 35 calls: an invariant goes on, and the answers are equal -/
def Steps (J : Nat → ST → Prop) (t : Nat) (s : ST) : Prop := ∀ (a : Nat → Int32) (X F : ST → Prop), (∀ s1, J (t + 1) s1 → X s1) → st_0 (a 1) s X F ∧ st_1 (a 1) s X F ∧ st_2 (a 1) (a 2) (a 3) (a 4) (a 5) (a 6) (a 7) (a 8) (a 9) s X F ∧ st_3 (a 1) (a 2) s X F ∧ st_4 (a 1) (a 2) (a 3) s X F ∧ st_5 (a 1) (a 2) (a 3) s X F ∧ st_6 (a 1) (a 2) (a 3) (a 4) (a 5) s X F ∧ st_7 (a 1) (a 2) (a 3) s X F ∧ st_8 (a 1) (a 2) s X F ∧ st_9 (a 1) (a 2) s X F ∧ st_10 (a 1) s X F ∧ st_11 (a 1) (a 2) s X F ∧ st_12 (a 1) (a 2) s X F ∧ st_13 (a 1) (a 2) (a 3) s X F ∧ st_14 (a 1) (a 2) s X F ∧ st_15 (a 1) s X F ∧ st_16 (a 1) (a 2) (a 3) s X F ∧ st_17 (a 1) (a 2) (a 3) (a 4) s X F ∧ st_18 (a 1) (a 2) (a 3) (a 4) s X F ∧ st_19 (a 1) (a 2) (a 3) (a 4) s X F ∧ st_20 (a 1) (a 2) (a 3) s X F ∧ st_21 (a 1) (a 2) (a 3) (a 4) s X F ∧ st_22 (a 1) s X F ∧ st_23 (a 1) (a 2) (a 3) s X F ∧ st_24 (a 1) (a 2) (a 3) s X F ∧ st_25 (a 1) (a 2) s X F ∧ st_26 (a 1) s X F ∧ st_27 (a 1) s X F ∧ st_28 (a 1) s X F ∧ st_29 (a 1) s X F ∧ st_30 (a 1) (a 2) (a 3) s X F ∧ st_31 (a 1) s X F ∧ st_32 (a 1) s X F ∧ st_33 (a 1) (a 2) s X F ∧ st_34 (a 1) s X F
section CT3
variable {sc : Nat × (Nat → Int32)}
theorem ll_add {a b : Nat} : nI a + (10 : Int32) = nI (a + 10) := nI_add a 10
theorem ll_pin {t j n : Nat} (y : Int32) (hy : y = nI j) (hj : j < 10) (hn : n ≤ 5120) (h : 10 * t + 10 ≤ n) : pin (nI (10 * t) + y) n = true := by
  subst hy
  rw [nI_add]
  unfold pin
  rw [nI_clamp (by omega)]
  simp only [Bool.and_eq_true, Bool.not_eq_true', decide_eq_false_iff_not, decide_eq_true_eq]
  exact ⟨nI_pos (by omega), by omega⟩
theorem ll_le {m n : Nat} (hm : m < 2 ^ 20) (hn : n ≤ 5120) : ((Int32.ofNat n) - (10 : Int32) < nI m) ↔ n < m + 10 := by
  rw [Int32.lt_iff_toInt_lt]
  have e : (Int32.ofNat n - (10 : Int32)).toInt = (n : Int) - 10 := pk_sub_toInt (a := n) (b := 10) (by omega) (by omega)
  rw [e, nI_toInt (by omega)]
  omega
set_option maxRecDepth 100000 in
theorem law_loop (hn : sc.1 ≤ 5120) (J : Nat → ST → Prop) (hJ : ∀ t s, t < 512 → J t s → Steps J t s) (hm : ∀ t s, t < 512 → J t s → J (t + 1) s) : ∀ (m t : Nat) (s : ST), sc.1 / 10 ≤ t + m → t ≤ 512 → J t s → Ex sc 1000 309 10 [.float 0, .ref 0, .ref 55, .int (nI (10 * t))] [] (hpS s) (kZ (fun r s1 => r = 1 ∧ ∃ t, t ≤ 512 ∧ J t s1)) := by
  have hq : prog[309]? = some pm309 := rfl
  intro m
  induction m with
  | zero =>
    intro t s h1 h2 h3
    refine Ex.seg hq 5 (j := 15) (L' := [.float 0, .ref 0, .ref 55, .int (nI (10 * t))]) (S' := [.int ((Int32.ofNat sc.1) - (10 : Int32)), .int (nI (10 * t))]) (h' := hpS s) rfl ?_
    refine Ex.i2 hq rfl (fun c => ?_) (fun c => ?_)
    · refine Ex.seg hq 1 (j := 1153) (L' := [.float 0, .ref 0, .ref 55, .int (nI (10 * t))]) (S' := [.int (1 : Int32)]) (h' := hpS s) rfl ?_
      exact Ex.zr hq rfl rfl (Or.inr rfl) ⟨(1 : Int32), s, rfl, (Or.inr rfl), rfl, rfl, t, h2, h3⟩
    · exact absurd ((ll_le (by omega) hn).mpr (by omega)) c
  | succ m ih =>
    intro t s h1 h2 h3
    refine Ex.seg hq 5 (j := 15) (L' := [.float 0, .ref 0, .ref 55, .int (nI (10 * t))]) (S' := [.int ((Int32.ofNat sc.1) - (10 : Int32)), .int (nI (10 * t))]) (h' := hpS s) rfl ?_
    refine Ex.i2 hq rfl (fun c => ?_) (fun c => ?_)
    · refine Ex.seg hq 1 (j := 1153) (L' := [.float 0, .ref 0, .ref 55, .int (nI (10 * t))]) (S' := [.int (1 : Int32)]) (h' := hpS s) rfl ?_
      exact Ex.zr hq rfl rfl (Or.inr rfl) ⟨(1 : Int32), s, rfl, (Or.inr rfl), rfl, rfl, t, h2, h3⟩
    have hle : 10 * t + 10 ≤ sc.1 := by
      have c : ¬ ((Int32.ofNat sc.1) - (10 : Int32) < nI (10 * t)) := c
      rw [ll_le (by omega) hn] at c
      omega
    have hnx : ∀ s1, J (t + 1) s1 → Ex sc 1000 309 1150 [.float 0, .ref 0, .ref 55, .int (nI (10 * t))] [] (hpS s1) (kZ (fun r s1 => r = 1 ∧ ∃ t, t ≤ 512 ∧ J t s1)) := by
      intro s1 hj
      refine Ex.seg hq 2 (j := 10) (L' := [.float 0, .ref 0, .ref 55, .int (nI (10 * t) + (10 : Int32))]) (S' := []) (h' := hpS s1) rfl ?_
      rw [ll_add (b := 10)]
      exact ih (t + 1) s1 (by omega) (by omega) hj
    have hS := hJ t s (by omega) h3
    have hp : ∀ (j : Nat) (y : Int32), y = nI j → j < 10 → pin (nI (10 * t) + y) sc.1 = true := fun j y hy hj => ll_pin y hy hj hn hle
    have hp0 : pin (nI (10 * t)) sc.1 = true := by
      have z := hp 0 0 rfl (by omega)
      rw [Int32.add_zero] at z
      exact z
    refine Ex.seg hq 2 (j := 18) (L' := [.float 0, .ref 0, .ref 55, .int (nI (10 * t))]) (S' := [.int (nI (10 * t)), .float 0]) (h' := hpS s) rfl ?_
    refine Ex.nx hq rfl (L' := [.float 0, .ref 0, .ref 55, .int (nI (10 * t))]) (S' := [.int (sc.2 ((nI (10 * t))).toNatClampNeg)]) (h' := hpS s) (by simp only [stp, pial, hp0, if_true]) ?_
    refine Ex.seg hq 2 (j := 21) (L' := [.float 0, .ref 0, .ref 55, .int (nI (10 * t))]) (S' := [.int ((sc.2 ((nI (10 * t))).toNatClampNeg) &&& (63 : Int32))]) (h' := hpS s) rfl ?_
    have hS := hS (fun j => sc.2 ((nI (10 * t) + Int32.ofNat j)).toNatClampNeg) (fun s1 => nI (10 * t) = nI (10 * t) ∧ J (t + 1) s1) (fun s1 => (0 : Int32) = 1 ∧ ∃ t, t ≤ 512 ∧ J t s1) (fun s1 h => ⟨rfl, h⟩)
    have hX : ∀ (y3 : Int32) (s1 : ST), (y3 = nI (10 * t) ∧ J (t + 1) s1) → Ex sc (933 + 67) 309 1150 [.float 0, .ref 0, .ref 55, .int y3] [] (hpS s1) (kZ (fun r s1 => r = 1 ∧ ∃ t, t ≤ 512 ∧ J t s1)) := by
      rintro y3 s1 ⟨rfl, h⟩
      exact hnx s1 h
    refine Ex.tsw hq rfl ?_ ?_ (by decide)
    · intro _
      exact hnx s (hm t s (by omega) h3)
    intro tt hin ht
    have hk : (((sc.2 ((nI (10 * t))).toNatClampNeg) &&& (63 : Int32)).toInt - 0).toNat < 35 := by omega
    generalize (((sc.2 ((nI (10 * t))).toNatClampNeg) &&& (63 : Int32)).toInt - 0).toNat = k at hk ht
    match k, hk, ht with
    | 0, _, ht =>
      cases ht
      exact ql_0 (d := 933) (nI (10 * t)) s (wl_of_0 (X1150 := fun y s1 => y = nI (10 * t) ∧ J (t + 1) s1) (nI (10 * t)) s (hp 1 _ rfl (by omega)) (hS.1)) hX
    | 1, _, ht =>
      cases ht
      exact ql_1 (d := 933) (nI (10 * t)) s (wl_of_1 (X1150 := fun y s1 => y = nI (10 * t) ∧ J (t + 1) s1) (nI (10 * t)) s (hp 1 _ rfl (by omega)) (hS.2.1)) hX
    | 2, _, ht =>
      cases ht
      exact ql_2 (d := 933) (nI (10 * t)) s (wl_of_2 (X1150 := fun y s1 => y = nI (10 * t) ∧ J (t + 1) s1) (nI (10 * t)) s (hp 1 _ rfl (by omega)) (hp 2 _ rfl (by omega)) (hp 3 _ rfl (by omega)) (hp 4 _ rfl (by omega)) (hp 5 _ rfl (by omega)) (hp 6 _ rfl (by omega)) (hp 7 _ rfl (by omega)) (hp 8 _ rfl (by omega)) (hp 9 _ rfl (by omega)) (hS.2.2.1)) hX
    | 3, _, ht =>
      cases ht
      exact ql_3 (d := 933) (nI (10 * t)) s (wl_of_3 (X1150 := fun y s1 => y = nI (10 * t) ∧ J (t + 1) s1) (nI (10 * t)) s (hp 1 _ rfl (by omega)) (hp 2 _ rfl (by omega)) (hS.2.2.2.1)) hX
    | 4, _, ht =>
      cases ht
      exact ql_4 (d := 933) (nI (10 * t)) s (wl_of_4 (X1150 := fun y s1 => y = nI (10 * t) ∧ J (t + 1) s1) (nI (10 * t)) s (hp 1 _ rfl (by omega)) (hp 2 _ rfl (by omega)) (hp 3 _ rfl (by omega)) (hS.2.2.2.2.1)) hX
    | 5, _, ht =>
      cases ht
      exact ql_5 (d := 933) (nI (10 * t)) s (wl_of_5 (X1150 := fun y s1 => y = nI (10 * t) ∧ J (t + 1) s1) (nI (10 * t)) s (hp 1 _ rfl (by omega)) (hp 2 _ rfl (by omega)) (hp 3 _ rfl (by omega)) (hS.2.2.2.2.2.1)) hX
    | 6, _, ht =>
      cases ht
      exact ql_6 (d := 933) (nI (10 * t)) s (wl_of_6 (X1150 := fun y s1 => y = nI (10 * t) ∧ J (t + 1) s1) (nI (10 * t)) s (hp 1 _ rfl (by omega)) (hp 2 _ rfl (by omega)) (hp 3 _ rfl (by omega)) (hp 4 _ rfl (by omega)) (hp 5 _ rfl (by omega)) (hS.2.2.2.2.2.2.1)) hX
    | 7, _, ht =>
      cases ht
      exact ql_7 (d := 933) (nI (10 * t)) s (wl_of_7 (X1150 := fun y s1 => y = nI (10 * t) ∧ J (t + 1) s1) (nI (10 * t)) s (hp 1 _ rfl (by omega)) (hp 2 _ rfl (by omega)) (hp 3 _ rfl (by omega)) (hS.2.2.2.2.2.2.2.1)) hX
    | 8, _, ht =>
      cases ht
      exact ql_8 (d := 933) (nI (10 * t)) s (wl_of_8 (X1150 := fun y s1 => y = nI (10 * t) ∧ J (t + 1) s1) (nI (10 * t)) s (hp 1 _ rfl (by omega)) (hp 2 _ rfl (by omega)) (hS.2.2.2.2.2.2.2.2.1)) hX
    | 9, _, ht =>
      cases ht
      exact ql_9 (d := 933) (nI (10 * t)) s (wl_of_9 (X1150 := fun y s1 => y = nI (10 * t) ∧ J (t + 1) s1) (nI (10 * t)) s (hp 1 _ rfl (by omega)) (hp 2 _ rfl (by omega)) (hS.2.2.2.2.2.2.2.2.2.1)) hX
    | 10, _, ht =>
      cases ht
      exact ql_10 (d := 933) (nI (10 * t)) s (wl_of_10 (X1150 := fun y s1 => y = nI (10 * t) ∧ J (t + 1) s1) (nI (10 * t)) s (hp 1 _ rfl (by omega)) (hS.2.2.2.2.2.2.2.2.2.2.1)) hX
    | 11, _, ht =>
      cases ht
      exact ql_11 (d := 933) (nI (10 * t)) s (wl_of_11 (X1150 := fun y s1 => y = nI (10 * t) ∧ J (t + 1) s1) (nI (10 * t)) s (hp 1 _ rfl (by omega)) (hp 2 _ rfl (by omega)) (hS.2.2.2.2.2.2.2.2.2.2.2.1)) hX
    | 12, _, ht =>
      cases ht
      exact ql_12 (d := 933) (nI (10 * t)) s (wl_of_12 (X1150 := fun y s1 => y = nI (10 * t) ∧ J (t + 1) s1) (nI (10 * t)) s (hp 1 _ rfl (by omega)) (hp 2 _ rfl (by omega)) (hS.2.2.2.2.2.2.2.2.2.2.2.2.1)) hX
    | 13, _, ht =>
      cases ht
      exact ql_13 (d := 933) (nI (10 * t)) s (wl_of_13 (X1150 := fun y s1 => y = nI (10 * t) ∧ J (t + 1) s1) (nI (10 * t)) s (hp 1 _ rfl (by omega)) (hp 2 _ rfl (by omega)) (hp 3 _ rfl (by omega)) (hS.2.2.2.2.2.2.2.2.2.2.2.2.2.1)) hX
    | 14, _, ht =>
      cases ht
      exact ql_14 (d := 933) (nI (10 * t)) s (wl_of_14 (X1150 := fun y s1 => y = nI (10 * t) ∧ J (t + 1) s1) (nI (10 * t)) s (hp 1 _ rfl (by omega)) (hp 2 _ rfl (by omega)) (hS.2.2.2.2.2.2.2.2.2.2.2.2.2.2.1)) hX
    | 15, _, ht =>
      cases ht
      exact ql_15 (d := 933) (nI (10 * t)) s (wl_of_15 (X1150 := fun y s1 => y = nI (10 * t) ∧ J (t + 1) s1) (nI (10 * t)) s (hp 1 _ rfl (by omega)) (hS.2.2.2.2.2.2.2.2.2.2.2.2.2.2.2.1)) hX
    | 16, _, ht =>
      cases ht
      exact ql_16 (d := 933) (nI (10 * t)) s (wl_of_16 (X1150 := fun y s1 => y = nI (10 * t) ∧ J (t + 1) s1) (nI (10 * t)) s (hp 1 _ rfl (by omega)) (hp 2 _ rfl (by omega)) (hp 3 _ rfl (by omega)) (hS.2.2.2.2.2.2.2.2.2.2.2.2.2.2.2.2.1)) hX
    | 17, _, ht =>
      cases ht
      exact ql_17 (d := 933) (nI (10 * t)) s (wl_of_17 (X1150 := fun y s1 => y = nI (10 * t) ∧ J (t + 1) s1) (nI (10 * t)) s (hp 1 _ rfl (by omega)) (hp 2 _ rfl (by omega)) (hp 3 _ rfl (by omega)) (hp 4 _ rfl (by omega)) (hS.2.2.2.2.2.2.2.2.2.2.2.2.2.2.2.2.2.1)) hX
    | 18, _, ht =>
      cases ht
      exact ql_18 (d := 933) (nI (10 * t)) s (wl_of_18 (X1150 := fun y s1 => y = nI (10 * t) ∧ J (t + 1) s1) (nI (10 * t)) s (hp 1 _ rfl (by omega)) (hp 2 _ rfl (by omega)) (hp 3 _ rfl (by omega)) (hp 4 _ rfl (by omega)) (hS.2.2.2.2.2.2.2.2.2.2.2.2.2.2.2.2.2.2.1)) hX
    | 19, _, ht =>
      cases ht
      exact ql_19 (d := 933) (nI (10 * t)) s (wl_of_19 (X1150 := fun y s1 => y = nI (10 * t) ∧ J (t + 1) s1) (nI (10 * t)) s (hp 1 _ rfl (by omega)) (hp 2 _ rfl (by omega)) (hp 3 _ rfl (by omega)) (hp 4 _ rfl (by omega)) (hS.2.2.2.2.2.2.2.2.2.2.2.2.2.2.2.2.2.2.2.1)) hX
    | 20, _, ht =>
      cases ht
      exact ql_20 (d := 933) (nI (10 * t)) s (wl_of_20 (X1150 := fun y s1 => y = nI (10 * t) ∧ J (t + 1) s1) (nI (10 * t)) s (hp 1 _ rfl (by omega)) (hp 2 _ rfl (by omega)) (hp 3 _ rfl (by omega)) (hS.2.2.2.2.2.2.2.2.2.2.2.2.2.2.2.2.2.2.2.2.1)) hX
    | 21, _, ht =>
      cases ht
      exact ql_21 (d := 933) (nI (10 * t)) s (wl_of_21 (X1150 := fun y s1 => y = nI (10 * t) ∧ J (t + 1) s1) (nI (10 * t)) s (hp 1 _ rfl (by omega)) (hp 2 _ rfl (by omega)) (hp 3 _ rfl (by omega)) (hp 4 _ rfl (by omega)) (hS.2.2.2.2.2.2.2.2.2.2.2.2.2.2.2.2.2.2.2.2.2.1)) hX
    | 22, _, ht =>
      cases ht
      exact ql_22 (d := 933) (nI (10 * t)) s (wl_of_22 (X1150 := fun y s1 => y = nI (10 * t) ∧ J (t + 1) s1) (nI (10 * t)) s (hp 1 _ rfl (by omega)) (hS.2.2.2.2.2.2.2.2.2.2.2.2.2.2.2.2.2.2.2.2.2.2.1)) hX
    | 23, _, ht =>
      cases ht
      exact ql_23 (d := 933) (nI (10 * t)) s (wl_of_23 (X1150 := fun y s1 => y = nI (10 * t) ∧ J (t + 1) s1) (nI (10 * t)) s (hp 1 _ rfl (by omega)) (hp 2 _ rfl (by omega)) (hp 3 _ rfl (by omega)) (hS.2.2.2.2.2.2.2.2.2.2.2.2.2.2.2.2.2.2.2.2.2.2.2.1)) hX
    | 24, _, ht =>
      cases ht
      exact ql_24 (d := 933) (nI (10 * t)) s (wl_of_24 (X1150 := fun y s1 => y = nI (10 * t) ∧ J (t + 1) s1) (nI (10 * t)) s (hp 1 _ rfl (by omega)) (hp 2 _ rfl (by omega)) (hp 3 _ rfl (by omega)) (hS.2.2.2.2.2.2.2.2.2.2.2.2.2.2.2.2.2.2.2.2.2.2.2.2.1)) hX
    | 25, _, ht =>
      cases ht
      exact ql_25 (d := 933) (nI (10 * t)) s (wl_of_25 (X1150 := fun y s1 => y = nI (10 * t) ∧ J (t + 1) s1) (nI (10 * t)) s (hp 1 _ rfl (by omega)) (hp 2 _ rfl (by omega)) (hS.2.2.2.2.2.2.2.2.2.2.2.2.2.2.2.2.2.2.2.2.2.2.2.2.2.1)) hX
    | 26, _, ht =>
      cases ht
      exact ql_26 (d := 933) (nI (10 * t)) s (wl_of_26 (X1150 := fun y s1 => y = nI (10 * t) ∧ J (t + 1) s1) (nI (10 * t)) s (hp 1 _ rfl (by omega)) (hS.2.2.2.2.2.2.2.2.2.2.2.2.2.2.2.2.2.2.2.2.2.2.2.2.2.2.1)) hX
    | 27, _, ht =>
      cases ht
      exact ql_27 (d := 933) (nI (10 * t)) s (wl_of_27 (X1150 := fun y s1 => y = nI (10 * t) ∧ J (t + 1) s1) (nI (10 * t)) s (hp 1 _ rfl (by omega)) (hS.2.2.2.2.2.2.2.2.2.2.2.2.2.2.2.2.2.2.2.2.2.2.2.2.2.2.2.1)) hX
    | 28, _, ht =>
      cases ht
      exact ql_28 (d := 933) (nI (10 * t)) s (wl_of_28 (X1150 := fun y s1 => y = nI (10 * t) ∧ J (t + 1) s1) (nI (10 * t)) s (hp 1 _ rfl (by omega)) (hS.2.2.2.2.2.2.2.2.2.2.2.2.2.2.2.2.2.2.2.2.2.2.2.2.2.2.2.2.1)) hX
    | 29, _, ht =>
      cases ht
      exact ql_29 (d := 933) (nI (10 * t)) s (wl_of_29 (X1150 := fun y s1 => y = nI (10 * t) ∧ J (t + 1) s1) (nI (10 * t)) s (hp 1 _ rfl (by omega)) (hS.2.2.2.2.2.2.2.2.2.2.2.2.2.2.2.2.2.2.2.2.2.2.2.2.2.2.2.2.2.1)) hX
    | 30, _, ht =>
      cases ht
      exact ql_30 (d := 933) (nI (10 * t)) s (wl_of_30 (X1150 := fun y s1 => y = nI (10 * t) ∧ J (t + 1) s1) (nI (10 * t)) s (hp 1 _ rfl (by omega)) (hp 2 _ rfl (by omega)) (hp 3 _ rfl (by omega)) (hS.2.2.2.2.2.2.2.2.2.2.2.2.2.2.2.2.2.2.2.2.2.2.2.2.2.2.2.2.2.2.1)) hX
    | 31, _, ht =>
      cases ht
      exact ql_31 (d := 933) (nI (10 * t)) s (wl_of_31 (X1150 := fun y s1 => y = nI (10 * t) ∧ J (t + 1) s1) (nI (10 * t)) s (hp 1 _ rfl (by omega)) (hS.2.2.2.2.2.2.2.2.2.2.2.2.2.2.2.2.2.2.2.2.2.2.2.2.2.2.2.2.2.2.2.1)) hX
    | 32, _, ht =>
      cases ht
      exact ql_32 (d := 933) (nI (10 * t)) s (wl_of_32 (X1150 := fun y s1 => y = nI (10 * t) ∧ J (t + 1) s1) (nI (10 * t)) s (hp 1 _ rfl (by omega)) (hS.2.2.2.2.2.2.2.2.2.2.2.2.2.2.2.2.2.2.2.2.2.2.2.2.2.2.2.2.2.2.2.2.1)) hX
    | 33, _, ht =>
      cases ht
      exact ql_33 (d := 933) (nI (10 * t)) s (wl_of_33 (X1150 := fun y s1 => y = nI (10 * t) ∧ J (t + 1) s1) (nI (10 * t)) s (hp 1 _ rfl (by omega)) (hp 2 _ rfl (by omega)) (hS.2.2.2.2.2.2.2.2.2.2.2.2.2.2.2.2.2.2.2.2.2.2.2.2.2.2.2.2.2.2.2.2.2.1)) hX
    | 34, _, ht =>
      cases ht
      exact ql_34 (d := 933) (nI (10 * t)) s (wl_of_34 (X1150 := fun y s1 => y = nI (10 * t) ∧ J (t + 1) s1) (nI (10 * t)) s (hp 1 _ rfl (by omega)) (hS.2.2.2.2.2.2.2.2.2.2.2.2.2.2.2.2.2.2.2.2.2.2.2.2.2.2.2.2.2.2.2.2.2.2)) hX
    | k + 35, hk, _ => omega
theorem pclaim_of (J : Nat → ST → Prop) (h0 : J 0 s00) (hJ : ∀ t s, t < 512 → J t s → Steps J t s) (hm : ∀ t s, t < 512 → J t s → J (t + 1) s) (hr : ∀ t s, t ≤ 512 → J t s → (hpS s).length ≤ 600000 ∧ psl (hpS s) ≤ 7302250) : pclaim := by
  intro n xs hn
  have h := ct_start (sc := (n, xs)) (law_loop (sc := (n, xs)) hn J hJ hm (n / 10) 0 s00 (by show n / 10 ≤ 0 + n / 10; omega) (by omega) h0)
  obtain ⟨f, v, h1, h2, r, s1, h3, h4, h5, h6, t, h7, h8⟩ := h
  subst h6
  subst h3
  subst h5
  have h9 := hr t s1 h7 h8
  exact ⟨f, _, h2, h9.1, h9.2⟩
end CT3
