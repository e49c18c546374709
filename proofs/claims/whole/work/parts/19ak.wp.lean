/-! ===== weakest preconditions, printed by wip/whole/genwp.py ===== -/
section WP
variable {sc : Nat × (Nat → Int32)}
/-- RowAuditor.now(I)Z -/
def w_127 (p1 : Int32) (s : ST) (K : Int32 → ST → Prop) : Prop := w_181 p1 (s.1 100) (3999 : Int32) s (fun r2 s1 => ((¬ r2 = 0 → K (1 : Int32) (sI s1 100 p1)) ∧ (¬ (¬ r2 = 0) → K (0 : Int32) s1)))
theorem q_127 {d : Nat} {K : Int32 → ST → Prop} (p1 : Int32) (s : ST) (k : w_127 p1 s K) : Rn sc (d + 1) 127 [.ref 0, .int p1] (hpS s) (kZ K) := by
  have hq : prog[127]? = some pm127 := rfl
  refine Rn.of (L := [.ref 0, .int p1]) hq rfl rfl ?_
  unfold w_127 at k
  refine Ex.seg hq 5 (j := 5) (L' := [.ref 0, .int p1]) (S' := [.int (3999 : Int32), .int (s.1 100), .int p1]) (h' := hpS s) rfl ?_
  refine Ex.cl hq rfl rfl ?_
  refine Rn.mono (q_181 (d := d + 0) p1 (s.1 100) (3999 : Int32) s k) ?_
  rintro _ _ ⟨r2, s1, rfl, hzr2, rfl, k⟩
  show Ex sc (d + 1) 127 6 [.ref 0, .int p1] [.int r2] (hpS s1) _
  refine Ex.i1 hq rfl (fun c => ?_) (fun c => ?_)
  · have k := k.1 c
    refine Ex.seg hq 5 (j := 14) (L' := [.ref 0, .int p1]) (S' := [.int (1 : Int32)]) (h' := hpS (sI s1 100 p1)) rfl ?_
    exact Ex.zr hq rfl rfl (Or.inr rfl) ⟨(1 : Int32), (sI s1 100 p1), rfl, (Or.inr rfl), rfl, k⟩
  · have k := k.2 c
    refine Ex.seg hq 1 (j := 8) (L' := [.ref 0, .int p1]) (S' := [.int (0 : Int32)]) (h' := hpS s1) rfl ?_
    exact Ex.zr hq rfl rfl (Or.inl rfl) ⟨(0 : Int32), s1, rfl, (Or.inl rfl), rfl, k⟩
/-- RowAuditor.house(I)I -/
def w_128 (p1 : Int32) (s : ST) (K : Int32 → ST → Prop) : Prop := w_181 p1 (0 : Int32) (1000000 : Int32) s (fun r2 s1 => ((r2 = 0 → K (-1 : Int32) s1) ∧ (¬ (r2 = 0) → (((s1.1 101) < (10 : Int32) → w_3 p1 s1 (fun r4 s3 => K r4 s3)) ∧ (¬ ((s1.1 101) < (10 : Int32)) → K (-1 : Int32) s1)))))
theorem q_128 {d : Nat} {K : Int32 → ST → Prop} (p1 : Int32) (s : ST) (k : w_128 p1 s K) : Rn sc (d + 1) 128 [.ref 0, .int p1] (hpS s) (kI K) := by
  have hq : prog[128]? = some pm128 := rfl
  refine Rn.of (L := [.ref 0, .int p1]) hq rfl rfl ?_
  unfold w_128 at k
  refine Ex.seg hq 3 (j := 3) (L' := [.ref 0, .int p1]) (S' := [.int (1000000 : Int32), .int (0 : Int32), .int p1]) (h' := hpS s) rfl ?_
  refine Ex.cl hq rfl rfl ?_
  refine Rn.mono (q_181 (d := d + 0) p1 (0 : Int32) (1000000 : Int32) s k) ?_
  rintro _ _ ⟨r2, s1, rfl, hzr2, rfl, k⟩
  show Ex sc (d + 1) 128 4 [.ref 0, .int p1] [.int r2] (hpS s1) _
  refine Ex.i1 hq rfl (fun c => ?_) (fun c => ?_)
  · have k := k.1 c
    refine Ex.seg hq 1 (j := 11) (L' := [.ref 0, .int p1]) (S' := [.int (-1 : Int32)]) (h' := hpS s1) rfl ?_
    exact Ex.rt hq rfl rfl ⟨(-1 : Int32), s1, rfl, rfl, k⟩
  · have k := k.2 c
    refine Ex.seg hq 4 (j := 9) (L' := [.ref 0, .int p1]) (S' := [.int (10 : Int32), .int (s1.1 101)]) (h' := hpS s1) rfl ?_
    refine Ex.i2 hq rfl (fun c => ?_) (fun c => ?_)
    · have k := k.1 c
      refine Ex.seg hq 3 (j := 15) (L' := [.ref 0, .int p1]) (S' := [.int p1, .ref 1]) (h' := hpS s1) rfl ?_
      refine Ex.cl hq rfl rfl ?_
      refine Rn.mono (q_3 (d := d + 0) p1 s1 k) ?_
      rintro _ _ ⟨r4, s3, rfl, rfl, k⟩
      show Ex sc (d + 1) 128 16 [.ref 0, .int p1] [.int r4] (hpS s3) _
      exact Ex.rt hq rfl rfl ⟨r4, s3, rfl, rfl, k⟩
    · have k := k.2 c
      refine Ex.seg hq 1 (j := 11) (L' := [.ref 0, .int p1]) (S' := [.int (-1 : Int32)]) (h' := hpS s1) rfl ?_
      exact Ex.rt hq rfl rfl ⟨(-1 : Int32), s1, rfl, rfl, k⟩
/-- RowAuditor.isOther(III)Z -/
def w_130 (p1 : Int32) (p2 : Int32) (p3 : Int32) (s : ST) (K : Int32 → ST → Prop) : Prop := ((¬ p1 = (3 : Int32) → ((¬ p1 = (2 : Int32) → w_181 p3 (0 : Int32) (19 : Int32) s (fun r2 s1 => K r2 s1)) ∧ (¬ (¬ p1 = (2 : Int32)) → w_1 p3 s (fun r4 s3 => ((r4 = 0 → K (0 : Int32) s3) ∧ (¬ (r4 = 0) → ((p3 = p2 → K (0 : Int32) s3) ∧ (¬ (p3 = p2) → K (1 : Int32) s3)))))))) ∧ (¬ (¬ p1 = (3 : Int32)) → ((¬ p3 = (-1 : Int32) → K (0 : Int32) s) ∧ (¬ (¬ p3 = (-1 : Int32)) → K (1 : Int32) s))))
theorem q_130 {d : Nat} {K : Int32 → ST → Prop} (p1 : Int32) (p2 : Int32) (p3 : Int32) (s : ST) (k : w_130 p1 p2 p3 s K) : Rn sc (d + 1) 130 [.ref 0, .int p1, .int p2, .int p3] (hpS s) (kZ K) := by
  have hq : prog[130]? = some pm130 := rfl
  refine Rn.of (L := [.ref 0, .int p1, .int p2, .int p3]) hq rfl rfl ?_
  unfold w_130 at k
  refine Ex.seg hq 2 (j := 2) (L' := [.ref 0, .int p1, .int p2, .int p3]) (S' := [.int (3 : Int32), .int p1]) (h' := hpS s) rfl ?_
  refine Ex.i2 hq rfl (fun c => ?_) (fun c => ?_)
  · have k := k.1 c
    refine Ex.seg hq 2 (j := 12) (L' := [.ref 0, .int p1, .int p2, .int p3]) (S' := [.int (2 : Int32), .int p1]) (h' := hpS s) rfl ?_
    refine Ex.i2 hq rfl (fun c => ?_) (fun c => ?_)
    · have k := k.1 c
      refine Ex.seg hq 3 (j := 28) (L' := [.ref 0, .int p1, .int p2, .int p3]) (S' := [.int (19 : Int32), .int (0 : Int32), .int p3]) (h' := hpS s) rfl ?_
      refine Ex.cl hq rfl rfl ?_
      refine Rn.mono (q_181 (d := d + 0) p3 (0 : Int32) (19 : Int32) s k) ?_
      rintro _ _ ⟨r2, s1, rfl, hzr2, rfl, k⟩
      show Ex sc (d + 1) 130 29 [.ref 0, .int p1, .int p2, .int p3] [.int r2] (hpS s1) _
      exact Ex.zr hq rfl rfl hzr2 ⟨r2, s1, rfl, hzr2, rfl, k⟩
    · have k := k.2 c
      refine Ex.seg hq 3 (j := 16) (L' := [.ref 0, .int p1, .int p2, .int p3]) (S' := [.int p3, .ref 1]) (h' := hpS s) rfl ?_
      refine Ex.cl hq rfl rfl ?_
      refine Rn.mono (q_1 (d := d + 0) p3 s k) ?_
      rintro _ _ ⟨r4, s3, rfl, hzr4, rfl, k⟩
      show Ex sc (d + 1) 130 17 [.ref 0, .int p1, .int p2, .int p3] [.int r4] (hpS s3) _
      refine Ex.i1 hq rfl (fun c => ?_) (fun c => ?_)
      · have k := k.1 c
        refine Ex.seg hq 1 (j := 24) (L' := [.ref 0, .int p1, .int p2, .int p3]) (S' := [.int (0 : Int32)]) (h' := hpS s3) rfl ?_
        exact Ex.zr hq rfl rfl (Or.inl rfl) ⟨(0 : Int32), s3, rfl, (Or.inl rfl), rfl, k⟩
      · have k := k.2 c
        refine Ex.seg hq 2 (j := 20) (L' := [.ref 0, .int p1, .int p2, .int p3]) (S' := [.int p2, .int p3]) (h' := hpS s3) rfl ?_
        refine Ex.i2 hq rfl (fun c => ?_) (fun c => ?_)
        · have k := k.1 c
          refine Ex.seg hq 1 (j := 24) (L' := [.ref 0, .int p1, .int p2, .int p3]) (S' := [.int (0 : Int32)]) (h' := hpS s3) rfl ?_
          exact Ex.zr hq rfl rfl (Or.inl rfl) ⟨(0 : Int32), s3, rfl, (Or.inl rfl), rfl, k⟩
        · have k := k.2 c
          refine Ex.seg hq 2 (j := 24) (L' := [.ref 0, .int p1, .int p2, .int p3]) (S' := [.int (1 : Int32)]) (h' := hpS s3) rfl ?_
          exact Ex.zr hq rfl rfl (Or.inr rfl) ⟨(1 : Int32), s3, rfl, (Or.inr rfl), rfl, k⟩
  · have k := k.2 c
    refine Ex.seg hq 2 (j := 5) (L' := [.ref 0, .int p1, .int p2, .int p3]) (S' := [.int (-1 : Int32), .int p3]) (h' := hpS s) rfl ?_
    refine Ex.i2 hq rfl (fun c => ?_) (fun c => ?_)
    · have k := k.1 c
      refine Ex.seg hq 1 (j := 9) (L' := [.ref 0, .int p1, .int p2, .int p3]) (S' := [.int (0 : Int32)]) (h' := hpS s) rfl ?_
      exact Ex.zr hq rfl rfl (Or.inl rfl) ⟨(0 : Int32), s, rfl, (Or.inl rfl), rfl, k⟩
    · have k := k.2 c
      refine Ex.seg hq 2 (j := 9) (L' := [.ref 0, .int p1, .int p2, .int p3]) (S' := [.int (1 : Int32)]) (h' := hpS s) rfl ?_
      exact Ex.zr hq rfl rfl (Or.inr rfl) ⟨(1 : Int32), s, rfl, (Or.inr rfl), rfl, k⟩
/-- RowAuditor.isHand(I)Z -/
def w_183 (p0 : Int32) (s : ST) (K : Int32 → ST → Prop) : Prop := w_181 p0 (0 : Int32) (15 : Int32) s (fun r2 s1 => K r2 s1)
theorem q_183 {d : Nat} {K : Int32 → ST → Prop} (p0 : Int32) (s : ST) (k : w_183 p0 s K) : Rn sc (d + 1) 183 [.int p0] (hpS s) (kZ K) := by
  have hq : prog[183]? = some pm183 := rfl
  refine Rn.of (L := [.int p0]) hq rfl rfl ?_
  unfold w_183 at k
  refine Ex.seg hq 3 (j := 3) (L' := [.int p0]) (S' := [.int (15 : Int32), .int (0 : Int32), .int p0]) (h' := hpS s) rfl ?_
  refine Ex.cl hq rfl rfl ?_
  refine Rn.mono (q_181 (d := d + 0) p0 (0 : Int32) (15 : Int32) s k) ?_
  rintro _ _ ⟨r2, s1, rfl, hzr2, rfl, k⟩
  show Ex sc (d + 1) 183 4 [.int p0] [.int r2] (hpS s1) _
  exact Ex.zr hq rfl rfl hzr2 ⟨r2, s1, rfl, hzr2, rfl, k⟩
/-- RowAuditor.row(IIIIIIIII)I -/
def w_129 (p1 : Int32) (p2 : Int32) (p3 : Int32) (p4 : Int32) (p5 : Int32) (p6 : Int32) (p7 : Int32) (p8 : Int32) (p9 : Int32) (s : ST) (K : Int32 → ST → Prop) : Prop := w_181 p1 (0 : Int32) (3 : Int32) s (fun r2 s1 => ((r2 = 0 → K (-1 : Int32) s1) ∧ (¬ (r2 = 0) → w_1 p2 s1 (fun r4 s3 => ((r4 = 0 → K (-1 : Int32) s3) ∧ (¬ (r4 = 0) → w_130 p1 p2 p3 s3 (fun r6 s5 => ((r6 = 0 → K (-1 : Int32) s5) ∧ (¬ (r6 = 0) → w_181 p4 (0 : Int32) (s5.1 100) s5 (fun r8 s7 => ((r8 = 0 → K (-1 : Int32) s7) ∧ (¬ (r8 = 0) → w_181 p5 (0 : Int32) (23 : Int32) s7 (fun r10 s9 => ((r10 = 0 → K (-1 : Int32) s9) ∧ (¬ (r10 = 0) → w_181 p6 (1 : Int32) (1000000 : Int32) s9 (fun r12 s11 => ((r12 = 0 → K (-1 : Int32) s11) ∧ (¬ (r12 = 0) → w_183 p7 s11 (fun r14 s13 => ((r14 = 0 → K (-1 : Int32) s13) ∧ (¬ (r14 = 0) → w_181 p8 (-1 : Int32) (15 : Int32) s13 (fun r16 s15 => ((r16 = 0 → K (-1 : Int32) s15) ∧ (¬ (r16 = 0) → ((p8 = p7 → K (-1 : Int32) s15) ∧ (¬ (p8 = p7) → w_181 p9 (-1 : Int32) (99 : Int32) s15 (fun r18 s17 => ((r18 = 0 → K (-1 : Int32) s17) ∧ (¬ (r18 = 0) → (((s17.1 102) < (150 : Int32) → (¬ (11 : Int32) < 0 ∧ ((11 : Int32)).toNatClampNeg ≤ 100000 ∧ (pin (0 : Int32) ((11 : Int32)).toNatClampNeg = true ∧ (pin (1 : Int32) ((11 : Int32)).toNatClampNeg = true ∧ (pin (2 : Int32) ((11 : Int32)).toNatClampNeg = true ∧ (pin (3 : Int32) ((11 : Int32)).toNatClampNeg = true ∧ (pin (4 : Int32) ((11 : Int32)).toNatClampNeg = true ∧ (pin (5 : Int32) ((11 : Int32)).toNatClampNeg = true ∧ (pin (6 : Int32) ((11 : Int32)).toNatClampNeg = true ∧ (pin (7 : Int32) ((11 : Int32)).toNatClampNeg = true ∧ (pin (8 : Int32) ((11 : Int32)).toNatClampNeg = true ∧ (pin (9 : Int32) ((11 : Int32)).toNatClampNeg = true ∧ (pin (10 : Int32) ((11 : Int32)).toNatClampNeg = true ∧ w_5 s17.2.2.2.2.length (sD s17 (s17.2.2.2.2 ++ [(Sum.inl (0, ((11 : Int32)).toNatClampNeg, .inl (upd (upd (upd (upd (upd (upd (upd (upd (upd (upd (upd (fun _ => 0) ((0 : Int32)).toNatClampNeg p1) ((1 : Int32)).toNatClampNeg p2) ((2 : Int32)).toNatClampNeg p3) ((3 : Int32)).toNatClampNeg p4) ((4 : Int32)).toNatClampNeg p5) ((5 : Int32)).toNatClampNeg p6) ((6 : Int32)).toNatClampNeg p7) ((7 : Int32)).toNatClampNeg p8) ((8 : Int32)).toNatClampNeg p9) ((9 : Int32)).toNatClampNeg (s17.1 100)) ((10 : Int32)).toNatClampNeg (-1 : Int32))) : PC)])) (fun r42 s41 => K r42 s41)))))))))))))) ∧ (¬ ((s17.1 102) < (150 : Int32)) → K (-1 : Int32) s17)))))))))))))))))))))))))))))))
theorem q_129 {d : Nat} {K : Int32 → ST → Prop} (p1 : Int32) (p2 : Int32) (p3 : Int32) (p4 : Int32) (p5 : Int32) (p6 : Int32) (p7 : Int32) (p8 : Int32) (p9 : Int32) (s : ST) (k : w_129 p1 p2 p3 p4 p5 p6 p7 p8 p9 s K) : Rn sc (d + 4) 129 [.ref 0, .int p1, .int p2, .int p3, .int p4, .int p5, .int p6, .int p7, .int p8, .int p9] (hpS s) (kI K) := by
  have hq : prog[129]? = some pm129 := rfl
  refine Rn.of (L := [.ref 0, .int p1, .int p2, .int p3, .int p4, .int p5, .int p6, .int p7, .int p8, .int p9, pu, pu]) hq rfl rfl ?_
  unfold w_129 at k
  refine Ex.seg hq 3 (j := 3) (L' := [.ref 0, .int p1, .int p2, .int p3, .int p4, .int p5, .int p6, .int p7, .int p8, .int p9, pu, pu]) (S' := [.int (3 : Int32), .int (0 : Int32), .int p1]) (h' := hpS s) rfl ?_
  refine Ex.cl hq rfl rfl ?_
  refine Rn.mono (q_181 (d := d + 3) p1 (0 : Int32) (3 : Int32) s k) ?_
  rintro _ _ ⟨r2, s1, rfl, hzr2, rfl, k⟩
  show Ex sc (d + 4) 129 4 [.ref 0, .int p1, .int p2, .int p3, .int p4, .int p5, .int p6, .int p7, .int p8, .int p9, pu, pu] [.int r2] (hpS s1) _
  refine Ex.i1 hq rfl (fun c => ?_) (fun c => ?_)
  · have k := k.1 c
    refine Ex.seg hq 5 (j := 61) (L' := [.ref 0, .int p1, .int p2, .int p3, .int p4, .int p5, .int p6, .int p7, .int p8, .int p9, .int (0 : Int32), pu]) (S' := [.int (-1 : Int32)]) (h' := hpS s1) rfl ?_
    exact Ex.rt hq rfl rfl ⟨(-1 : Int32), s1, rfl, rfl, k⟩
  · have k := k.2 c
    refine Ex.seg hq 3 (j := 8) (L' := [.ref 0, .int p1, .int p2, .int p3, .int p4, .int p5, .int p6, .int p7, .int p8, .int p9, pu, pu]) (S' := [.int p2, .ref 1]) (h' := hpS s1) rfl ?_
    refine Ex.cl hq rfl rfl ?_
    refine Rn.mono (q_1 (d := d + 3) p2 s1 k) ?_
    rintro _ _ ⟨r4, s3, rfl, hzr4, rfl, k⟩
    show Ex sc (d + 4) 129 9 [.ref 0, .int p1, .int p2, .int p3, .int p4, .int p5, .int p6, .int p7, .int p8, .int p9, pu, pu] [.int r4] (hpS s3) _
    refine Ex.i1 hq rfl (fun c => ?_) (fun c => ?_)
    · have k := k.1 c
      refine Ex.seg hq 5 (j := 61) (L' := [.ref 0, .int p1, .int p2, .int p3, .int p4, .int p5, .int p6, .int p7, .int p8, .int p9, .int (0 : Int32), pu]) (S' := [.int (-1 : Int32)]) (h' := hpS s3) rfl ?_
      exact Ex.rt hq rfl rfl ⟨(-1 : Int32), s3, rfl, rfl, k⟩
    · have k := k.2 c
      refine Ex.seg hq 4 (j := 14) (L' := [.ref 0, .int p1, .int p2, .int p3, .int p4, .int p5, .int p6, .int p7, .int p8, .int p9, pu, pu]) (S' := [.int p3, .int p2, .int p1, .ref 0]) (h' := hpS s3) rfl ?_
      refine Ex.cl hq rfl rfl ?_
      refine Rn.mono (q_130 (d := d + 2) p1 p2 p3 s3 k) ?_
      rintro _ _ ⟨r6, s5, rfl, hzr6, rfl, k⟩
      show Ex sc (d + 4) 129 15 [.ref 0, .int p1, .int p2, .int p3, .int p4, .int p5, .int p6, .int p7, .int p8, .int p9, pu, pu] [.int r6] (hpS s5) _
      refine Ex.i1 hq rfl (fun c => ?_) (fun c => ?_)
      · have k := k.1 c
        refine Ex.seg hq 5 (j := 61) (L' := [.ref 0, .int p1, .int p2, .int p3, .int p4, .int p5, .int p6, .int p7, .int p8, .int p9, .int (0 : Int32), pu]) (S' := [.int (-1 : Int32)]) (h' := hpS s5) rfl ?_
        exact Ex.rt hq rfl rfl ⟨(-1 : Int32), s5, rfl, rfl, k⟩
      · have k := k.2 c
        refine Ex.seg hq 5 (j := 21) (L' := [.ref 0, .int p1, .int p2, .int p3, .int p4, .int p5, .int p6, .int p7, .int p8, .int p9, pu, pu]) (S' := [.int (s5.1 100), .int (0 : Int32), .int p4]) (h' := hpS s5) rfl ?_
        refine Ex.cl hq rfl rfl ?_
        refine Rn.mono (q_181 (d := d + 3) p4 (0 : Int32) (s5.1 100) s5 k) ?_
        rintro _ _ ⟨r8, s7, rfl, hzr8, rfl, k⟩
        show Ex sc (d + 4) 129 22 [.ref 0, .int p1, .int p2, .int p3, .int p4, .int p5, .int p6, .int p7, .int p8, .int p9, pu, pu] [.int r8] (hpS s7) _
        refine Ex.i1 hq rfl (fun c => ?_) (fun c => ?_)
        · have k := k.1 c
          refine Ex.seg hq 5 (j := 61) (L' := [.ref 0, .int p1, .int p2, .int p3, .int p4, .int p5, .int p6, .int p7, .int p8, .int p9, .int (0 : Int32), pu]) (S' := [.int (-1 : Int32)]) (h' := hpS s7) rfl ?_
          exact Ex.rt hq rfl rfl ⟨(-1 : Int32), s7, rfl, rfl, k⟩
        · have k := k.2 c
          refine Ex.seg hq 3 (j := 26) (L' := [.ref 0, .int p1, .int p2, .int p3, .int p4, .int p5, .int p6, .int p7, .int p8, .int p9, pu, pu]) (S' := [.int (23 : Int32), .int (0 : Int32), .int p5]) (h' := hpS s7) rfl ?_
          refine Ex.cl hq rfl rfl ?_
          refine Rn.mono (q_181 (d := d + 3) p5 (0 : Int32) (23 : Int32) s7 k) ?_
          rintro _ _ ⟨r10, s9, rfl, hzr10, rfl, k⟩
          show Ex sc (d + 4) 129 27 [.ref 0, .int p1, .int p2, .int p3, .int p4, .int p5, .int p6, .int p7, .int p8, .int p9, pu, pu] [.int r10] (hpS s9) _
          refine Ex.i1 hq rfl (fun c => ?_) (fun c => ?_)
          · have k := k.1 c
            refine Ex.seg hq 5 (j := 61) (L' := [.ref 0, .int p1, .int p2, .int p3, .int p4, .int p5, .int p6, .int p7, .int p8, .int p9, .int (0 : Int32), pu]) (S' := [.int (-1 : Int32)]) (h' := hpS s9) rfl ?_
            exact Ex.rt hq rfl rfl ⟨(-1 : Int32), s9, rfl, rfl, k⟩
          · have k := k.2 c
            refine Ex.seg hq 3 (j := 31) (L' := [.ref 0, .int p1, .int p2, .int p3, .int p4, .int p5, .int p6, .int p7, .int p8, .int p9, pu, pu]) (S' := [.int (1000000 : Int32), .int (1 : Int32), .int p6]) (h' := hpS s9) rfl ?_
            refine Ex.cl hq rfl rfl ?_
            refine Rn.mono (q_181 (d := d + 3) p6 (1 : Int32) (1000000 : Int32) s9 k) ?_
            rintro _ _ ⟨r12, s11, rfl, hzr12, rfl, k⟩
            show Ex sc (d + 4) 129 32 [.ref 0, .int p1, .int p2, .int p3, .int p4, .int p5, .int p6, .int p7, .int p8, .int p9, pu, pu] [.int r12] (hpS s11) _
            refine Ex.i1 hq rfl (fun c => ?_) (fun c => ?_)
            · have k := k.1 c
              refine Ex.seg hq 5 (j := 61) (L' := [.ref 0, .int p1, .int p2, .int p3, .int p4, .int p5, .int p6, .int p7, .int p8, .int p9, .int (0 : Int32), pu]) (S' := [.int (-1 : Int32)]) (h' := hpS s11) rfl ?_
              exact Ex.rt hq rfl rfl ⟨(-1 : Int32), s11, rfl, rfl, k⟩
            · have k := k.2 c
              refine Ex.seg hq 1 (j := 34) (L' := [.ref 0, .int p1, .int p2, .int p3, .int p4, .int p5, .int p6, .int p7, .int p8, .int p9, pu, pu]) (S' := [.int p7]) (h' := hpS s11) rfl ?_
              refine Ex.cl hq rfl rfl ?_
              refine Rn.mono (q_183 (d := d + 2) p7 s11 k) ?_
              rintro _ _ ⟨r14, s13, rfl, hzr14, rfl, k⟩
              show Ex sc (d + 4) 129 35 [.ref 0, .int p1, .int p2, .int p3, .int p4, .int p5, .int p6, .int p7, .int p8, .int p9, pu, pu] [.int r14] (hpS s13) _
              refine Ex.i1 hq rfl (fun c => ?_) (fun c => ?_)
              · have k := k.1 c
                refine Ex.seg hq 5 (j := 61) (L' := [.ref 0, .int p1, .int p2, .int p3, .int p4, .int p5, .int p6, .int p7, .int p8, .int p9, .int (0 : Int32), pu]) (S' := [.int (-1 : Int32)]) (h' := hpS s13) rfl ?_
                exact Ex.rt hq rfl rfl ⟨(-1 : Int32), s13, rfl, rfl, k⟩
              · have k := k.2 c
                refine Ex.seg hq 3 (j := 39) (L' := [.ref 0, .int p1, .int p2, .int p3, .int p4, .int p5, .int p6, .int p7, .int p8, .int p9, pu, pu]) (S' := [.int (15 : Int32), .int (-1 : Int32), .int p8]) (h' := hpS s13) rfl ?_
                refine Ex.cl hq rfl rfl ?_
                refine Rn.mono (q_181 (d := d + 3) p8 (-1 : Int32) (15 : Int32) s13 k) ?_
                rintro _ _ ⟨r16, s15, rfl, hzr16, rfl, k⟩
                show Ex sc (d + 4) 129 40 [.ref 0, .int p1, .int p2, .int p3, .int p4, .int p5, .int p6, .int p7, .int p8, .int p9, pu, pu] [.int r16] (hpS s15) _
                refine Ex.i1 hq rfl (fun c => ?_) (fun c => ?_)
                · have k := k.1 c
                  refine Ex.seg hq 5 (j := 61) (L' := [.ref 0, .int p1, .int p2, .int p3, .int p4, .int p5, .int p6, .int p7, .int p8, .int p9, .int (0 : Int32), pu]) (S' := [.int (-1 : Int32)]) (h' := hpS s15) rfl ?_
                  exact Ex.rt hq rfl rfl ⟨(-1 : Int32), s15, rfl, rfl, k⟩
                · have k := k.2 c
                  refine Ex.seg hq 2 (j := 43) (L' := [.ref 0, .int p1, .int p2, .int p3, .int p4, .int p5, .int p6, .int p7, .int p8, .int p9, pu, pu]) (S' := [.int p7, .int p8]) (h' := hpS s15) rfl ?_
                  refine Ex.i2 hq rfl (fun c => ?_) (fun c => ?_)
                  · have k := k.1 c
                    refine Ex.seg hq 5 (j := 61) (L' := [.ref 0, .int p1, .int p2, .int p3, .int p4, .int p5, .int p6, .int p7, .int p8, .int p9, .int (0 : Int32), pu]) (S' := [.int (-1 : Int32)]) (h' := hpS s15) rfl ?_
                    exact Ex.rt hq rfl rfl ⟨(-1 : Int32), s15, rfl, rfl, k⟩
                  · have k := k.2 c
                    refine Ex.seg hq 3 (j := 47) (L' := [.ref 0, .int p1, .int p2, .int p3, .int p4, .int p5, .int p6, .int p7, .int p8, .int p9, pu, pu]) (S' := [.int (99 : Int32), .int (-1 : Int32), .int p9]) (h' := hpS s15) rfl ?_
                    refine Ex.cl hq rfl rfl ?_
                    refine Rn.mono (q_181 (d := d + 3) p9 (-1 : Int32) (99 : Int32) s15 k) ?_
                    rintro _ _ ⟨r18, s17, rfl, hzr18, rfl, k⟩
                    show Ex sc (d + 4) 129 48 [.ref 0, .int p1, .int p2, .int p3, .int p4, .int p5, .int p6, .int p7, .int p8, .int p9, pu, pu] [.int r18] (hpS s17) _
                    refine Ex.i1 hq rfl (fun c => ?_) (fun c => ?_)
                    · have k := k.1 c
                      refine Ex.seg hq 5 (j := 61) (L' := [.ref 0, .int p1, .int p2, .int p3, .int p4, .int p5, .int p6, .int p7, .int p8, .int p9, .int (0 : Int32), pu]) (S' := [.int (-1 : Int32)]) (h' := hpS s17) rfl ?_
                      exact Ex.rt hq rfl rfl ⟨(-1 : Int32), s17, rfl, rfl, k⟩
                    · have k := k.2 c
                      refine Ex.seg hq 9 (j := 59) (L' := [.ref 0, .int p1, .int p2, .int p3, .int p4, .int p5, .int p6, .int p7, .int p8, .int p9, .int (1 : Int32), pu]) (S' := [.int (150 : Int32), .int (s17.1 102)]) (h' := hpS s17) rfl ?_
                      refine Ex.i2 hq rfl (fun c => ?_) (fun c => ?_)
                      · have k := k.1 c
                        refine Ex.seg hq 1 (j := 63) (L' := [.ref 0, .int p1, .int p2, .int p3, .int p4, .int p5, .int p6, .int p7, .int p8, .int p9, .int (1 : Int32), pu]) (S' := [.int (11 : Int32)]) (h' := hpS s17) rfl ?_
                        obtain ⟨h0, h1, k⟩ := k
                        refine Ex.nad hq rfl h0 h1 ?_
                        show Ex sc (d + 4) 129 64 [.ref 0, .int p1, .int p2, .int p3, .int p4, .int p5, .int p6, .int p7, .int p8, .int p9, .int (1 : Int32), pu] [.ref (s17.2.2.2.2.length + 118)] (hpS (sD s17 (s17.2.2.2.2 ++ [(Sum.inl (0, ((11 : Int32)).toNatClampNeg, .inl (fun _ => 0)) : PC)]))) _
                        refine Ex.seg hq 3 (j := 67) (L' := [.ref 0, .int p1, .int p2, .int p3, .int p4, .int p5, .int p6, .int p7, .int p8, .int p9, .int (1 : Int32), pu]) (S' := [.int p1, .int (0 : Int32), .ref (s17.2.2.2.2.length + 118), .ref (s17.2.2.2.2.length + 118)]) (h' := hpS (sD s17 (s17.2.2.2.2 ++ [(Sum.inl (0, ((11 : Int32)).toNatClampNeg, .inl (fun _ => 0)) : PC)]))) rfl ?_
                        obtain ⟨hin, k⟩ := k
                        refine Ex.isn (s := s17) (dy := s17.2.2.2.2) hq rfl hin ?_
                        show Ex sc (d + 4) 129 68 [.ref 0, .int p1, .int p2, .int p3, .int p4, .int p5, .int p6, .int p7, .int p8, .int p9, .int (1 : Int32), pu] [.ref (s17.2.2.2.2.length + 118)] (hpS (sD s17 (s17.2.2.2.2 ++ [(Sum.inl (0, ((11 : Int32)).toNatClampNeg, .inl (upd (fun _ => 0) ((0 : Int32)).toNatClampNeg p1)) : PC)]))) _
                        refine Ex.seg hq 3 (j := 71) (L' := [.ref 0, .int p1, .int p2, .int p3, .int p4, .int p5, .int p6, .int p7, .int p8, .int p9, .int (1 : Int32), pu]) (S' := [.int p2, .int (1 : Int32), .ref (s17.2.2.2.2.length + 118), .ref (s17.2.2.2.2.length + 118)]) (h' := hpS (sD s17 (s17.2.2.2.2 ++ [(Sum.inl (0, ((11 : Int32)).toNatClampNeg, .inl (upd (fun _ => 0) ((0 : Int32)).toNatClampNeg p1)) : PC)]))) rfl ?_
                        obtain ⟨hin, k⟩ := k
                        refine Ex.isn (s := s17) (dy := s17.2.2.2.2) hq rfl hin ?_
                        show Ex sc (d + 4) 129 72 [.ref 0, .int p1, .int p2, .int p3, .int p4, .int p5, .int p6, .int p7, .int p8, .int p9, .int (1 : Int32), pu] [.ref (s17.2.2.2.2.length + 118)] (hpS (sD s17 (s17.2.2.2.2 ++ [(Sum.inl (0, ((11 : Int32)).toNatClampNeg, .inl (upd (upd (fun _ => 0) ((0 : Int32)).toNatClampNeg p1) ((1 : Int32)).toNatClampNeg p2)) : PC)]))) _
                        refine Ex.seg hq 3 (j := 75) (L' := [.ref 0, .int p1, .int p2, .int p3, .int p4, .int p5, .int p6, .int p7, .int p8, .int p9, .int (1 : Int32), pu]) (S' := [.int p3, .int (2 : Int32), .ref (s17.2.2.2.2.length + 118), .ref (s17.2.2.2.2.length + 118)]) (h' := hpS (sD s17 (s17.2.2.2.2 ++ [(Sum.inl (0, ((11 : Int32)).toNatClampNeg, .inl (upd (upd (fun _ => 0) ((0 : Int32)).toNatClampNeg p1) ((1 : Int32)).toNatClampNeg p2)) : PC)]))) rfl ?_
                        obtain ⟨hin, k⟩ := k
                        refine Ex.isn (s := s17) (dy := s17.2.2.2.2) hq rfl hin ?_
                        show Ex sc (d + 4) 129 76 [.ref 0, .int p1, .int p2, .int p3, .int p4, .int p5, .int p6, .int p7, .int p8, .int p9, .int (1 : Int32), pu] [.ref (s17.2.2.2.2.length + 118)] (hpS (sD s17 (s17.2.2.2.2 ++ [(Sum.inl (0, ((11 : Int32)).toNatClampNeg, .inl (upd (upd (upd (fun _ => 0) ((0 : Int32)).toNatClampNeg p1) ((1 : Int32)).toNatClampNeg p2) ((2 : Int32)).toNatClampNeg p3)) : PC)]))) _
                        refine Ex.seg hq 3 (j := 79) (L' := [.ref 0, .int p1, .int p2, .int p3, .int p4, .int p5, .int p6, .int p7, .int p8, .int p9, .int (1 : Int32), pu]) (S' := [.int p4, .int (3 : Int32), .ref (s17.2.2.2.2.length + 118), .ref (s17.2.2.2.2.length + 118)]) (h' := hpS (sD s17 (s17.2.2.2.2 ++ [(Sum.inl (0, ((11 : Int32)).toNatClampNeg, .inl (upd (upd (upd (fun _ => 0) ((0 : Int32)).toNatClampNeg p1) ((1 : Int32)).toNatClampNeg p2) ((2 : Int32)).toNatClampNeg p3)) : PC)]))) rfl ?_
                        obtain ⟨hin, k⟩ := k
                        refine Ex.isn (s := s17) (dy := s17.2.2.2.2) hq rfl hin ?_
                        show Ex sc (d + 4) 129 80 [.ref 0, .int p1, .int p2, .int p3, .int p4, .int p5, .int p6, .int p7, .int p8, .int p9, .int (1 : Int32), pu] [.ref (s17.2.2.2.2.length + 118)] (hpS (sD s17 (s17.2.2.2.2 ++ [(Sum.inl (0, ((11 : Int32)).toNatClampNeg, .inl (upd (upd (upd (upd (fun _ => 0) ((0 : Int32)).toNatClampNeg p1) ((1 : Int32)).toNatClampNeg p2) ((2 : Int32)).toNatClampNeg p3) ((3 : Int32)).toNatClampNeg p4)) : PC)]))) _
                        refine Ex.seg hq 3 (j := 83) (L' := [.ref 0, .int p1, .int p2, .int p3, .int p4, .int p5, .int p6, .int p7, .int p8, .int p9, .int (1 : Int32), pu]) (S' := [.int p5, .int (4 : Int32), .ref (s17.2.2.2.2.length + 118), .ref (s17.2.2.2.2.length + 118)]) (h' := hpS (sD s17 (s17.2.2.2.2 ++ [(Sum.inl (0, ((11 : Int32)).toNatClampNeg, .inl (upd (upd (upd (upd (fun _ => 0) ((0 : Int32)).toNatClampNeg p1) ((1 : Int32)).toNatClampNeg p2) ((2 : Int32)).toNatClampNeg p3) ((3 : Int32)).toNatClampNeg p4)) : PC)]))) rfl ?_
                        obtain ⟨hin, k⟩ := k
                        refine Ex.isn (s := s17) (dy := s17.2.2.2.2) hq rfl hin ?_
                        show Ex sc (d + 4) 129 84 [.ref 0, .int p1, .int p2, .int p3, .int p4, .int p5, .int p6, .int p7, .int p8, .int p9, .int (1 : Int32), pu] [.ref (s17.2.2.2.2.length + 118)] (hpS (sD s17 (s17.2.2.2.2 ++ [(Sum.inl (0, ((11 : Int32)).toNatClampNeg, .inl (upd (upd (upd (upd (upd (fun _ => 0) ((0 : Int32)).toNatClampNeg p1) ((1 : Int32)).toNatClampNeg p2) ((2 : Int32)).toNatClampNeg p3) ((3 : Int32)).toNatClampNeg p4) ((4 : Int32)).toNatClampNeg p5)) : PC)]))) _
                        refine Ex.seg hq 3 (j := 87) (L' := [.ref 0, .int p1, .int p2, .int p3, .int p4, .int p5, .int p6, .int p7, .int p8, .int p9, .int (1 : Int32), pu]) (S' := [.int p6, .int (5 : Int32), .ref (s17.2.2.2.2.length + 118), .ref (s17.2.2.2.2.length + 118)]) (h' := hpS (sD s17 (s17.2.2.2.2 ++ [(Sum.inl (0, ((11 : Int32)).toNatClampNeg, .inl (upd (upd (upd (upd (upd (fun _ => 0) ((0 : Int32)).toNatClampNeg p1) ((1 : Int32)).toNatClampNeg p2) ((2 : Int32)).toNatClampNeg p3) ((3 : Int32)).toNatClampNeg p4) ((4 : Int32)).toNatClampNeg p5)) : PC)]))) rfl ?_
                        obtain ⟨hin, k⟩ := k
                        refine Ex.isn (s := s17) (dy := s17.2.2.2.2) hq rfl hin ?_
                        show Ex sc (d + 4) 129 88 [.ref 0, .int p1, .int p2, .int p3, .int p4, .int p5, .int p6, .int p7, .int p8, .int p9, .int (1 : Int32), pu] [.ref (s17.2.2.2.2.length + 118)] (hpS (sD s17 (s17.2.2.2.2 ++ [(Sum.inl (0, ((11 : Int32)).toNatClampNeg, .inl (upd (upd (upd (upd (upd (upd (fun _ => 0) ((0 : Int32)).toNatClampNeg p1) ((1 : Int32)).toNatClampNeg p2) ((2 : Int32)).toNatClampNeg p3) ((3 : Int32)).toNatClampNeg p4) ((4 : Int32)).toNatClampNeg p5) ((5 : Int32)).toNatClampNeg p6)) : PC)]))) _
                        refine Ex.seg hq 3 (j := 91) (L' := [.ref 0, .int p1, .int p2, .int p3, .int p4, .int p5, .int p6, .int p7, .int p8, .int p9, .int (1 : Int32), pu]) (S' := [.int p7, .int (6 : Int32), .ref (s17.2.2.2.2.length + 118), .ref (s17.2.2.2.2.length + 118)]) (h' := hpS (sD s17 (s17.2.2.2.2 ++ [(Sum.inl (0, ((11 : Int32)).toNatClampNeg, .inl (upd (upd (upd (upd (upd (upd (fun _ => 0) ((0 : Int32)).toNatClampNeg p1) ((1 : Int32)).toNatClampNeg p2) ((2 : Int32)).toNatClampNeg p3) ((3 : Int32)).toNatClampNeg p4) ((4 : Int32)).toNatClampNeg p5) ((5 : Int32)).toNatClampNeg p6)) : PC)]))) rfl ?_
                        obtain ⟨hin, k⟩ := k
                        refine Ex.isn (s := s17) (dy := s17.2.2.2.2) hq rfl hin ?_
                        show Ex sc (d + 4) 129 92 [.ref 0, .int p1, .int p2, .int p3, .int p4, .int p5, .int p6, .int p7, .int p8, .int p9, .int (1 : Int32), pu] [.ref (s17.2.2.2.2.length + 118)] (hpS (sD s17 (s17.2.2.2.2 ++ [(Sum.inl (0, ((11 : Int32)).toNatClampNeg, .inl (upd (upd (upd (upd (upd (upd (upd (fun _ => 0) ((0 : Int32)).toNatClampNeg p1) ((1 : Int32)).toNatClampNeg p2) ((2 : Int32)).toNatClampNeg p3) ((3 : Int32)).toNatClampNeg p4) ((4 : Int32)).toNatClampNeg p5) ((5 : Int32)).toNatClampNeg p6) ((6 : Int32)).toNatClampNeg p7)) : PC)]))) _
                        refine Ex.seg hq 3 (j := 95) (L' := [.ref 0, .int p1, .int p2, .int p3, .int p4, .int p5, .int p6, .int p7, .int p8, .int p9, .int (1 : Int32), pu]) (S' := [.int p8, .int (7 : Int32), .ref (s17.2.2.2.2.length + 118), .ref (s17.2.2.2.2.length + 118)]) (h' := hpS (sD s17 (s17.2.2.2.2 ++ [(Sum.inl (0, ((11 : Int32)).toNatClampNeg, .inl (upd (upd (upd (upd (upd (upd (upd (fun _ => 0) ((0 : Int32)).toNatClampNeg p1) ((1 : Int32)).toNatClampNeg p2) ((2 : Int32)).toNatClampNeg p3) ((3 : Int32)).toNatClampNeg p4) ((4 : Int32)).toNatClampNeg p5) ((5 : Int32)).toNatClampNeg p6) ((6 : Int32)).toNatClampNeg p7)) : PC)]))) rfl ?_
                        obtain ⟨hin, k⟩ := k
                        refine Ex.isn (s := s17) (dy := s17.2.2.2.2) hq rfl hin ?_
                        show Ex sc (d + 4) 129 96 [.ref 0, .int p1, .int p2, .int p3, .int p4, .int p5, .int p6, .int p7, .int p8, .int p9, .int (1 : Int32), pu] [.ref (s17.2.2.2.2.length + 118)] (hpS (sD s17 (s17.2.2.2.2 ++ [(Sum.inl (0, ((11 : Int32)).toNatClampNeg, .inl (upd (upd (upd (upd (upd (upd (upd (upd (fun _ => 0) ((0 : Int32)).toNatClampNeg p1) ((1 : Int32)).toNatClampNeg p2) ((2 : Int32)).toNatClampNeg p3) ((3 : Int32)).toNatClampNeg p4) ((4 : Int32)).toNatClampNeg p5) ((5 : Int32)).toNatClampNeg p6) ((6 : Int32)).toNatClampNeg p7) ((7 : Int32)).toNatClampNeg p8)) : PC)]))) _
                        refine Ex.seg hq 3 (j := 99) (L' := [.ref 0, .int p1, .int p2, .int p3, .int p4, .int p5, .int p6, .int p7, .int p8, .int p9, .int (1 : Int32), pu]) (S' := [.int p9, .int (8 : Int32), .ref (s17.2.2.2.2.length + 118), .ref (s17.2.2.2.2.length + 118)]) (h' := hpS (sD s17 (s17.2.2.2.2 ++ [(Sum.inl (0, ((11 : Int32)).toNatClampNeg, .inl (upd (upd (upd (upd (upd (upd (upd (upd (fun _ => 0) ((0 : Int32)).toNatClampNeg p1) ((1 : Int32)).toNatClampNeg p2) ((2 : Int32)).toNatClampNeg p3) ((3 : Int32)).toNatClampNeg p4) ((4 : Int32)).toNatClampNeg p5) ((5 : Int32)).toNatClampNeg p6) ((6 : Int32)).toNatClampNeg p7) ((7 : Int32)).toNatClampNeg p8)) : PC)]))) rfl ?_
                        obtain ⟨hin, k⟩ := k
                        refine Ex.isn (s := s17) (dy := s17.2.2.2.2) hq rfl hin ?_
                        show Ex sc (d + 4) 129 100 [.ref 0, .int p1, .int p2, .int p3, .int p4, .int p5, .int p6, .int p7, .int p8, .int p9, .int (1 : Int32), pu] [.ref (s17.2.2.2.2.length + 118)] (hpS (sD s17 (s17.2.2.2.2 ++ [(Sum.inl (0, ((11 : Int32)).toNatClampNeg, .inl (upd (upd (upd (upd (upd (upd (upd (upd (upd (fun _ => 0) ((0 : Int32)).toNatClampNeg p1) ((1 : Int32)).toNatClampNeg p2) ((2 : Int32)).toNatClampNeg p3) ((3 : Int32)).toNatClampNeg p4) ((4 : Int32)).toNatClampNeg p5) ((5 : Int32)).toNatClampNeg p6) ((6 : Int32)).toNatClampNeg p7) ((7 : Int32)).toNatClampNeg p8) ((8 : Int32)).toNatClampNeg p9)) : PC)]))) _
                        refine Ex.seg hq 5 (j := 105) (L' := [.ref 0, .int p1, .int p2, .int p3, .int p4, .int p5, .int p6, .int p7, .int p8, .int p9, .int (1 : Int32), pu]) (S' := [.int (s17.1 100), .int (9 : Int32), .ref (s17.2.2.2.2.length + 118), .ref (s17.2.2.2.2.length + 118)]) (h' := hpS (sD s17 (s17.2.2.2.2 ++ [(Sum.inl (0, ((11 : Int32)).toNatClampNeg, .inl (upd (upd (upd (upd (upd (upd (upd (upd (upd (fun _ => 0) ((0 : Int32)).toNatClampNeg p1) ((1 : Int32)).toNatClampNeg p2) ((2 : Int32)).toNatClampNeg p3) ((3 : Int32)).toNatClampNeg p4) ((4 : Int32)).toNatClampNeg p5) ((5 : Int32)).toNatClampNeg p6) ((6 : Int32)).toNatClampNeg p7) ((7 : Int32)).toNatClampNeg p8) ((8 : Int32)).toNatClampNeg p9)) : PC)]))) rfl ?_
                        obtain ⟨hin, k⟩ := k
                        refine Ex.isn (s := s17) (dy := s17.2.2.2.2) hq rfl hin ?_
                        show Ex sc (d + 4) 129 106 [.ref 0, .int p1, .int p2, .int p3, .int p4, .int p5, .int p6, .int p7, .int p8, .int p9, .int (1 : Int32), pu] [.ref (s17.2.2.2.2.length + 118)] (hpS (sD s17 (s17.2.2.2.2 ++ [(Sum.inl (0, ((11 : Int32)).toNatClampNeg, .inl (upd (upd (upd (upd (upd (upd (upd (upd (upd (upd (fun _ => 0) ((0 : Int32)).toNatClampNeg p1) ((1 : Int32)).toNatClampNeg p2) ((2 : Int32)).toNatClampNeg p3) ((3 : Int32)).toNatClampNeg p4) ((4 : Int32)).toNatClampNeg p5) ((5 : Int32)).toNatClampNeg p6) ((6 : Int32)).toNatClampNeg p7) ((7 : Int32)).toNatClampNeg p8) ((8 : Int32)).toNatClampNeg p9) ((9 : Int32)).toNatClampNeg (s17.1 100))) : PC)]))) _
                        refine Ex.seg hq 3 (j := 109) (L' := [.ref 0, .int p1, .int p2, .int p3, .int p4, .int p5, .int p6, .int p7, .int p8, .int p9, .int (1 : Int32), pu]) (S' := [.int (-1 : Int32), .int (10 : Int32), .ref (s17.2.2.2.2.length + 118), .ref (s17.2.2.2.2.length + 118)]) (h' := hpS (sD s17 (s17.2.2.2.2 ++ [(Sum.inl (0, ((11 : Int32)).toNatClampNeg, .inl (upd (upd (upd (upd (upd (upd (upd (upd (upd (upd (fun _ => 0) ((0 : Int32)).toNatClampNeg p1) ((1 : Int32)).toNatClampNeg p2) ((2 : Int32)).toNatClampNeg p3) ((3 : Int32)).toNatClampNeg p4) ((4 : Int32)).toNatClampNeg p5) ((5 : Int32)).toNatClampNeg p6) ((6 : Int32)).toNatClampNeg p7) ((7 : Int32)).toNatClampNeg p8) ((8 : Int32)).toNatClampNeg p9) ((9 : Int32)).toNatClampNeg (s17.1 100))) : PC)]))) rfl ?_
                        obtain ⟨hin, k⟩ := k
                        refine Ex.isn (s := s17) (dy := s17.2.2.2.2) hq rfl hin ?_
                        show Ex sc (d + 4) 129 110 [.ref 0, .int p1, .int p2, .int p3, .int p4, .int p5, .int p6, .int p7, .int p8, .int p9, .int (1 : Int32), pu] [.ref (s17.2.2.2.2.length + 118)] (hpS (sD s17 (s17.2.2.2.2 ++ [(Sum.inl (0, ((11 : Int32)).toNatClampNeg, .inl (upd (upd (upd (upd (upd (upd (upd (upd (upd (upd (upd (fun _ => 0) ((0 : Int32)).toNatClampNeg p1) ((1 : Int32)).toNatClampNeg p2) ((2 : Int32)).toNatClampNeg p3) ((3 : Int32)).toNatClampNeg p4) ((4 : Int32)).toNatClampNeg p5) ((5 : Int32)).toNatClampNeg p6) ((6 : Int32)).toNatClampNeg p7) ((7 : Int32)).toNatClampNeg p8) ((8 : Int32)).toNatClampNeg p9) ((9 : Int32)).toNatClampNeg (s17.1 100)) ((10 : Int32)).toNatClampNeg (-1 : Int32))) : PC)]))) _
                        refine Ex.seg hq 4 (j := 114) (L' := [.ref 0, .int p1, .int p2, .int p3, .int p4, .int p5, .int p6, .int p7, .int p8, .int p9, .int (1 : Int32), .ref (s17.2.2.2.2.length + 118)]) (S' := [.ref (s17.2.2.2.2.length + 118), .ref 1]) (h' := hpS (sD s17 (s17.2.2.2.2 ++ [(Sum.inl (0, ((11 : Int32)).toNatClampNeg, .inl (upd (upd (upd (upd (upd (upd (upd (upd (upd (upd (upd (fun _ => 0) ((0 : Int32)).toNatClampNeg p1) ((1 : Int32)).toNatClampNeg p2) ((2 : Int32)).toNatClampNeg p3) ((3 : Int32)).toNatClampNeg p4) ((4 : Int32)).toNatClampNeg p5) ((5 : Int32)).toNatClampNeg p6) ((6 : Int32)).toNatClampNeg p7) ((7 : Int32)).toNatClampNeg p8) ((8 : Int32)).toNatClampNeg p9) ((9 : Int32)).toNatClampNeg (s17.1 100)) ((10 : Int32)).toNatClampNeg (-1 : Int32))) : PC)]))) rfl ?_
                        refine Ex.cl hq rfl rfl ?_
                        refine Rn.mono (q_5 (d := d + 0) s17.2.2.2.2.length (sD s17 (s17.2.2.2.2 ++ [(Sum.inl (0, ((11 : Int32)).toNatClampNeg, .inl (upd (upd (upd (upd (upd (upd (upd (upd (upd (upd (upd (fun _ => 0) ((0 : Int32)).toNatClampNeg p1) ((1 : Int32)).toNatClampNeg p2) ((2 : Int32)).toNatClampNeg p3) ((3 : Int32)).toNatClampNeg p4) ((4 : Int32)).toNatClampNeg p5) ((5 : Int32)).toNatClampNeg p6) ((6 : Int32)).toNatClampNeg p7) ((7 : Int32)).toNatClampNeg p8) ((8 : Int32)).toNatClampNeg p9) ((9 : Int32)).toNatClampNeg (s17.1 100)) ((10 : Int32)).toNatClampNeg (-1 : Int32))) : PC)])) k) ?_
                        rintro _ _ ⟨r42, s41, rfl, rfl, k⟩
                        show Ex sc (d + 4) 129 115 [.ref 0, .int p1, .int p2, .int p3, .int p4, .int p5, .int p6, .int p7, .int p8, .int p9, .int (1 : Int32), .ref (s17.2.2.2.2.length + 118)] [.int r42] (hpS s41) _
                        exact Ex.rt hq rfl rfl ⟨r42, s41, rfl, rfl, k⟩
                      · have k := k.2 c
                        refine Ex.seg hq 1 (j := 61) (L' := [.ref 0, .int p1, .int p2, .int p3, .int p4, .int p5, .int p6, .int p7, .int p8, .int p9, .int (1 : Int32), pu]) (S' := [.int (-1 : Int32)]) (h' := hpS s17) rfl ?_
                        exact Ex.rt hq rfl rfl ⟨(-1 : Int32), s17, rfl, rfl, k⟩
/-- RowAuditor.mend(II)Z -/
def w_131 (p1 : Int32) (p2 : Int32) (s : ST) (K : Int32 → ST → Prop) : Prop := w_2 p1 s (fun r2 s1 => ((r2 = 0 → K (0 : Int32) s1) ∧ (¬ (r2 = 0) → w_181 p2 (0 : Int32) (1000000 : Int32) s1 (fun r4 s3 => ((r4 = 0 → K (0 : Int32) s3) ∧ (¬ (r4 = 0) → (((s3.1 103) < (100 : Int32) → w_111 (s3.1 100) s3 (fun s5 => w_118 p1 s5 (fun r8 s7 => ((¬ r8 = 0 → w_11 p1 p2 s7 (fun s9 => K (1 : Int32) s9)) ∧ (¬ (¬ r8 = 0) → K (0 : Int32) s7))))) ∧ (¬ ((s3.1 103) < (100 : Int32)) → K (0 : Int32) s3))))))))
theorem q_131 {d : Nat} {K : Int32 → ST → Prop} (p1 : Int32) (p2 : Int32) (s : ST) (k : w_131 p1 p2 s K) : Rn sc (d + 5) 131 [.ref 0, .int p1, .int p2] (hpS s) (kZ K) := by
  have hq : prog[131]? = some pm131 := rfl
  refine Rn.of (L := [.ref 0, .int p1, .int p2]) hq rfl rfl ?_
  unfold w_131 at k
  refine Ex.seg hq 3 (j := 3) (L' := [.ref 0, .int p1, .int p2]) (S' := [.int p1, .ref 1]) (h' := hpS s) rfl ?_
  refine Ex.cl hq rfl rfl ?_
  refine Rn.mono (q_2 (d := d + 4) p1 s k) ?_
  rintro _ _ ⟨r2, s1, rfl, hzr2, rfl, k⟩
  show Ex sc (d + 5) 131 4 [.ref 0, .int p1, .int p2] [.int r2] (hpS s1) _
  refine Ex.i1 hq rfl (fun c => ?_) (fun c => ?_)
  · have k := k.1 c
    refine Ex.seg hq 1 (j := 16) (L' := [.ref 0, .int p1, .int p2]) (S' := [.int (0 : Int32)]) (h' := hpS s1) rfl ?_
    exact Ex.zr hq rfl rfl (Or.inl rfl) ⟨(0 : Int32), s1, rfl, (Or.inl rfl), rfl, k⟩
  · have k := k.2 c
    refine Ex.seg hq 3 (j := 8) (L' := [.ref 0, .int p1, .int p2]) (S' := [.int (1000000 : Int32), .int (0 : Int32), .int p2]) (h' := hpS s1) rfl ?_
    refine Ex.cl hq rfl rfl ?_
    refine Rn.mono (q_181 (d := d + 4) p2 (0 : Int32) (1000000 : Int32) s1 k) ?_
    rintro _ _ ⟨r4, s3, rfl, hzr4, rfl, k⟩
    show Ex sc (d + 5) 131 9 [.ref 0, .int p1, .int p2] [.int r4] (hpS s3) _
    refine Ex.i1 hq rfl (fun c => ?_) (fun c => ?_)
    · have k := k.1 c
      refine Ex.seg hq 1 (j := 16) (L' := [.ref 0, .int p1, .int p2]) (S' := [.int (0 : Int32)]) (h' := hpS s3) rfl ?_
      exact Ex.zr hq rfl rfl (Or.inl rfl) ⟨(0 : Int32), s3, rfl, (Or.inl rfl), rfl, k⟩
    · have k := k.2 c
      refine Ex.seg hq 4 (j := 14) (L' := [.ref 0, .int p1, .int p2]) (S' := [.int (100 : Int32), .int (s3.1 103)]) (h' := hpS s3) rfl ?_
      refine Ex.i2 hq rfl (fun c => ?_) (fun c => ?_)
      · have k := k.1 c
        refine Ex.seg hq 5 (j := 22) (L' := [.ref 0, .int p1, .int p2]) (S' := [.int (s3.1 100), .ref 8]) (h' := hpS s3) rfl ?_
        refine Ex.cl hq rfl rfl ?_
        refine Rn.mono (q_111 (d := d + 0) (s3.1 100) s3 k) ?_
        rintro _ _ ⟨s5, rfl, rfl, k⟩
        show Ex sc (d + 5) 131 23 [.ref 0, .int p1, .int p2] [] (hpS s5) _
        refine Ex.seg hq 3 (j := 26) (L' := [.ref 0, .int p1, .int p2]) (S' := [.int p1, .ref 8]) (h' := hpS s5) rfl ?_
        refine Ex.cl hq rfl rfl ?_
        refine Rn.mono (q_118 (d := d + 4) p1 s5 k) ?_
        rintro _ _ ⟨r8, s7, rfl, hzr8, rfl, k⟩
        show Ex sc (d + 5) 131 27 [.ref 0, .int p1, .int p2] [.int r8] (hpS s7) _
        refine Ex.i1 hq rfl (fun c => ?_) (fun c => ?_)
        · have k := k.1 c
          refine Ex.seg hq 4 (j := 34) (L' := [.ref 0, .int p1, .int p2]) (S' := [.int p2, .int p1, .ref 1]) (h' := hpS s7) rfl ?_
          refine Ex.cl hq rfl rfl ?_
          refine Rn.mono (q_11 (d := d + 4) p1 p2 s7 k) ?_
          rintro _ _ ⟨s9, rfl, rfl, k⟩
          show Ex sc (d + 5) 131 35 [.ref 0, .int p1, .int p2] [] (hpS s9) _
          refine Ex.seg hq 1 (j := 36) (L' := [.ref 0, .int p1, .int p2]) (S' := [.int (1 : Int32)]) (h' := hpS s9) rfl ?_
          exact Ex.zr hq rfl rfl (Or.inr rfl) ⟨(1 : Int32), s9, rfl, (Or.inr rfl), rfl, k⟩
        · have k := k.2 c
          refine Ex.seg hq 1 (j := 29) (L' := [.ref 0, .int p1, .int p2]) (S' := [.int (0 : Int32)]) (h' := hpS s7) rfl ?_
          exact Ex.zr hq rfl rfl (Or.inl rfl) ⟨(0 : Int32), s7, rfl, (Or.inl rfl), rfl, k⟩
      · have k := k.2 c
        refine Ex.seg hq 1 (j := 16) (L' := [.ref 0, .int p1, .int p2]) (S' := [.int (0 : Int32)]) (h' := hpS s3) rfl ?_
        exact Ex.zr hq rfl rfl (Or.inl rfl) ⟨(0 : Int32), s3, rfl, (Or.inl rfl), rfl, k⟩
/-- RowAuditor.isDay(I)Z -/
def w_182 (p0 : Int32) (s : ST) (K : Int32 → ST → Prop) : Prop := w_181 p0 (0 : Int32) (3999 : Int32) s (fun r2 s1 => K r2 s1)
theorem q_182 {d : Nat} {K : Int32 → ST → Prop} (p0 : Int32) (s : ST) (k : w_182 p0 s K) : Rn sc (d + 1) 182 [.int p0] (hpS s) (kZ K) := by
  have hq : prog[182]? = some pm182 := rfl
  refine Rn.of (L := [.int p0]) hq rfl rfl ?_
  unfold w_182 at k
  refine Ex.seg hq 3 (j := 3) (L' := [.int p0]) (S' := [.int (3999 : Int32), .int (0 : Int32), .int p0]) (h' := hpS s) rfl ?_
  refine Ex.cl hq rfl rfl ?_
  refine Rn.mono (q_181 (d := d + 0) p0 (0 : Int32) (3999 : Int32) s k) ?_
  rintro _ _ ⟨r2, s1, rfl, hzr2, rfl, k⟩
  show Ex sc (d + 1) 182 4 [.int p0] [.int r2] (hpS s1) _
  exact Ex.zr hq rfl rfl hzr2 ⟨r2, s1, rfl, hzr2, rfl, k⟩
/-- RowAuditor.known(III)I -/
def w_132 (p1 : Int32) (p2 : Int32) (p3 : Int32) (s : ST) (K : Int32 → ST → Prop) : Prop := w_182 p2 s (fun r2 s1 => ((r2 = 0 → K (-1 : Int32) s1) ∧ (¬ (r2 = 0) → w_181 p3 (0 : Int32) (1 : Int32) s1 (fun r4 s3 => ((¬ r4 = 0 → w_111 p2 s3 (fun s5 => w_118 p1 s5 (fun r8 s7 => ((¬ r8 = 0 → ((¬ p3 = 0 → w_120 p1 s7 (fun r10 s9 => K r10 s9)) ∧ (¬ (¬ p3 = 0) → w_119 p1 s7 (fun r12 s11 => K r12 s11)))) ∧ (¬ (¬ r8 = 0) → K (-1 : Int32) s7))))) ∧ (¬ (¬ r4 = 0) → K (-1 : Int32) s3))))))
theorem q_132 {d : Nat} {K : Int32 → ST → Prop} (p1 : Int32) (p2 : Int32) (p3 : Int32) (s : ST) (k : w_132 p1 p2 p3 s K) : Rn sc (d + 5) 132 [.ref 0, .int p1, .int p2, .int p3] (hpS s) (kI K) := by
  have hq : prog[132]? = some pm132 := rfl
  refine Rn.of (L := [.ref 0, .int p1, .int p2, .int p3]) hq rfl rfl ?_
  unfold w_132 at k
  refine Ex.seg hq 1 (j := 1) (L' := [.ref 0, .int p1, .int p2, .int p3]) (S' := [.int p2]) (h' := hpS s) rfl ?_
  refine Ex.cl hq rfl rfl ?_
  refine Rn.mono (q_182 (d := d + 3) p2 s k) ?_
  rintro _ _ ⟨r2, s1, rfl, hzr2, rfl, k⟩
  show Ex sc (d + 5) 132 2 [.ref 0, .int p1, .int p2, .int p3] [.int r2] (hpS s1) _
  refine Ex.i1 hq rfl (fun c => ?_) (fun c => ?_)
  · have k := k.1 c
    refine Ex.seg hq 1 (j := 9) (L' := [.ref 0, .int p1, .int p2, .int p3]) (S' := [.int (-1 : Int32)]) (h' := hpS s1) rfl ?_
    exact Ex.rt hq rfl rfl ⟨(-1 : Int32), s1, rfl, rfl, k⟩
  · have k := k.2 c
    refine Ex.seg hq 3 (j := 6) (L' := [.ref 0, .int p1, .int p2, .int p3]) (S' := [.int (1 : Int32), .int (0 : Int32), .int p3]) (h' := hpS s1) rfl ?_
    refine Ex.cl hq rfl rfl ?_
    refine Rn.mono (q_181 (d := d + 4) p3 (0 : Int32) (1 : Int32) s1 k) ?_
    rintro _ _ ⟨r4, s3, rfl, hzr4, rfl, k⟩
    show Ex sc (d + 5) 132 7 [.ref 0, .int p1, .int p2, .int p3] [.int r4] (hpS s3) _
    refine Ex.i1 hq rfl (fun c => ?_) (fun c => ?_)
    · have k := k.1 c
      refine Ex.seg hq 3 (j := 13) (L' := [.ref 0, .int p1, .int p2, .int p3]) (S' := [.int p2, .ref 8]) (h' := hpS s3) rfl ?_
      refine Ex.cl hq rfl rfl ?_
      refine Rn.mono (q_111 (d := d + 0) p2 s3 k) ?_
      rintro _ _ ⟨s5, rfl, rfl, k⟩
      show Ex sc (d + 5) 132 14 [.ref 0, .int p1, .int p2, .int p3] [] (hpS s5) _
      refine Ex.seg hq 3 (j := 17) (L' := [.ref 0, .int p1, .int p2, .int p3]) (S' := [.int p1, .ref 8]) (h' := hpS s5) rfl ?_
      refine Ex.cl hq rfl rfl ?_
      refine Rn.mono (q_118 (d := d + 4) p1 s5 k) ?_
      rintro _ _ ⟨r8, s7, rfl, hzr8, rfl, k⟩
      show Ex sc (d + 5) 132 18 [.ref 0, .int p1, .int p2, .int p3] [.int r8] (hpS s7) _
      refine Ex.i1 hq rfl (fun c => ?_) (fun c => ?_)
      · have k := k.1 c
        refine Ex.seg hq 1 (j := 22) (L' := [.ref 0, .int p1, .int p2, .int p3]) (S' := [.int p3]) (h' := hpS s7) rfl ?_
        refine Ex.i1 hq rfl (fun c => ?_) (fun c => ?_)
        · have k := k.1 c
          refine Ex.seg hq 3 (j := 31) (L' := [.ref 0, .int p1, .int p2, .int p3]) (S' := [.int p1, .ref 8]) (h' := hpS s7) rfl ?_
          refine Ex.cl hq rfl rfl ?_
          refine Rn.mono (q_120 (d := d + 4) p1 s7 k) ?_
          rintro _ _ ⟨r10, s9, rfl, rfl, k⟩
          show Ex sc (d + 5) 132 32 [.ref 0, .int p1, .int p2, .int p3] [.int r10] (hpS s9) _
          exact Ex.rt hq rfl rfl ⟨r10, s9, rfl, rfl, k⟩
        · have k := k.2 c
          refine Ex.seg hq 3 (j := 26) (L' := [.ref 0, .int p1, .int p2, .int p3]) (S' := [.int p1, .ref 8]) (h' := hpS s7) rfl ?_
          refine Ex.cl hq rfl rfl ?_
          refine Rn.mono (q_119 (d := d + 4) p1 s7 k) ?_
          rintro _ _ ⟨r12, s11, rfl, rfl, k⟩
          show Ex sc (d + 5) 132 27 [.ref 0, .int p1, .int p2, .int p3] [.int r12] (hpS s11) _
          refine Ex.seg hq 1 (j := 32) (L' := [.ref 0, .int p1, .int p2, .int p3]) (S' := [.int r12]) (h' := hpS s11) rfl ?_
          exact Ex.rt hq rfl rfl ⟨r12, s11, rfl, rfl, k⟩
      · have k := k.2 c
        refine Ex.seg hq 1 (j := 20) (L' := [.ref 0, .int p1, .int p2, .int p3]) (S' := [.int (-1 : Int32)]) (h' := hpS s7) rfl ?_
        exact Ex.rt hq rfl rfl ⟨(-1 : Int32), s7, rfl, rfl, k⟩
    · have k := k.2 c
      refine Ex.seg hq 1 (j := 9) (L' := [.ref 0, .int p1, .int p2, .int p3]) (S' := [.int (-1 : Int32)]) (h' := hpS s3) rfl ?_
      exact Ex.rt hq rfl rfl ⟨(-1 : Int32), s3, rfl, rfl, k⟩
def w_133_L24 : Nat → Int32 → Int32 → Int32 → Int32 → ST → (Int32 → ST → Prop) → (Int32 → ST → Prop) → (Int32 → ST → Prop) → Prop
  | 0, _, _, _, _, _, _, _, _ => False
  | n + 1, x1, x2, x4, x5, s, X57, X41, K => (((s.1 801) ≤ x5 → X57 x4 s) ∧ (¬ ((s.1 801) ≤ x5) → w_123 x5 s (fun r12 s11 => w_9 r12 (3 : Int32) s11 (fun r14 s13 => ((r14 ≤ x2 → w_119 r12 s13 (fun r16 s15 => w_17 r12 x1 s15 (fun r18 s17 => w_133_L24 n x1 x2 (x4 + (r16 * r18)) (x5 + (1 : Int32)) s17 X57 X41 K))) ∧ (¬ (r14 ≤ x2) → X41 x4 s13))))))
theorem q_133_L24 {d : Nat} {X57 : Int32 → ST → Prop} {X41 : Int32 → ST → Prop} {K : Int32 → ST → Prop} : ∀ (n : Nat) (x1 : Int32) (x2 : Int32) (x4 : Int32) (x5 : Int32) (s : ST), w_133_L24 n x1 x2 x4 x5 s X57 X41 K → (∀ (y4 : Int32) (s : ST), X57 y4 s → Ex sc (d + 5) 133 57 [pu, pu, pu, pu, .int y4, pu, pu] [] (hpS s) (kI K)) → (∀ (y4 : Int32) (s : ST), X41 y4 s → Ex sc (d + 5) 133 41 [pu, pu, pu, pu, .int y4, pu, pu] [] (hpS s) (kI K)) → Ex sc (d + 5) 133 24 [.ref 0, .int x1, .int x2, pu, .int x4, .int x5, pu] [] (hpS s) (kI K) := by
  have hq : prog[133]? = some pm133 := rfl
  intro n
  induction n with
  | zero =>
    intro x1 x2 x4 x5 s k
    exact k.elim
  | succ n ih =>
    intro x1 x2 x4 x5 s k hX57 hX41
    rw [w_133_L24] at k
    refine Ex.seg hq 4 (j := 28) (L' := [.ref 0, .int x1, .int x2, pu, .int x4, .int x5, pu]) (S' := [.int (s.1 801), .int x5]) (h' := hpS s) rfl ?_
    refine Ex.i2 hq rfl (fun c => ?_) (fun c => ?_)
    · have k := k.1 c
      refine Ex.fg (L := [pu, pu, pu, pu, .int x4, pu, pu]) ⟨Or.inr ⟨rfl, rfl⟩, ⟨Or.inr ⟨rfl, rfl⟩, ⟨Or.inr ⟨rfl, rfl⟩, ⟨Or.inl rfl, ⟨Or.inl rfl, ⟨Or.inr ⟨rfl, rfl⟩, ⟨Or.inl rfl, trivial⟩⟩⟩⟩⟩⟩⟩ ?_
      exact hX57 x4 s k
    · have k := k.2 c
      refine Ex.seg hq 3 (j := 32) (L' := [.ref 0, .int x1, .int x2, pu, .int x4, .int x5, pu]) (S' := [.int x5, .ref 8]) (h' := hpS s) rfl ?_
      refine Ex.cl hq rfl rfl ?_
      refine Rn.mono (q_123 (d := d + 4) x5 s k) ?_
      rintro _ _ ⟨r12, s11, rfl, rfl, k⟩
      show Ex sc (d + 5) 133 33 [.ref 0, .int x1, .int x2, pu, .int x4, .int x5, pu] [.int r12] (hpS s11) _
      refine Ex.seg hq 5 (j := 38) (L' := [.ref 0, .int x1, .int x2, pu, .int x4, .int x5, .int r12]) (S' := [.int (3 : Int32), .int r12, .ref 1]) (h' := hpS s11) rfl ?_
      refine Ex.cl hq rfl rfl ?_
      refine Rn.mono (q_9 (d := d + 4) r12 (3 : Int32) s11 k) ?_
      rintro _ _ ⟨r14, s13, rfl, rfl, k⟩
      show Ex sc (d + 5) 133 39 [.ref 0, .int x1, .int x2, pu, .int x4, .int x5, .int r12] [.int r14] (hpS s13) _
      refine Ex.seg hq 1 (j := 40) (L' := [.ref 0, .int x1, .int x2, pu, .int x4, .int x5, .int r12]) (S' := [.int x2, .int r14]) (h' := hpS s13) rfl ?_
      refine Ex.i2 hq rfl (fun c => ?_) (fun c => ?_)
      · have k := k.1 c
        refine Ex.seg hq 4 (j := 46) (L' := [.ref 0, .int x1, .int x2, pu, .int x4, .int x5, .int r12]) (S' := [.int r12, .ref 8, .int x4]) (h' := hpS s13) rfl ?_
        refine Ex.cl hq rfl rfl ?_
        refine Rn.mono (q_119 (d := d + 4) r12 s13 k) ?_
        rintro _ _ ⟨r16, s15, rfl, rfl, k⟩
        show Ex sc (d + 5) 133 47 [.ref 0, .int x1, .int x2, pu, .int x4, .int x5, .int r12] [.int r16, .int x4] (hpS s15) _
        refine Ex.seg hq 4 (j := 51) (L' := [.ref 0, .int x1, .int x2, pu, .int x4, .int x5, .int r12]) (S' := [.int x1, .int r12, .ref 1, .int r16, .int x4]) (h' := hpS s15) rfl ?_
        refine Ex.cl hq rfl rfl ?_
        refine Rn.mono (q_17 (d := d + 2) r12 x1 s15 k) ?_
        rintro _ _ ⟨r18, s17, rfl, rfl, k⟩
        show Ex sc (d + 5) 133 52 [.ref 0, .int x1, .int x2, pu, .int x4, .int x5, .int r12] [.int r18, .int r16, .int x4] (hpS s17) _
        refine Ex.seg hq 5 (j := 24) (L' := [.ref 0, .int x1, .int x2, pu, .int (x4 + (r16 * r18)), .int (x5 + (1 : Int32)), .int r12]) (S' := []) (h' := hpS s17) rfl ?_
        refine Ex.fg (L := [.ref 0, .int x1, .int x2, pu, .int (x4 + (r16 * r18)), .int (x5 + (1 : Int32)), pu]) ⟨Or.inl rfl, ⟨Or.inl rfl, ⟨Or.inl rfl, ⟨Or.inl rfl, ⟨Or.inl rfl, ⟨Or.inl rfl, ⟨Or.inr ⟨rfl, rfl⟩, trivial⟩⟩⟩⟩⟩⟩⟩ ?_
        exact ih x1 x2 (x4 + (r16 * r18)) (x5 + (1 : Int32)) s17 k hX57 hX41
      · have k := k.2 c
        refine Ex.fg (L := [pu, pu, pu, pu, .int x4, pu, pu]) ⟨Or.inr ⟨rfl, rfl⟩, ⟨Or.inr ⟨rfl, rfl⟩, ⟨Or.inr ⟨rfl, rfl⟩, ⟨Or.inl rfl, ⟨Or.inl rfl, ⟨Or.inr ⟨rfl, rfl⟩, ⟨Or.inr ⟨rfl, rfl⟩, trivial⟩⟩⟩⟩⟩⟩⟩ ?_
        exact hX41 x4 s13 k
/-- RowAuditor.holds(III)I -/
def w_133 (p1 : Int32) (p2 : Int32) (p3 : Int32) (s : ST) (K : Int32 → ST → Prop) : Prop := w_1 p1 s (fun r2 s1 => ((r2 = 0 → K (-1000000000 : Int32) s1) ∧ (¬ (r2 = 0) → w_182 p2 s1 (fun r4 s3 => ((r4 = 0 → K (-1000000000 : Int32) s3) ∧ (¬ (r4 = 0) → w_182 p3 s3 (fun r6 s5 => ((¬ r6 = 0 → w_111 p3 s5 (fun s7 => w_4 p1 s7 (fun r10 s9 => (∃ m, w_133_L24 m p1 p2 r10 (0 : Int32) s9 (fun y4 s19 => K y4 s19) (fun y4 s20 => K y4 s20) K)))) ∧ (¬ (¬ r6 = 0) → K (-1000000000 : Int32) s5)))))))))
theorem q_133 {d : Nat} {K : Int32 → ST → Prop} (p1 : Int32) (p2 : Int32) (p3 : Int32) (s : ST) (k : w_133 p1 p2 p3 s K) : Rn sc (d + 5) 133 [.ref 0, .int p1, .int p2, .int p3] (hpS s) (kI K) := by
  have hq : prog[133]? = some pm133 := rfl
  refine Rn.of (L := [.ref 0, .int p1, .int p2, .int p3, pu, pu, pu]) hq rfl rfl ?_
  unfold w_133 at k
  refine Ex.seg hq 3 (j := 3) (L' := [.ref 0, .int p1, .int p2, .int p3, pu, pu, pu]) (S' := [.int p1, .ref 1]) (h' := hpS s) rfl ?_
  refine Ex.cl hq rfl rfl ?_
  refine Rn.mono (q_1 (d := d + 4) p1 s k) ?_
  rintro _ _ ⟨r2, s1, rfl, hzr2, rfl, k⟩
  show Ex sc (d + 5) 133 4 [.ref 0, .int p1, .int p2, .int p3, pu, pu, pu] [.int r2] (hpS s1) _
  refine Ex.i1 hq rfl (fun c => ?_) (fun c => ?_)
  · have k := k.1 c
    refine Ex.seg hq 1 (j := 12) (L' := [.ref 0, .int p1, .int p2, .int p3, pu, pu, pu]) (S' := [.int (-1000000000 : Int32)]) (h' := hpS s1) rfl ?_
    exact Ex.rt hq rfl rfl ⟨(-1000000000 : Int32), s1, rfl, rfl, k⟩
  · have k := k.2 c
    refine Ex.seg hq 1 (j := 6) (L' := [.ref 0, .int p1, .int p2, .int p3, pu, pu, pu]) (S' := [.int p2]) (h' := hpS s1) rfl ?_
    refine Ex.cl hq rfl rfl ?_
    refine Rn.mono (q_182 (d := d + 3) p2 s1 k) ?_
    rintro _ _ ⟨r4, s3, rfl, hzr4, rfl, k⟩
    show Ex sc (d + 5) 133 7 [.ref 0, .int p1, .int p2, .int p3, pu, pu, pu] [.int r4] (hpS s3) _
    refine Ex.i1 hq rfl (fun c => ?_) (fun c => ?_)
    · have k := k.1 c
      refine Ex.seg hq 1 (j := 12) (L' := [.ref 0, .int p1, .int p2, .int p3, pu, pu, pu]) (S' := [.int (-1000000000 : Int32)]) (h' := hpS s3) rfl ?_
      exact Ex.rt hq rfl rfl ⟨(-1000000000 : Int32), s3, rfl, rfl, k⟩
    · have k := k.2 c
      refine Ex.seg hq 1 (j := 9) (L' := [.ref 0, .int p1, .int p2, .int p3, pu, pu, pu]) (S' := [.int p3]) (h' := hpS s3) rfl ?_
      refine Ex.cl hq rfl rfl ?_
      refine Rn.mono (q_182 (d := d + 3) p3 s3 k) ?_
      rintro _ _ ⟨r6, s5, rfl, hzr6, rfl, k⟩
      show Ex sc (d + 5) 133 10 [.ref 0, .int p1, .int p2, .int p3, pu, pu, pu] [.int r6] (hpS s5) _
      refine Ex.i1 hq rfl (fun c => ?_) (fun c => ?_)
      · have k := k.1 c
        refine Ex.seg hq 3 (j := 16) (L' := [.ref 0, .int p1, .int p2, .int p3, pu, pu, pu]) (S' := [.int p3, .ref 8]) (h' := hpS s5) rfl ?_
        refine Ex.cl hq rfl rfl ?_
        refine Rn.mono (q_111 (d := d + 0) p3 s5 k) ?_
        rintro _ _ ⟨s7, rfl, rfl, k⟩
        show Ex sc (d + 5) 133 17 [.ref 0, .int p1, .int p2, .int p3, pu, pu, pu] [] (hpS s7) _
        refine Ex.seg hq 3 (j := 20) (L' := [.ref 0, .int p1, .int p2, .int p3, pu, pu, pu]) (S' := [.int p1, .ref 1]) (h' := hpS s7) rfl ?_
        refine Ex.cl hq rfl rfl ?_
        refine Rn.mono (q_4 (d := d + 4) p1 s7 k) ?_
        rintro _ _ ⟨r10, s9, rfl, rfl, k⟩
        show Ex sc (d + 5) 133 21 [.ref 0, .int p1, .int p2, .int p3, pu, pu, pu] [.int r10] (hpS s9) _
        refine Ex.seg hq 3 (j := 24) (L' := [.ref 0, .int p1, .int p2, .int p3, .int r10, .int (0 : Int32), pu]) (S' := []) (h' := hpS s9) rfl ?_
        obtain ⟨m, k⟩ := k
        refine Ex.fg (L := [.ref 0, .int p1, .int p2, pu, .int r10, .int (0 : Int32), pu]) ⟨Or.inl rfl, ⟨Or.inl rfl, ⟨Or.inl rfl, ⟨Or.inr ⟨rfl, rfl⟩, ⟨Or.inl rfl, ⟨Or.inl rfl, ⟨Or.inl rfl, trivial⟩⟩⟩⟩⟩⟩⟩ ?_
        refine q_133_L24 (d := d) m p1 p2 r10 (0 : Int32) s9 k ?_ ?_
        · intro y4 s19 k
          refine Ex.seg hq 1 (j := 58) (L' := [pu, pu, pu, pu, .int y4, pu, pu]) (S' := [.int y4]) (h' := hpS s19) rfl ?_
          exact Ex.rt hq rfl rfl ⟨y4, s19, rfl, rfl, k⟩
        · intro y4 s20 k
          refine Ex.seg hq 2 (j := 58) (L' := [pu, pu, pu, pu, .int y4, pu, pu]) (S' := [.int y4]) (h' := hpS s20) rfl ?_
          exact Ex.rt hq rfl rfl ⟨y4, s20, rfl, rfl, k⟩
      · have k := k.2 c
        refine Ex.seg hq 1 (j := 12) (L' := [.ref 0, .int p1, .int p2, .int p3, pu, pu, pu]) (S' := [.int (-1000000000 : Int32)]) (h' := hpS s5) rfl ?_
        exact Ex.rt hq rfl rfl ⟨(-1000000000 : Int32), s5, rfl, rfl, k⟩
def w_135_L2 : Nat → Int32 → Int32 → ST → (ST → Prop) → (ST → Prop) → Prop
  | 0, _, _, _, _, _ => False
  | n + 1, x1, x2, s, X26, K => ((x2 < 0 → X26  s) ∧ (¬ (x2 < 0) → (((200 : Int32) ≤ (s.1 7) → X26  s) ∧ (¬ ((200 : Int32) ≤ (s.1 7)) → (pin (s.1 7) 200 = true ∧ w_135_L2 n x1 (x2 + (-8 : Int32)) (sA (sI s 7 ((s.1 7) + (1 : Int32))) 27 (upd (s.2.1 27) ((s.1 7)).toNatClampNeg ((((x1).toUInt32 >>> ((x2).toUInt32 &&& Int32.toUInt32 31)).toInt32) &&& (255 : Int32)))) X26 K)))))
theorem q_135_L2 {d : Nat} {X26 : ST → Prop} {K : ST → Prop} : ∀ (n : Nat) (x1 : Int32) (x2 : Int32) (s : ST), w_135_L2 n x1 x2 s X26 K → (∀ (s : ST), X26  s → Ex sc (d + 0) 135 26 [pu, pu, pu] [] (hpS s) (kV K)) → Ex sc (d + 0) 135 2 [.ref 0, .int x1, .int x2] [] (hpS s) (kV K) := by
  have hq : prog[135]? = some pm135 := rfl
  intro n
  induction n with
  | zero =>
    intro x1 x2 s k
    exact k.elim
  | succ n ih =>
    intro x1 x2 s k hX26
    rw [w_135_L2] at k
    refine Ex.seg hq 1 (j := 3) (L' := [.ref 0, .int x1, .int x2]) (S' := [.int x2]) (h' := hpS s) rfl ?_
    refine Ex.i1 hq rfl (fun c => ?_) (fun c => ?_)
    · have k := k.1 c
      refine Ex.fg (L := [pu, pu, pu]) ⟨Or.inr ⟨rfl, rfl⟩, ⟨Or.inr ⟨rfl, rfl⟩, ⟨Or.inr ⟨rfl, rfl⟩, trivial⟩⟩⟩ ?_
      exact hX26  s k
    · have k := k.2 c
      refine Ex.seg hq 3 (j := 7) (L' := [.ref 0, .int x1, .int x2]) (S' := [.int (200 : Int32), .int (s.1 7)]) (h' := hpS s) rfl ?_
      refine Ex.i2 hq rfl (fun c => ?_) (fun c => ?_)
      · have k := k.1 c
        refine Ex.fg (L := [pu, pu, pu]) ⟨Or.inr ⟨rfl, rfl⟩, ⟨Or.inr ⟨rfl, rfl⟩, ⟨Or.inr ⟨rfl, rfl⟩, trivial⟩⟩⟩ ?_
        exact hX26  s k
      · have k := k.2 c
        refine Ex.seg hq 9 (j := 17) (L' := [.ref 0, .int x1, .int x2]) (S' := [.int ((((x1).toUInt32 >>> ((x2).toUInt32 &&& Int32.toUInt32 31)).toInt32) &&& (255 : Int32)), .int (s.1 7), .ref 27]) (h' := hpS s) rfl ?_
        obtain ⟨hin, k⟩ := k
        refine Ex.ias hq rfl rfl hin (h' := hpS (sA s 27 (upd (s.2.1 27) ((s.1 7)).toNatClampNeg ((((x1).toUInt32 >>> ((x2).toUInt32 &&& Int32.toUInt32 31)).toInt32) &&& (255 : Int32))))) (hset_27 _ _) ?_
        refine Ex.seg hq 8 (j := 2) (L' := [.ref 0, .int x1, .int (x2 + (-8 : Int32))]) (S' := []) (h' := hpS (sA (sI s 7 ((s.1 7) + (1 : Int32))) 27 (upd (s.2.1 27) ((s.1 7)).toNatClampNeg ((((x1).toUInt32 >>> ((x2).toUInt32 &&& Int32.toUInt32 31)).toInt32) &&& (255 : Int32))))) rfl ?_
        exact ih x1 (x2 + (-8 : Int32)) (sA (sI s 7 ((s.1 7) + (1 : Int32))) 27 (upd (s.2.1 27) ((s.1 7)).toNatClampNeg ((((x1).toUInt32 >>> ((x2).toUInt32 &&& Int32.toUInt32 31)).toInt32) &&& (255 : Int32)))) k hX26
/-- RowAuditor.append(I)V -/
def w_135 (p1 : Int32) (s : ST) (K : ST → Prop) : Prop := (∃ m, w_135_L2 m p1 (24 : Int32) s (fun s1 => K s1) K)
theorem q_135 {d : Nat} {K : ST → Prop} (p1 : Int32) (s : ST) (k : w_135 p1 s K) : Rn sc (d + 0) 135 [.ref 0, .int p1] (hpS s) (kV K) := by
  have hq : prog[135]? = some pm135 := rfl
  refine Rn.of (L := [.ref 0, .int p1, pu]) hq rfl rfl ?_
  unfold w_135 at k
  refine Ex.seg hq 2 (j := 2) (L' := [.ref 0, .int p1, .int (24 : Int32)]) (S' := []) (h' := hpS s) rfl ?_
  obtain ⟨m, k⟩ := k
  refine q_135_L2 (d := d) m p1 (24 : Int32) s k ?_
  · intro s1 k
    exact Ex.rt hq rfl rfl ⟨s1, rfl, rfl, k⟩
/-- RowAuditor.feed(IIIII)I -/
def w_134 (p1 : Int32) (p2 : Int32) (p3 : Int32) (p4 : Int32) (p5 : Int32) (s : ST) (K : Int32 → ST → Prop) : Prop := ((((s.1 7) + (20 : Int32)) ≤ (200 : Int32) → w_135 p1 s (fun s1 => w_135 p2 s1 (fun s3 => w_135 p3 s3 (fun s5 => w_135 p4 s5 (fun s7 => w_135 p5 s7 (fun s9 => K (s9.1 7) s9)))))) ∧ (¬ (((s.1 7) + (20 : Int32)) ≤ (200 : Int32)) → K (-1 : Int32) s))
theorem q_134 {d : Nat} {K : Int32 → ST → Prop} (p1 : Int32) (p2 : Int32) (p3 : Int32) (p4 : Int32) (p5 : Int32) (s : ST) (k : w_134 p1 p2 p3 p4 p5 s K) : Rn sc (d + 1) 134 [.ref 0, .int p1, .int p2, .int p3, .int p4, .int p5] (hpS s) (kI K) := by
  have hq : prog[134]? = some pm134 := rfl
  refine Rn.of (L := [.ref 0, .int p1, .int p2, .int p3, .int p4, .int p5]) hq rfl rfl ?_
  unfold w_134 at k
  refine Ex.seg hq 5 (j := 5) (L' := [.ref 0, .int p1, .int p2, .int p3, .int p4, .int p5]) (S' := [.int (200 : Int32), .int ((s.1 7) + (20 : Int32))]) (h' := hpS s) rfl ?_
  refine Ex.i2 hq rfl (fun c => ?_) (fun c => ?_)
  · have k := k.1 c
    refine Ex.seg hq 2 (j := 10) (L' := [.ref 0, .int p1, .int p2, .int p3, .int p4, .int p5]) (S' := [.int p1, .ref 0]) (h' := hpS s) rfl ?_
    refine Ex.cl hq rfl rfl ?_
    refine Rn.mono (q_135 (d := d + 0) p1 s k) ?_
    rintro _ _ ⟨s1, rfl, rfl, k⟩
    show Ex sc (d + 1) 134 11 [.ref 0, .int p1, .int p2, .int p3, .int p4, .int p5] [] (hpS s1) _
    refine Ex.seg hq 2 (j := 13) (L' := [.ref 0, .int p1, .int p2, .int p3, .int p4, .int p5]) (S' := [.int p2, .ref 0]) (h' := hpS s1) rfl ?_
    refine Ex.cl hq rfl rfl ?_
    refine Rn.mono (q_135 (d := d + 0) p2 s1 k) ?_
    rintro _ _ ⟨s3, rfl, rfl, k⟩
    show Ex sc (d + 1) 134 14 [.ref 0, .int p1, .int p2, .int p3, .int p4, .int p5] [] (hpS s3) _
    refine Ex.seg hq 2 (j := 16) (L' := [.ref 0, .int p1, .int p2, .int p3, .int p4, .int p5]) (S' := [.int p3, .ref 0]) (h' := hpS s3) rfl ?_
    refine Ex.cl hq rfl rfl ?_
    refine Rn.mono (q_135 (d := d + 0) p3 s3 k) ?_
    rintro _ _ ⟨s5, rfl, rfl, k⟩
    show Ex sc (d + 1) 134 17 [.ref 0, .int p1, .int p2, .int p3, .int p4, .int p5] [] (hpS s5) _
    refine Ex.seg hq 2 (j := 19) (L' := [.ref 0, .int p1, .int p2, .int p3, .int p4, .int p5]) (S' := [.int p4, .ref 0]) (h' := hpS s5) rfl ?_
    refine Ex.cl hq rfl rfl ?_
    refine Rn.mono (q_135 (d := d + 0) p4 s5 k) ?_
    rintro _ _ ⟨s7, rfl, rfl, k⟩
    show Ex sc (d + 1) 134 20 [.ref 0, .int p1, .int p2, .int p3, .int p4, .int p5] [] (hpS s7) _
    refine Ex.seg hq 2 (j := 22) (L' := [.ref 0, .int p1, .int p2, .int p3, .int p4, .int p5]) (S' := [.int p5, .ref 0]) (h' := hpS s7) rfl ?_
    refine Ex.cl hq rfl rfl ?_
    refine Rn.mono (q_135 (d := d + 0) p5 s7 k) ?_
    rintro _ _ ⟨s9, rfl, rfl, k⟩
    show Ex sc (d + 1) 134 23 [.ref 0, .int p1, .int p2, .int p3, .int p4, .int p5] [] (hpS s9) _
    refine Ex.seg hq 2 (j := 25) (L' := [.ref 0, .int p1, .int p2, .int p3, .int p4, .int p5]) (S' := [.int (s9.1 7)]) (h' := hpS s9) rfl ?_
    exact Ex.rt hq rfl rfl ⟨(s9.1 7), s9, rfl, rfl, k⟩
  · have k := k.2 c
    refine Ex.seg hq 1 (j := 7) (L' := [.ref 0, .int p1, .int p2, .int p3, .int p4, .int p5]) (S' := [.int (-1 : Int32)]) (h' := hpS s) rfl ?_
    exact Ex.rt hq rfl rfl ⟨(-1 : Int32), s, rfl, rfl, k⟩
/-- RowAuditor.hasTaped(II)Z -/
def w_136 (p1 : Int32) (p2 : Int32) (s : ST) (K : Int32 → ST → Prop) : Prop := w_181 p1 (1 : Int32) p2 s (fun r2 s1 => ((r2 = 0 → K (0 : Int32) s1) ∧ (¬ (r2 = 0) → (((s1.1 7) < p1 → K (0 : Int32) s1) ∧ (¬ ((s1.1 7) < p1) → K (1 : Int32) s1)))))
theorem q_136 {d : Nat} {K : Int32 → ST → Prop} (p1 : Int32) (p2 : Int32) (s : ST) (k : w_136 p1 p2 s K) : Rn sc (d + 1) 136 [.ref 0, .int p1, .int p2] (hpS s) (kZ K) := by
  have hq : prog[136]? = some pm136 := rfl
  refine Rn.of (L := [.ref 0, .int p1, .int p2]) hq rfl rfl ?_
  unfold w_136 at k
  refine Ex.seg hq 3 (j := 3) (L' := [.ref 0, .int p1, .int p2]) (S' := [.int p2, .int (1 : Int32), .int p1]) (h' := hpS s) rfl ?_
  refine Ex.cl hq rfl rfl ?_
  refine Rn.mono (q_181 (d := d + 0) p1 (1 : Int32) p2 s k) ?_
  rintro _ _ ⟨r2, s1, rfl, hzr2, rfl, k⟩
  show Ex sc (d + 1) 136 4 [.ref 0, .int p1, .int p2] [.int r2] (hpS s1) _
  refine Ex.i1 hq rfl (fun c => ?_) (fun c => ?_)
  · have k := k.1 c
    refine Ex.seg hq 1 (j := 12) (L' := [.ref 0, .int p1, .int p2]) (S' := [.int (0 : Int32)]) (h' := hpS s1) rfl ?_
    exact Ex.zr hq rfl rfl (Or.inl rfl) ⟨(0 : Int32), s1, rfl, (Or.inl rfl), rfl, k⟩
  · have k := k.2 c
    refine Ex.seg hq 3 (j := 8) (L' := [.ref 0, .int p1, .int p2]) (S' := [.int (s1.1 7), .int p1]) (h' := hpS s1) rfl ?_
    refine Ex.i2 hq rfl (fun c => ?_) (fun c => ?_)
    · have k := k.1 c
      refine Ex.seg hq 1 (j := 12) (L' := [.ref 0, .int p1, .int p2]) (S' := [.int (0 : Int32)]) (h' := hpS s1) rfl ?_
      exact Ex.zr hq rfl rfl (Or.inl rfl) ⟨(0 : Int32), s1, rfl, (Or.inl rfl), rfl, k⟩
    · have k := k.2 c
      refine Ex.seg hq 2 (j := 12) (L' := [.ref 0, .int p1, .int p2]) (S' := [.int (1 : Int32)]) (h' := hpS s1) rfl ?_
      exact Ex.zr hq rfl rfl (Or.inr rfl) ⟨(1 : Int32), s1, rfl, (Or.inr rfl), rfl, k⟩
/-- java/util/ArrayList.grow(I)[Ljava/lang/Object; -/
def w_295_R20 (p1 : Int32) (s : ST) (K : Nat → ST → Prop) : Prop := (((s.2.2.2.1 20) = .float 1 ∧ (((s.2.2.2.1 20) = .float 1 ∧ (¬ (if (10 : Int32) < p1 then p1 else (10 : Int32)) < 0 ∧ ((if (10 : Int32) < p1 then p1 else (10 : Int32))).toNatClampNeg ≤ 100000 ∧ K s.2.2.2.2.length (sD (sR s 20 (.ref (s.2.2.2.2.length + 118))) (s.2.2.2.2 ++ [(Sum.inl (4, ((if (10 : Int32) < p1 then p1 else (10 : Int32))).toNatClampNeg, .inr (.inr (fun _ => none))) : PC)])))) ∨ (∃ b2, (s.2.2.2.1 20) = .ref (b2 + 118) ∧ w_307 (0 : Int32) (p1 - (0 : Int32)) ((0 : Int32) >>> ((1 : Int32) &&& 31)) s (fun r4 s3 => (((s3.2.2.2.1 20) = .float 1 ∧ w_303_F1 r4 s3 (fun r7 s6 => K r7 (sR s6 20 (.ref (r7 + 118))))) ∨ (∃ b5, (s3.2.2.2.1 20) = .ref (b5 + 118) ∧ w_303 b5 r4 s3 (fun r9 s8 => K r9 (sR s8 20 (.ref (r9 + 118)))))))))) ∨ (∃ b1, (s.2.2.2.1 20) = .ref (b1 + 118) ∧ (∃ n10 f11, prowR s.2.2.2.2 b1 = some (n10, f11) ∧ ((0 < (Int32.ofNat n10) → w_307 (Int32.ofNat n10) (p1 - (Int32.ofNat n10)) ((Int32.ofNat n10) >>> ((1 : Int32) &&& 31)) s (fun r13 s12 => (((s12.2.2.2.1 20) = .float 1 ∧ w_303_F1 r13 s12 (fun r16 s15 => K r16 (sR s15 20 (.ref (r16 + 118))))) ∨ (∃ b14, (s12.2.2.2.1 20) = .ref (b14 + 118) ∧ w_303 b14 r13 s12 (fun r18 s17 => K r18 (sR s17 20 (.ref (r18 + 118)))))))) ∧ (¬ (0 < (Int32.ofNat n10)) → (((s.2.2.2.1 20) = .float 1 ∧ (¬ (if (10 : Int32) < p1 then p1 else (10 : Int32)) < 0 ∧ ((if (10 : Int32) < p1 then p1 else (10 : Int32))).toNatClampNeg ≤ 100000 ∧ K s.2.2.2.2.length (sD (sR s 20 (.ref (s.2.2.2.2.length + 118))) (s.2.2.2.2 ++ [(Sum.inl (4, ((if (10 : Int32) < p1 then p1 else (10 : Int32))).toNatClampNeg, .inr (.inr (fun _ => none))) : PC)])))) ∨ (∃ b19, (s.2.2.2.1 20) = .ref (b19 + 118) ∧ w_307 (Int32.ofNat n10) (p1 - (Int32.ofNat n10)) ((Int32.ofNat n10) >>> ((1 : Int32) &&& 31)) s (fun r21 s20 => (((s20.2.2.2.1 20) = .float 1 ∧ w_303_F1 r21 s20 (fun r24 s23 => K r24 (sR s23 20 (.ref (r24 + 118))))) ∨ (∃ b22, (s20.2.2.2.1 20) = .ref (b22 + 118) ∧ w_303 b22 r21 s20 (fun r26 s25 => K r26 (sR s25 20 (.ref (r26 + 118))))))))))))))
theorem q_295_R20 {d : Nat} {K : Nat → ST → Prop} (p1 : Int32) (s : ST) (k : w_295_R20 p1 s K) : Rn sc (d + 3) 295 [.ref 20, .int p1] (hpS s) (kA K) := by
  have hq : prog[295]? = some pm295 := rfl
  refine Rn.of (L := [.ref 20, .int p1, pu, pu]) hq rfl rfl ?_
  unfold w_295_R20 at k
  refine Ex.seg hq 1 (j := 1) (L' := [.ref 20, .int p1, pu, pu]) (S' := [.ref 20]) (h' := hpS s) rfl ?_
  refine Ex.seg hq 1 (j := 2) (L' := [.ref 20, .int p1, pu, pu]) (S' := (s.2.2.2.1 20) :: []) (h' := hpS s) rfl ?_
  rcases k with ⟨e, k⟩ | ⟨b1, e, k⟩
  · rw [e]
    refine Ex.seg hq 5 (j := 7) (L' := [.ref 20, .int p1, .int (0 : Int32), pu]) (S' := [.ref 20]) (h' := hpS s) rfl ?_
    refine Ex.seg hq 1 (j := 8) (L' := [.ref 20, .int p1, .int (0 : Int32), pu]) (S' := (s.2.2.2.1 20) :: []) (h' := hpS s) rfl ?_
    rcases k with ⟨e, k⟩ | ⟨b2, e, k⟩
    · rw [e]
      refine Ex.seg hq 6 (j := 31) (L' := [.ref 20, .int p1, .int (0 : Int32), pu]) (S' := [.int (if (10 : Int32) < p1 then p1 else (10 : Int32)), .ref 20]) (h' := hpS s) rfl ?_
      obtain ⟨h0, h1, k⟩ := k
      refine Ex.anw hq rfl h0 h1 ?_
      show Ex sc (d + 3) 295 32 [.ref 20, .int p1, .int (0 : Int32), pu] [.ref (s.2.2.2.2.length + 118), .ref 20] (hpS (sD s (s.2.2.2.2 ++ [(Sum.inl (4, ((if (10 : Int32) < p1 then p1 else (10 : Int32))).toNatClampNeg, .inr (.inr (fun _ => none))) : PC)]))) _
      refine Ex.seg hq 2 (j := 34) (L' := [.ref 20, .int p1, .int (0 : Int32), pu]) (S' := [.ref (s.2.2.2.2.length + 118)]) (h' := hpS (sD (sR s 20 (.ref (s.2.2.2.2.length + 118))) (s.2.2.2.2 ++ [(Sum.inl (4, ((if (10 : Int32) < p1 then p1 else (10 : Int32))).toNatClampNeg, .inr (.inr (fun _ => none))) : PC)]))) rfl ?_
      exact Ex.rt hq rfl rfl ⟨s.2.2.2.2.length, (sD (sR s 20 (.ref (s.2.2.2.2.length + 118))) (s.2.2.2.2 ++ [(Sum.inl (4, ((if (10 : Int32) < p1 then p1 else (10 : Int32))).toNatClampNeg, .inr (.inr (fun _ => none))) : PC)])), rfl, rfl, k⟩
    · rw [e]
      refine Ex.seg hq 9 (j := 17) (L' := [.ref 20, .int p1, .int (0 : Int32), pu]) (S' := [.int ((0 : Int32) >>> ((1 : Int32) &&& 31)), .int (p1 - (0 : Int32)), .int (0 : Int32)]) (h' := hpS s) rfl ?_
      refine Ex.cl hq rfl rfl ?_
      refine Rn.mono (q_307 (d := d + 1) (0 : Int32) (p1 - (0 : Int32)) ((0 : Int32) >>> ((1 : Int32) &&& 31)) s k) ?_
      rintro _ _ ⟨r4, s3, rfl, rfl, k⟩
      show Ex sc (d + 3) 295 18 [.ref 20, .int p1, .int (0 : Int32), pu] [.int r4] (hpS s3) _
      refine Ex.seg hq 3 (j := 21) (L' := [.ref 20, .int p1, .int (0 : Int32), .int r4]) (S' := [.ref 20, .ref 20]) (h' := hpS s3) rfl ?_
      refine Ex.seg hq 1 (j := 22) (L' := [.ref 20, .int p1, .int (0 : Int32), .int r4]) (S' := (s3.2.2.2.1 20) :: [.ref 20]) (h' := hpS s3) rfl ?_
      rcases k with ⟨e, k⟩ | ⟨b5, e, k⟩
      · rw [e]
        refine Ex.seg hq 1 (j := 23) (L' := [.ref 20, .int p1, .int (0 : Int32), .int r4]) (S' := [.int r4, .float 1, .ref 20]) (h' := hpS s3) rfl ?_
        refine Ex.cl hq rfl rfl ?_
        refine Rn.mono (q_303_F1 (d := d + 2) r4 s3 k) ?_
        rintro _ _ ⟨r7, s6, rfl, rfl, k⟩
        show Ex sc (d + 3) 295 24 [.ref 20, .int p1, .int (0 : Int32), .int r4] [.ref (r7 + 118), .ref 20] (hpS s6) _
        refine Ex.seg hq 2 (j := 26) (L' := [.ref 20, .int p1, .int (0 : Int32), .int r4]) (S' := [.ref (r7 + 118)]) (h' := hpS (sR s6 20 (.ref (r7 + 118)))) rfl ?_
        exact Ex.rt hq rfl rfl ⟨r7, (sR s6 20 (.ref (r7 + 118))), rfl, rfl, k⟩
      · rw [e]
        refine Ex.seg hq 1 (j := 23) (L' := [.ref 20, .int p1, .int (0 : Int32), .int r4]) (S' := [.int r4, .ref (b5 + 118), .ref 20]) (h' := hpS s3) rfl ?_
        refine Ex.cl hq rfl rfl ?_
        refine Rn.mono (q_303 (d := d + 0) b5 r4 s3 k) ?_
        rintro _ _ ⟨r9, s8, rfl, rfl, k⟩
        show Ex sc (d + 3) 295 24 [.ref 20, .int p1, .int (0 : Int32), .int r4] [.ref (r9 + 118), .ref 20] (hpS s8) _
        refine Ex.seg hq 2 (j := 26) (L' := [.ref 20, .int p1, .int (0 : Int32), .int r4]) (S' := [.ref (r9 + 118)]) (h' := hpS (sR s8 20 (.ref (r9 + 118)))) rfl ?_
        exact Ex.rt hq rfl rfl ⟨r9, (sR s8 20 (.ref (r9 + 118))), rfl, rfl, k⟩
  · rw [e]
    obtain ⟨n10, f11, e, k⟩ := k
    refine Ex.lnR hq rfl e ?_
    refine Ex.seg hq 2 (j := 5) (L' := [.ref 20, .int p1, .int (Int32.ofNat n10), pu]) (S' := [.int (Int32.ofNat n10)]) (h' := hpS s) rfl ?_
    refine Ex.i1 hq rfl (fun c => ?_) (fun c => ?_)
    · have k := k.1 c
      refine Ex.seg hq 7 (j := 17) (L' := [.ref 20, .int p1, .int (Int32.ofNat n10), pu]) (S' := [.int ((Int32.ofNat n10) >>> ((1 : Int32) &&& 31)), .int (p1 - (Int32.ofNat n10)), .int (Int32.ofNat n10)]) (h' := hpS s) rfl ?_
      refine Ex.cl hq rfl rfl ?_
      refine Rn.mono (q_307 (d := d + 1) (Int32.ofNat n10) (p1 - (Int32.ofNat n10)) ((Int32.ofNat n10) >>> ((1 : Int32) &&& 31)) s k) ?_
      rintro _ _ ⟨r13, s12, rfl, rfl, k⟩
      show Ex sc (d + 3) 295 18 [.ref 20, .int p1, .int (Int32.ofNat n10), pu] [.int r13] (hpS s12) _
      refine Ex.seg hq 3 (j := 21) (L' := [.ref 20, .int p1, .int (Int32.ofNat n10), .int r13]) (S' := [.ref 20, .ref 20]) (h' := hpS s12) rfl ?_
      refine Ex.seg hq 1 (j := 22) (L' := [.ref 20, .int p1, .int (Int32.ofNat n10), .int r13]) (S' := (s12.2.2.2.1 20) :: [.ref 20]) (h' := hpS s12) rfl ?_
      rcases k with ⟨e, k⟩ | ⟨b14, e, k⟩
      · rw [e]
        refine Ex.seg hq 1 (j := 23) (L' := [.ref 20, .int p1, .int (Int32.ofNat n10), .int r13]) (S' := [.int r13, .float 1, .ref 20]) (h' := hpS s12) rfl ?_
        refine Ex.cl hq rfl rfl ?_
        refine Rn.mono (q_303_F1 (d := d + 2) r13 s12 k) ?_
        rintro _ _ ⟨r16, s15, rfl, rfl, k⟩
        show Ex sc (d + 3) 295 24 [.ref 20, .int p1, .int (Int32.ofNat n10), .int r13] [.ref (r16 + 118), .ref 20] (hpS s15) _
        refine Ex.seg hq 2 (j := 26) (L' := [.ref 20, .int p1, .int (Int32.ofNat n10), .int r13]) (S' := [.ref (r16 + 118)]) (h' := hpS (sR s15 20 (.ref (r16 + 118)))) rfl ?_
        exact Ex.rt hq rfl rfl ⟨r16, (sR s15 20 (.ref (r16 + 118))), rfl, rfl, k⟩
      · rw [e]
        refine Ex.seg hq 1 (j := 23) (L' := [.ref 20, .int p1, .int (Int32.ofNat n10), .int r13]) (S' := [.int r13, .ref (b14 + 118), .ref 20]) (h' := hpS s12) rfl ?_
        refine Ex.cl hq rfl rfl ?_
        refine Rn.mono (q_303 (d := d + 0) b14 r13 s12 k) ?_
        rintro _ _ ⟨r18, s17, rfl, rfl, k⟩
        show Ex sc (d + 3) 295 24 [.ref 20, .int p1, .int (Int32.ofNat n10), .int r13] [.ref (r18 + 118), .ref 20] (hpS s17) _
        refine Ex.seg hq 2 (j := 26) (L' := [.ref 20, .int p1, .int (Int32.ofNat n10), .int r13]) (S' := [.ref (r18 + 118)]) (h' := hpS (sR s17 20 (.ref (r18 + 118)))) rfl ?_
        exact Ex.rt hq rfl rfl ⟨r18, (sR s17 20 (.ref (r18 + 118))), rfl, rfl, k⟩
    · have k := k.2 c
      refine Ex.seg hq 1 (j := 7) (L' := [.ref 20, .int p1, .int (Int32.ofNat n10), pu]) (S' := [.ref 20]) (h' := hpS s) rfl ?_
      refine Ex.seg hq 1 (j := 8) (L' := [.ref 20, .int p1, .int (Int32.ofNat n10), pu]) (S' := (s.2.2.2.1 20) :: []) (h' := hpS s) rfl ?_
      rcases k with ⟨e, k⟩ | ⟨b19, e, k⟩
      · rw [e]
        refine Ex.seg hq 6 (j := 31) (L' := [.ref 20, .int p1, .int (Int32.ofNat n10), pu]) (S' := [.int (if (10 : Int32) < p1 then p1 else (10 : Int32)), .ref 20]) (h' := hpS s) rfl ?_
        obtain ⟨h0, h1, k⟩ := k
        refine Ex.anw hq rfl h0 h1 ?_
        show Ex sc (d + 3) 295 32 [.ref 20, .int p1, .int (Int32.ofNat n10), pu] [.ref (s.2.2.2.2.length + 118), .ref 20] (hpS (sD s (s.2.2.2.2 ++ [(Sum.inl (4, ((if (10 : Int32) < p1 then p1 else (10 : Int32))).toNatClampNeg, .inr (.inr (fun _ => none))) : PC)]))) _
        refine Ex.seg hq 2 (j := 34) (L' := [.ref 20, .int p1, .int (Int32.ofNat n10), pu]) (S' := [.ref (s.2.2.2.2.length + 118)]) (h' := hpS (sD (sR s 20 (.ref (s.2.2.2.2.length + 118))) (s.2.2.2.2 ++ [(Sum.inl (4, ((if (10 : Int32) < p1 then p1 else (10 : Int32))).toNatClampNeg, .inr (.inr (fun _ => none))) : PC)]))) rfl ?_
        exact Ex.rt hq rfl rfl ⟨s.2.2.2.2.length, (sD (sR s 20 (.ref (s.2.2.2.2.length + 118))) (s.2.2.2.2 ++ [(Sum.inl (4, ((if (10 : Int32) < p1 then p1 else (10 : Int32))).toNatClampNeg, .inr (.inr (fun _ => none))) : PC)])), rfl, rfl, k⟩
      · rw [e]
        refine Ex.seg hq 9 (j := 17) (L' := [.ref 20, .int p1, .int (Int32.ofNat n10), pu]) (S' := [.int ((Int32.ofNat n10) >>> ((1 : Int32) &&& 31)), .int (p1 - (Int32.ofNat n10)), .int (Int32.ofNat n10)]) (h' := hpS s) rfl ?_
        refine Ex.cl hq rfl rfl ?_
        refine Rn.mono (q_307 (d := d + 1) (Int32.ofNat n10) (p1 - (Int32.ofNat n10)) ((Int32.ofNat n10) >>> ((1 : Int32) &&& 31)) s k) ?_
        rintro _ _ ⟨r21, s20, rfl, rfl, k⟩
        show Ex sc (d + 3) 295 18 [.ref 20, .int p1, .int (Int32.ofNat n10), pu] [.int r21] (hpS s20) _
        refine Ex.seg hq 3 (j := 21) (L' := [.ref 20, .int p1, .int (Int32.ofNat n10), .int r21]) (S' := [.ref 20, .ref 20]) (h' := hpS s20) rfl ?_
        refine Ex.seg hq 1 (j := 22) (L' := [.ref 20, .int p1, .int (Int32.ofNat n10), .int r21]) (S' := (s20.2.2.2.1 20) :: [.ref 20]) (h' := hpS s20) rfl ?_
        rcases k with ⟨e, k⟩ | ⟨b22, e, k⟩
        · rw [e]
          refine Ex.seg hq 1 (j := 23) (L' := [.ref 20, .int p1, .int (Int32.ofNat n10), .int r21]) (S' := [.int r21, .float 1, .ref 20]) (h' := hpS s20) rfl ?_
          refine Ex.cl hq rfl rfl ?_
          refine Rn.mono (q_303_F1 (d := d + 2) r21 s20 k) ?_
          rintro _ _ ⟨r24, s23, rfl, rfl, k⟩
          show Ex sc (d + 3) 295 24 [.ref 20, .int p1, .int (Int32.ofNat n10), .int r21] [.ref (r24 + 118), .ref 20] (hpS s23) _
          refine Ex.seg hq 2 (j := 26) (L' := [.ref 20, .int p1, .int (Int32.ofNat n10), .int r21]) (S' := [.ref (r24 + 118)]) (h' := hpS (sR s23 20 (.ref (r24 + 118)))) rfl ?_
          exact Ex.rt hq rfl rfl ⟨r24, (sR s23 20 (.ref (r24 + 118))), rfl, rfl, k⟩
        · rw [e]
          refine Ex.seg hq 1 (j := 23) (L' := [.ref 20, .int p1, .int (Int32.ofNat n10), .int r21]) (S' := [.int r21, .ref (b22 + 118), .ref 20]) (h' := hpS s20) rfl ?_
          refine Ex.cl hq rfl rfl ?_
          refine Rn.mono (q_303 (d := d + 0) b22 r21 s20 k) ?_
          rintro _ _ ⟨r26, s25, rfl, rfl, k⟩
          show Ex sc (d + 3) 295 24 [.ref 20, .int p1, .int (Int32.ofNat n10), .int r21] [.ref (r26 + 118), .ref 20] (hpS s25) _
          refine Ex.seg hq 2 (j := 26) (L' := [.ref 20, .int p1, .int (Int32.ofNat n10), .int r21]) (S' := [.ref (r26 + 118)]) (h' := hpS (sR s25 20 (.ref (r26 + 118)))) rfl ?_
          exact Ex.rt hq rfl rfl ⟨r26, (sR s25 20 (.ref (r26 + 118))), rfl, rfl, k⟩
end WP
