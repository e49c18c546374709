/-! ===== weakest preconditions, printed by wip/whole/genwp.py ===== -/
section WP
variable {sc : Nat × (Nat → Int32)}
/-- RowAuditor.now(I)Z -/
def w_127 (p1 : Int32) (s : ST) (K : Int32 → ST → Prop) : Prop := w_181 p1 (s.1 100) (3999 : Int32) s (fun r2 s1 => ((¬ r2 = 0 → K (1 : Int32) (sI s1 100 p1)) ∧ (¬ (¬ r2 = 0) → K (0 : Int32) s1)))
theorem q_127 {d : Nat} {K : Int32 → ST → Prop} (p1 : Int32) (s : ST) (k : w_127 p1 s K) : Rn sc (d + 1) 127 [.ref 0, .int p1] (hpS s) (kZ K) := by
  have hq : prog[127]? = some pm127 := rfl
  refine Rn.of (L := [.ref 0, .int p1]) hq rfl rfl ?_
  unfold w_127 at k
  refine Ex.seg hq 5 (j := 5) (L' := [.ref 0, .int p1]) (S' := [.int (3999 : Int32), .int (s.1 100), .int p1]) (h' := hpS s) rfl ?_
  refine Ex.cl hq rfl rfl ?_
  refine Rn.mono (q_181 (d := d + 0) p1 (s.1 100) (3999 : Int32) s k) ?_
  rintro _ _ ⟨r2, s1, rfl, hzr2, rfl, k⟩
  show Ex sc (d + 1) 127 6 [.ref 0, .int p1] [.int r2] (hpS s1) _
  refine Ex.i1 hq rfl (fun c => ?_) (fun c => ?_)
  · have k := k.1 c
    refine Ex.seg hq 5 (j := 14) (L' := [.ref 0, .int p1]) (S' := [.int (1 : Int32)]) (h' := hpS (sI s1 100 p1)) rfl ?_
    exact Ex.zr hq rfl rfl (Or.inr rfl) ⟨(1 : Int32), (sI s1 100 p1), rfl, (Or.inr rfl), rfl, k⟩
  · have k := k.2 c
    refine Ex.seg hq 1 (j := 8) (L' := [.ref 0, .int p1]) (S' := [.int (0 : Int32)]) (h' := hpS s1) rfl ?_
    exact Ex.zr hq rfl rfl (Or.inl rfl) ⟨(0 : Int32), s1, rfl, (Or.inl rfl), rfl, k⟩
/-- RowAuditor.house(I)I -/
def w_128 (p1 : Int32) (s : ST) (K : Int32 → ST → Prop) : Prop := w_181 p1 (0 : Int32) (1000000 : Int32) s (fun r2 s1 => ((r2 = 0 → K (-1 : Int32) s1) ∧ (¬ (r2 = 0) → (((s1.1 101) < (10 : Int32) → w_3 p1 s1 (fun r4 s3 => K r4 s3)) ∧ (¬ ((s1.1 101) < (10 : Int32)) → K (-1 : Int32) s1)))))
theorem q_128 {d : Nat} {K : Int32 → ST → Prop} (p1 : Int32) (s : ST) (k : w_128 p1 s K) : Rn sc (d + 1) 128 [.ref 0, .int p1] (hpS s) (kI K) := by
  have hq : prog[128]? = some pm128 := rfl
  refine Rn.of (L := [.ref 0, .int p1]) hq rfl rfl ?_
  unfold w_128 at k
  refine Ex.seg hq 3 (j := 3) (L' := [.ref 0, .int p1]) (S' := [.int (1000000 : Int32), .int (0 : Int32), .int p1]) (h' := hpS s) rfl ?_
  refine Ex.cl hq rfl rfl ?_
  refine Rn.mono (q_181 (d := d + 0) p1 (0 : Int32) (1000000 : Int32) s k) ?_
  rintro _ _ ⟨r2, s1, rfl, hzr2, rfl, k⟩
  show Ex sc (d + 1) 128 4 [.ref 0, .int p1] [.int r2] (hpS s1) _
  refine Ex.i1 hq rfl (fun c => ?_) (fun c => ?_)
  · have k := k.1 c
    refine Ex.seg hq 1 (j := 11) (L' := [.ref 0, .int p1]) (S' := [.int (-1 : Int32)]) (h' := hpS s1) rfl ?_
    exact Ex.rt hq rfl rfl ⟨(-1 : Int32), s1, rfl, rfl, k⟩
  · have k := k.2 c
    refine Ex.seg hq 4 (j := 9) (L' := [.ref 0, .int p1]) (S' := [.int (10 : Int32), .int (s1.1 101)]) (h' := hpS s1) rfl ?_
    refine Ex.i2 hq rfl (fun c => ?_) (fun c => ?_)
    · have k := k.1 c
      refine Ex.seg hq 3 (j := 15) (L' := [.ref 0, .int p1]) (S' := [.int p1, .ref 1]) (h' := hpS s1) rfl ?_
      refine Ex.cl hq rfl rfl ?_
      refine Rn.mono (q_3 (d := d + 0) p1 s1 k) ?_
      rintro _ _ ⟨r4, s3, rfl, rfl, k⟩
      show Ex sc (d + 1) 128 16 [.ref 0, .int p1] [.int r4] (hpS s3) _
      exact Ex.rt hq rfl rfl ⟨r4, s3, rfl, rfl, k⟩
    · have k := k.2 c
      refine Ex.seg hq 1 (j := 11) (L' := [.ref 0, .int p1]) (S' := [.int (-1 : Int32)]) (h' := hpS s1) rfl ?_
      exact Ex.rt hq rfl rfl ⟨(-1 : Int32), s1, rfl, rfl, k⟩
/-- RowAuditor.isOther(III)Z -/
def w_130 (p1 : Int32) (p2 : Int32) (p3 : Int32) (s : ST) (K : Int32 → ST → Prop) : Prop := ((¬ p1 = (3 : Int32) → ((¬ p1 = (2 : Int32) → w_181 p3 (0 : Int32) (19 : Int32) s (fun r2 s1 => K r2 s1)) ∧ (¬ (¬ p1 = (2 : Int32)) → w_1 p3 s (fun r4 s3 => ((r4 = 0 → K (0 : Int32) s3) ∧ (¬ (r4 = 0) → ((p3 = p2 → K (0 : Int32) s3) ∧ (¬ (p3 = p2) → K (1 : Int32) s3)))))))) ∧ (¬ (¬ p1 = (3 : Int32)) → ((¬ p3 = (-1 : Int32) → K (0 : Int32) s) ∧ (¬ (¬ p3 = (-1 : Int32)) → K (1 : Int32) s))))
theorem q_130 {d : Nat} {K : Int32 → ST → Prop} (p1 : Int32) (p2 : Int32) (p3 : Int32) (s : ST) (k : w_130 p1 p2 p3 s K) : Rn sc (d + 1) 130 [.ref 0, .int p1, .int p2, .int p3] (hpS s) (kZ K) := by
  have hq : prog[130]? = some pm130 := rfl
  refine Rn.of (L := [.ref 0, .int p1, .int p2, .int p3]) hq rfl rfl ?_
  unfold w_130 at k
  refine Ex.seg hq 2 (j := 2) (L' := [.ref 0, .int p1, .int p2, .int p3]) (S' := [.int (3 : Int32), .int p1]) (h' := hpS s) rfl ?_
  refine Ex.i2 hq rfl (fun c => ?_) (fun c => ?_)
  · have k := k.1 c
    refine Ex.seg hq 2 (j := 12) (L' := [.ref 0, .int p1, .int p2, .int p3]) (S' := [.int (2 : Int32), .int p1]) (h' := hpS s) rfl ?_
    refine Ex.i2 hq rfl (fun c => ?_) (fun c => ?_)
    · have k := k.1 c
      refine Ex.seg hq 3 (j := 28) (L' := [.ref 0, .int p1, .int p2, .int p3]) (S' := [.int (19 : Int32), .int (0 : Int32), .int p3]) (h' := hpS s) rfl ?_
      refine Ex.cl hq rfl rfl ?_
      refine Rn.mono (q_181 (d := d + 0) p3 (0 : Int32) (19 : Int32) s k) ?_
      rintro _ _ ⟨r2, s1, rfl, hzr2, rfl, k⟩
      show Ex sc (d + 1) 130 29 [.ref 0, .int p1, .int p2, .int p3] [.int r2] (hpS s1) _
      exact Ex.zr hq rfl rfl hzr2 ⟨r2, s1, rfl, hzr2, rfl, k⟩
    · have k := k.2 c
      refine Ex.seg hq 3 (j := 16) (L' := [.ref 0, .int p1, .int p2, .int p3]) (S' := [.int p3, .ref 1]) (h' := hpS s) rfl ?_
      refine Ex.cl hq rfl rfl ?_
      refine Rn.mono (q_1 (d := d + 0) p3 s k) ?_
      rintro _ _ ⟨r4, s3, rfl, hzr4, rfl, k⟩
      show Ex sc (d + 1) 130 17 [.ref 0, .int p1, .int p2, .int p3] [.int r4] (hpS s3) _
      refine Ex.i1 hq rfl (fun c => ?_) (fun c => ?_)
      · have k := k.1 c
        refine Ex.seg hq 1 (j := 24) (L' := [.ref 0, .int p1, .int p2, .int p3]) (S' := [.int (0 : Int32)]) (h' := hpS s3) rfl ?_
        exact Ex.zr hq rfl rfl (Or.inl rfl) ⟨(0 : Int32), s3, rfl, (Or.inl rfl), rfl, k⟩
      · have k := k.2 c
        refine Ex.seg hq 2 (j := 20) (L' := [.ref 0, .int p1, .int p2, .int p3]) (S' := [.int p2, .int p3]) (h' := hpS s3) rfl ?_
        refine Ex.i2 hq rfl (fun c => ?_) (fun c => ?_)
        · have k := k.1 c
          refine Ex.seg hq 1 (j := 24) (L' := [.ref 0, .int p1, .int p2, .int p3]) (S' := [.int (0 : Int32)]) (h' := hpS s3) rfl ?_
          exact Ex.zr hq rfl rfl (Or.inl rfl) ⟨(0 : Int32), s3, rfl, (Or.inl rfl), rfl, k⟩
        · have k := k.2 c
          refine Ex.seg hq 2 (j := 24) (L' := [.ref 0, .int p1, .int p2, .int p3]) (S' := [.int (1 : Int32)]) (h' := hpS s3) rfl ?_
          exact Ex.zr hq rfl rfl (Or.inr rfl) ⟨(1 : Int32), s3, rfl, (Or.inr rfl), rfl, k⟩
  · have k := k.2 c
    refine Ex.seg hq 2 (j := 5) (L' := [.ref 0, .int p1, .int p2, .int p3]) (S' := [.int (-1 : Int32), .int p3]) (h' := hpS s) rfl ?_
    refine Ex.i2 hq rfl (fun c => ?_) (fun c => ?_)
    · have k := k.1 c
      refine Ex.seg hq 1 (j := 9) (L' := [.ref 0, .int p1, .int p2, .int p3]) (S' := [.int (0 : Int32)]) (h' := hpS s) rfl ?_
      exact Ex.zr hq rfl rfl (Or.inl rfl) ⟨(0 : Int32), s, rfl, (Or.inl rfl), rfl, k⟩
    · have k := k.2 c
      refine Ex.seg hq 2 (j := 9) (L' := [.ref 0, .int p1, .int p2, .int p3]) (S' := [.int (1 : Int32)]) (h' := hpS s) rfl ?_
      exact Ex.zr hq rfl rfl (Or.inr rfl) ⟨(1 : Int32), s, rfl, (Or.inr rfl), rfl, k⟩
/-- RowAuditor.mend(II)Z -/
def w_131 (p1 : Int32) (p2 : Int32) (s : ST) (K : Int32 → ST → Prop) : Prop := w_2 p1 s (fun r2 s1 => ((r2 = 0 → K (0 : Int32) s1) ∧ (¬ (r2 = 0) → w_181 p2 (0 : Int32) (1000000 : Int32) s1 (fun r4 s3 => ((r4 = 0 → K (0 : Int32) s3) ∧ (¬ (r4 = 0) → (((s3.1 103) < (100 : Int32) → w_111 (s3.1 100) s3 (fun s5 => w_118 p1 s5 (fun r8 s7 => ((¬ r8 = 0 → w_11 p1 p2 s7 (fun s9 => K (1 : Int32) s9)) ∧ (¬ (¬ r8 = 0) → K (0 : Int32) s7))))) ∧ (¬ ((s3.1 103) < (100 : Int32)) → K (0 : Int32) s3))))))))
theorem q_131 {d : Nat} {K : Int32 → ST → Prop} (p1 : Int32) (p2 : Int32) (s : ST) (k : w_131 p1 p2 s K) : Rn sc (d + 5) 131 [.ref 0, .int p1, .int p2] (hpS s) (kZ K) := by
  have hq : prog[131]? = some pm131 := rfl
  refine Rn.of (L := [.ref 0, .int p1, .int p2]) hq rfl rfl ?_
  unfold w_131 at k
  refine Ex.seg hq 3 (j := 3) (L' := [.ref 0, .int p1, .int p2]) (S' := [.int p1, .ref 1]) (h' := hpS s) rfl ?_
  refine Ex.cl hq rfl rfl ?_
  refine Rn.mono (q_2 (d := d + 4) p1 s k) ?_
  rintro _ _ ⟨r2, s1, rfl, hzr2, rfl, k⟩
  show Ex sc (d + 5) 131 4 [.ref 0, .int p1, .int p2] [.int r2] (hpS s1) _
  refine Ex.i1 hq rfl (fun c => ?_) (fun c => ?_)
  · have k := k.1 c
    refine Ex.seg hq 1 (j := 16) (L' := [.ref 0, .int p1, .int p2]) (S' := [.int (0 : Int32)]) (h' := hpS s1) rfl ?_
    exact Ex.zr hq rfl rfl (Or.inl rfl) ⟨(0 : Int32), s1, rfl, (Or.inl rfl), rfl, k⟩
  · have k := k.2 c
    refine Ex.seg hq 3 (j := 8) (L' := [.ref 0, .int p1, .int p2]) (S' := [.int (1000000 : Int32), .int (0 : Int32), .int p2]) (h' := hpS s1) rfl ?_
    refine Ex.cl hq rfl rfl ?_
    refine Rn.mono (q_181 (d := d + 4) p2 (0 : Int32) (1000000 : Int32) s1 k) ?_
    rintro _ _ ⟨r4, s3, rfl, hzr4, rfl, k⟩
    show Ex sc (d + 5) 131 9 [.ref 0, .int p1, .int p2] [.int r4] (hpS s3) _
    refine Ex.i1 hq rfl (fun c => ?_) (fun c => ?_)
    · have k := k.1 c
      refine Ex.seg hq 1 (j := 16) (L' := [.ref 0, .int p1, .int p2]) (S' := [.int (0 : Int32)]) (h' := hpS s3) rfl ?_
      exact Ex.zr hq rfl rfl (Or.inl rfl) ⟨(0 : Int32), s3, rfl, (Or.inl rfl), rfl, k⟩
    · have k := k.2 c
      refine Ex.seg hq 4 (j := 14) (L' := [.ref 0, .int p1, .int p2]) (S' := [.int (100 : Int32), .int (s3.1 103)]) (h' := hpS s3) rfl ?_
      refine Ex.i2 hq rfl (fun c => ?_) (fun c => ?_)
      · have k := k.1 c
        refine Ex.seg hq 5 (j := 22) (L' := [.ref 0, .int p1, .int p2]) (S' := [.int (s3.1 100), .ref 8]) (h' := hpS s3) rfl ?_
        refine Ex.cl hq rfl rfl ?_
        refine Rn.mono (q_111 (d := d + 0) (s3.1 100) s3 k) ?_
        rintro _ _ ⟨s5, rfl, rfl, k⟩
        show Ex sc (d + 5) 131 23 [.ref 0, .int p1, .int p2] [] (hpS s5) _
        refine Ex.seg hq 3 (j := 26) (L' := [.ref 0, .int p1, .int p2]) (S' := [.int p1, .ref 8]) (h' := hpS s5) rfl ?_
        refine Ex.cl hq rfl rfl ?_
        refine Rn.mono (q_118 (d := d + 4) p1 s5 k) ?_
        rintro _ _ ⟨r8, s7, rfl, hzr8, rfl, k⟩
        show Ex sc (d + 5) 131 27 [.ref 0, .int p1, .int p2] [.int r8] (hpS s7) _
        refine Ex.i1 hq rfl (fun c => ?_) (fun c => ?_)
        · have k := k.1 c
          refine Ex.seg hq 4 (j := 34) (L' := [.ref 0, .int p1, .int p2]) (S' := [.int p2, .int p1, .ref 1]) (h' := hpS s7) rfl ?_
          refine Ex.cl hq rfl rfl ?_
          refine Rn.mono (q_11 (d := d + 4) p1 p2 s7 k) ?_
          rintro _ _ ⟨s9, rfl, rfl, k⟩
          show Ex sc (d + 5) 131 35 [.ref 0, .int p1, .int p2] [] (hpS s9) _
          refine Ex.seg hq 1 (j := 36) (L' := [.ref 0, .int p1, .int p2]) (S' := [.int (1 : Int32)]) (h' := hpS s9) rfl ?_
          exact Ex.zr hq rfl rfl (Or.inr rfl) ⟨(1 : Int32), s9, rfl, (Or.inr rfl), rfl, k⟩
        · have k := k.2 c
          refine Ex.seg hq 1 (j := 29) (L' := [.ref 0, .int p1, .int p2]) (S' := [.int (0 : Int32)]) (h' := hpS s7) rfl ?_
          exact Ex.zr hq rfl rfl (Or.inl rfl) ⟨(0 : Int32), s7, rfl, (Or.inl rfl), rfl, k⟩
      · have k := k.2 c
        refine Ex.seg hq 1 (j := 16) (L' := [.ref 0, .int p1, .int p2]) (S' := [.int (0 : Int32)]) (h' := hpS s3) rfl ?_
        exact Ex.zr hq rfl rfl (Or.inl rfl) ⟨(0 : Int32), s3, rfl, (Or.inl rfl), rfl, k⟩
/-- RowAuditor.isDay(I)Z -/
def w_182 (p0 : Int32) (s : ST) (K : Int32 → ST → Prop) : Prop := w_181 p0 (0 : Int32) (3999 : Int32) s (fun r2 s1 => K r2 s1)
theorem q_182 {d : Nat} {K : Int32 → ST → Prop} (p0 : Int32) (s : ST) (k : w_182 p0 s K) : Rn sc (d + 1) 182 [.int p0] (hpS s) (kZ K) := by
  have hq : prog[182]? = some pm182 := rfl
  refine Rn.of (L := [.int p0]) hq rfl rfl ?_
  unfold w_182 at k
  refine Ex.seg hq 3 (j := 3) (L' := [.int p0]) (S' := [.int (3999 : Int32), .int (0 : Int32), .int p0]) (h' := hpS s) rfl ?_
  refine Ex.cl hq rfl rfl ?_
  refine Rn.mono (q_181 (d := d + 0) p0 (0 : Int32) (3999 : Int32) s k) ?_
  rintro _ _ ⟨r2, s1, rfl, hzr2, rfl, k⟩
  show Ex sc (d + 1) 182 4 [.int p0] [.int r2] (hpS s1) _
  exact Ex.zr hq rfl rfl hzr2 ⟨r2, s1, rfl, hzr2, rfl, k⟩
/-- RowAuditor.known(III)I -/
def w_132 (p1 : Int32) (p2 : Int32) (p3 : Int32) (s : ST) (K : Int32 → ST → Prop) : Prop := w_182 p2 s (fun r2 s1 => ((r2 = 0 → K (-1 : Int32) s1) ∧ (¬ (r2 = 0) → w_181 p3 (0 : Int32) (1 : Int32) s1 (fun r4 s3 => ((¬ r4 = 0 → w_111 p2 s3 (fun s5 => w_118 p1 s5 (fun r8 s7 => ((¬ r8 = 0 → ((¬ p3 = 0 → w_120 p1 s7 (fun r10 s9 => K r10 s9)) ∧ (¬ (¬ p3 = 0) → w_119 p1 s7 (fun r12 s11 => K r12 s11)))) ∧ (¬ (¬ r8 = 0) → K (-1 : Int32) s7))))) ∧ (¬ (¬ r4 = 0) → K (-1 : Int32) s3))))))
theorem q_132 {d : Nat} {K : Int32 → ST → Prop} (p1 : Int32) (p2 : Int32) (p3 : Int32) (s : ST) (k : w_132 p1 p2 p3 s K) : Rn sc (d + 5) 132 [.ref 0, .int p1, .int p2, .int p3] (hpS s) (kI K) := by
  have hq : prog[132]? = some pm132 := rfl
  refine Rn.of (L := [.ref 0, .int p1, .int p2, .int p3]) hq rfl rfl ?_
  unfold w_132 at k
  refine Ex.seg hq 1 (j := 1) (L' := [.ref 0, .int p1, .int p2, .int p3]) (S' := [.int p2]) (h' := hpS s) rfl ?_
  refine Ex.cl hq rfl rfl ?_
  refine Rn.mono (q_182 (d := d + 3) p2 s k) ?_
  rintro _ _ ⟨r2, s1, rfl, hzr2, rfl, k⟩
  show Ex sc (d + 5) 132 2 [.ref 0, .int p1, .int p2, .int p3] [.int r2] (hpS s1) _
  refine Ex.i1 hq rfl (fun c => ?_) (fun c => ?_)
  · have k := k.1 c
    refine Ex.seg hq 1 (j := 9) (L' := [.ref 0, .int p1, .int p2, .int p3]) (S' := [.int (-1 : Int32)]) (h' := hpS s1) rfl ?_
    exact Ex.rt hq rfl rfl ⟨(-1 : Int32), s1, rfl, rfl, k⟩
  · have k := k.2 c
    refine Ex.seg hq 3 (j := 6) (L' := [.ref 0, .int p1, .int p2, .int p3]) (S' := [.int (1 : Int32), .int (0 : Int32), .int p3]) (h' := hpS s1) rfl ?_
    refine Ex.cl hq rfl rfl ?_
    refine Rn.mono (q_181 (d := d + 4) p3 (0 : Int32) (1 : Int32) s1 k) ?_
    rintro _ _ ⟨r4, s3, rfl, hzr4, rfl, k⟩
    show Ex sc (d + 5) 132 7 [.ref 0, .int p1, .int p2, .int p3] [.int r4] (hpS s3) _
    refine Ex.i1 hq rfl (fun c => ?_) (fun c => ?_)
    · have k := k.1 c
      refine Ex.seg hq 3 (j := 13) (L' := [.ref 0, .int p1, .int p2, .int p3]) (S' := [.int p2, .ref 8]) (h' := hpS s3) rfl ?_
      refine Ex.cl hq rfl rfl ?_
      refine Rn.mono (q_111 (d := d + 0) p2 s3 k) ?_
      rintro _ _ ⟨s5, rfl, rfl, k⟩
      show Ex sc (d + 5) 132 14 [.ref 0, .int p1, .int p2, .int p3] [] (hpS s5) _
      refine Ex.seg hq 3 (j := 17) (L' := [.ref 0, .int p1, .int p2, .int p3]) (S' := [.int p1, .ref 8]) (h' := hpS s5) rfl ?_
      refine Ex.cl hq rfl rfl ?_
      refine Rn.mono (q_118 (d := d + 4) p1 s5 k) ?_
      rintro _ _ ⟨r8, s7, rfl, hzr8, rfl, k⟩
      show Ex sc (d + 5) 132 18 [.ref 0, .int p1, .int p2, .int p3] [.int r8] (hpS s7) _
      refine Ex.i1 hq rfl (fun c => ?_) (fun c => ?_)
      · have k := k.1 c
        refine Ex.seg hq 1 (j := 22) (L' := [.ref 0, .int p1, .int p2, .int p3]) (S' := [.int p3]) (h' := hpS s7) rfl ?_
        refine Ex.i1 hq rfl (fun c => ?_) (fun c => ?_)
        · have k := k.1 c
          refine Ex.seg hq 3 (j := 31) (L' := [.ref 0, .int p1, .int p2, .int p3]) (S' := [.int p1, .ref 8]) (h' := hpS s7) rfl ?_
          refine Ex.cl hq rfl rfl ?_
          refine Rn.mono (q_120 (d := d + 4) p1 s7 k) ?_
          rintro _ _ ⟨r10, s9, rfl, rfl, k⟩
          show Ex sc (d + 5) 132 32 [.ref 0, .int p1, .int p2, .int p3] [.int r10] (hpS s9) _
          exact Ex.rt hq rfl rfl ⟨r10, s9, rfl, rfl, k⟩
        · have k := k.2 c
          refine Ex.seg hq 3 (j := 26) (L' := [.ref 0, .int p1, .int p2, .int p3]) (S' := [.int p1, .ref 8]) (h' := hpS s7) rfl ?_
          refine Ex.cl hq rfl rfl ?_
          refine Rn.mono (q_119 (d := d + 4) p1 s7 k) ?_
          rintro _ _ ⟨r12, s11, rfl, rfl, k⟩
          show Ex sc (d + 5) 132 27 [.ref 0, .int p1, .int p2, .int p3] [.int r12] (hpS s11) _
          refine Ex.seg hq 1 (j := 32) (L' := [.ref 0, .int p1, .int p2, .int p3]) (S' := [.int r12]) (h' := hpS s11) rfl ?_
          exact Ex.rt hq rfl rfl ⟨r12, s11, rfl, rfl, k⟩
      · have k := k.2 c
        refine Ex.seg hq 1 (j := 20) (L' := [.ref 0, .int p1, .int p2, .int p3]) (S' := [.int (-1 : Int32)]) (h' := hpS s7) rfl ?_
        exact Ex.rt hq rfl rfl ⟨(-1 : Int32), s7, rfl, rfl, k⟩
    · have k := k.2 c
      refine Ex.seg hq 1 (j := 9) (L' := [.ref 0, .int p1, .int p2, .int p3]) (S' := [.int (-1 : Int32)]) (h' := hpS s3) rfl ?_
      exact Ex.rt hq rfl rfl ⟨(-1 : Int32), s3, rfl, rfl, k⟩
def w_133_L24 : Nat → Int32 → Int32 → Int32 → Int32 → ST → (Int32 → ST → Prop) → (Int32 → ST → Prop) → (Int32 → ST → Prop) → Prop
  | 0, _, _, _, _, _, _, _, _ => False
  | n + 1, x1, x2, x4, x5, s, X57, X41, K => (((s.1 801) ≤ x5 → X57 x4 s) ∧ (¬ ((s.1 801) ≤ x5) → w_123 x5 s (fun r12 s11 => w_9 r12 (3 : Int32) s11 (fun r14 s13 => ((r14 ≤ x2 → w_119 r12 s13 (fun r16 s15 => w_17 r12 x1 s15 (fun r18 s17 => w_133_L24 n x1 x2 (x4 + (r16 * r18)) (x5 + (1 : Int32)) s17 X57 X41 K))) ∧ (¬ (r14 ≤ x2) → X41 x4 s13))))))
theorem q_133_L24 {d : Nat} {X57 : Int32 → ST → Prop} {X41 : Int32 → ST → Prop} {K : Int32 → ST → Prop} : ∀ (n : Nat) (x1 : Int32) (x2 : Int32) (x4 : Int32) (x5 : Int32) (s : ST), w_133_L24 n x1 x2 x4 x5 s X57 X41 K → (∀ (y4 : Int32) (s : ST), X57 y4 s → Ex sc (d + 5) 133 57 [pu, pu, pu, pu, .int y4, pu, pu] [] (hpS s) (kI K)) → (∀ (y4 : Int32) (s : ST), X41 y4 s → Ex sc (d + 5) 133 41 [pu, pu, pu, pu, .int y4, pu, pu] [] (hpS s) (kI K)) → Ex sc (d + 5) 133 24 [.ref 0, .int x1, .int x2, pu, .int x4, .int x5, pu] [] (hpS s) (kI K) := by
  have hq : prog[133]? = some pm133 := rfl
  intro n
  induction n with
  | zero =>
    intro x1 x2 x4 x5 s k
    exact k.elim
  | succ n ih =>
    intro x1 x2 x4 x5 s k hX57 hX41
    rw [w_133_L24] at k
    refine Ex.seg hq 4 (j := 28) (L' := [.ref 0, .int x1, .int x2, pu, .int x4, .int x5, pu]) (S' := [.int (s.1 801), .int x5]) (h' := hpS s) rfl ?_
    refine Ex.i2 hq rfl (fun c => ?_) (fun c => ?_)
    · have k := k.1 c
      refine Ex.fg (L := [pu, pu, pu, pu, .int x4, pu, pu]) ⟨Or.inr ⟨rfl, rfl⟩, ⟨Or.inr ⟨rfl, rfl⟩, ⟨Or.inr ⟨rfl, rfl⟩, ⟨Or.inl rfl, ⟨Or.inl rfl, ⟨Or.inr ⟨rfl, rfl⟩, ⟨Or.inl rfl, trivial⟩⟩⟩⟩⟩⟩⟩ ?_
      exact hX57 x4 s k
    · have k := k.2 c
      refine Ex.seg hq 3 (j := 32) (L' := [.ref 0, .int x1, .int x2, pu, .int x4, .int x5, pu]) (S' := [.int x5, .ref 8]) (h' := hpS s) rfl ?_
      refine Ex.cl hq rfl rfl ?_
      refine Rn.mono (q_123 (d := d + 4) x5 s k) ?_
      rintro _ _ ⟨r12, s11, rfl, rfl, k⟩
      show Ex sc (d + 5) 133 33 [.ref 0, .int x1, .int x2, pu, .int x4, .int x5, pu] [.int r12] (hpS s11) _
      refine Ex.seg hq 5 (j := 38) (L' := [.ref 0, .int x1, .int x2, pu, .int x4, .int x5, .int r12]) (S' := [.int (3 : Int32), .int r12, .ref 1]) (h' := hpS s11) rfl ?_
      refine Ex.cl hq rfl rfl ?_
      refine Rn.mono (q_9 (d := d + 4) r12 (3 : Int32) s11 k) ?_
      rintro _ _ ⟨r14, s13, rfl, rfl, k⟩
      show Ex sc (d + 5) 133 39 [.ref 0, .int x1, .int x2, pu, .int x4, .int x5, .int r12] [.int r14] (hpS s13) _
      refine Ex.seg hq 1 (j := 40) (L' := [.ref 0, .int x1, .int x2, pu, .int x4, .int x5, .int r12]) (S' := [.int x2, .int r14]) (h' := hpS s13) rfl ?_
      refine Ex.i2 hq rfl (fun c => ?_) (fun c => ?_)
      · have k := k.1 c
        refine Ex.seg hq 4 (j := 46) (L' := [.ref 0, .int x1, .int x2, pu, .int x4, .int x5, .int r12]) (S' := [.int r12, .ref 8, .int x4]) (h' := hpS s13) rfl ?_
        refine Ex.cl hq rfl rfl ?_
        refine Rn.mono (q_119 (d := d + 4) r12 s13 k) ?_
        rintro _ _ ⟨r16, s15, rfl, rfl, k⟩
        show Ex sc (d + 5) 133 47 [.ref 0, .int x1, .int x2, pu, .int x4, .int x5, .int r12] [.int r16, .int x4] (hpS s15) _
        refine Ex.seg hq 4 (j := 51) (L' := [.ref 0, .int x1, .int x2, pu, .int x4, .int x5, .int r12]) (S' := [.int x1, .int r12, .ref 1, .int r16, .int x4]) (h' := hpS s15) rfl ?_
        refine Ex.cl hq rfl rfl ?_
        refine Rn.mono (q_17 (d := d + 2) r12 x1 s15 k) ?_
        rintro _ _ ⟨r18, s17, rfl, rfl, k⟩
        show Ex sc (d + 5) 133 52 [.ref 0, .int x1, .int x2, pu, .int x4, .int x5, .int r12] [.int r18, .int r16, .int x4] (hpS s17) _
        refine Ex.seg hq 5 (j := 24) (L' := [.ref 0, .int x1, .int x2, pu, .int (x4 + (r16 * r18)), .int (x5 + (1 : Int32)), .int r12]) (S' := []) (h' := hpS s17) rfl ?_
        refine Ex.fg (L := [.ref 0, .int x1, .int x2, pu, .int (x4 + (r16 * r18)), .int (x5 + (1 : Int32)), pu]) ⟨Or.inl rfl, ⟨Or.inl rfl, ⟨Or.inl rfl, ⟨Or.inl rfl, ⟨Or.inl rfl, ⟨Or.inl rfl, ⟨Or.inr ⟨rfl, rfl⟩, trivial⟩⟩⟩⟩⟩⟩⟩ ?_
        exact ih x1 x2 (x4 + (r16 * r18)) (x5 + (1 : Int32)) s17 k hX57 hX41
      · have k := k.2 c
        refine Ex.fg (L := [pu, pu, pu, pu, .int x4, pu, pu]) ⟨Or.inr ⟨rfl, rfl⟩, ⟨Or.inr ⟨rfl, rfl⟩, ⟨Or.inr ⟨rfl, rfl⟩, ⟨Or.inl rfl, ⟨Or.inl rfl, ⟨Or.inr ⟨rfl, rfl⟩, ⟨Or.inr ⟨rfl, rfl⟩, trivial⟩⟩⟩⟩⟩⟩⟩ ?_
        exact hX41 x4 s13 k
/-- RowAuditor.holds(III)I -/
def w_133 (p1 : Int32) (p2 : Int32) (p3 : Int32) (s : ST) (K : Int32 → ST → Prop) : Prop := w_1 p1 s (fun r2 s1 => ((r2 = 0 → K (-1000000000 : Int32) s1) ∧ (¬ (r2 = 0) → w_182 p2 s1 (fun r4 s3 => ((r4 = 0 → K (-1000000000 : Int32) s3) ∧ (¬ (r4 = 0) → w_182 p3 s3 (fun r6 s5 => ((¬ r6 = 0 → w_111 p3 s5 (fun s7 => w_4 p1 s7 (fun r10 s9 => (∃ m, w_133_L24 m p1 p2 r10 (0 : Int32) s9 (fun y4 s19 => K y4 s19) (fun y4 s20 => K y4 s20) K)))) ∧ (¬ (¬ r6 = 0) → K (-1000000000 : Int32) s5)))))))))
theorem q_133 {d : Nat} {K : Int32 → ST → Prop} (p1 : Int32) (p2 : Int32) (p3 : Int32) (s : ST) (k : w_133 p1 p2 p3 s K) : Rn sc (d + 5) 133 [.ref 0, .int p1, .int p2, .int p3] (hpS s) (kI K) := by
  have hq : prog[133]? = some pm133 := rfl
  refine Rn.of (L := [.ref 0, .int p1, .int p2, .int p3, pu, pu, pu]) hq rfl rfl ?_
  unfold w_133 at k
  refine Ex.seg hq 3 (j := 3) (L' := [.ref 0, .int p1, .int p2, .int p3, pu, pu, pu]) (S' := [.int p1, .ref 1]) (h' := hpS s) rfl ?_
  refine Ex.cl hq rfl rfl ?_
  refine Rn.mono (q_1 (d := d + 4) p1 s k) ?_
  rintro _ _ ⟨r2, s1, rfl, hzr2, rfl, k⟩
  show Ex sc (d + 5) 133 4 [.ref 0, .int p1, .int p2, .int p3, pu, pu, pu] [.int r2] (hpS s1) _
  refine Ex.i1 hq rfl (fun c => ?_) (fun c => ?_)
  · have k := k.1 c
    refine Ex.seg hq 1 (j := 12) (L' := [.ref 0, .int p1, .int p2, .int p3, pu, pu, pu]) (S' := [.int (-1000000000 : Int32)]) (h' := hpS s1) rfl ?_
    exact Ex.rt hq rfl rfl ⟨(-1000000000 : Int32), s1, rfl, rfl, k⟩
  · have k := k.2 c
    refine Ex.seg hq 1 (j := 6) (L' := [.ref 0, .int p1, .int p2, .int p3, pu, pu, pu]) (S' := [.int p2]) (h' := hpS s1) rfl ?_
    refine Ex.cl hq rfl rfl ?_
    refine Rn.mono (q_182 (d := d + 3) p2 s1 k) ?_
    rintro _ _ ⟨r4, s3, rfl, hzr4, rfl, k⟩
    show Ex sc (d + 5) 133 7 [.ref 0, .int p1, .int p2, .int p3, pu, pu, pu] [.int r4] (hpS s3) _
    refine Ex.i1 hq rfl (fun c => ?_) (fun c => ?_)
    · have k := k.1 c
      refine Ex.seg hq 1 (j := 12) (L' := [.ref 0, .int p1, .int p2, .int p3, pu, pu, pu]) (S' := [.int (-1000000000 : Int32)]) (h' := hpS s3) rfl ?_
      exact Ex.rt hq rfl rfl ⟨(-1000000000 : Int32), s3, rfl, rfl, k⟩
    · have k := k.2 c
      refine Ex.seg hq 1 (j := 9) (L' := [.ref 0, .int p1, .int p2, .int p3, pu, pu, pu]) (S' := [.int p3]) (h' := hpS s3) rfl ?_
      refine Ex.cl hq rfl rfl ?_
      refine Rn.mono (q_182 (d := d + 3) p3 s3 k) ?_
      rintro _ _ ⟨r6, s5, rfl, hzr6, rfl, k⟩
      show Ex sc (d + 5) 133 10 [.ref 0, .int p1, .int p2, .int p3, pu, pu, pu] [.int r6] (hpS s5) _
      refine Ex.i1 hq rfl (fun c => ?_) (fun c => ?_)
      · have k := k.1 c
        refine Ex.seg hq 3 (j := 16) (L' := [.ref 0, .int p1, .int p2, .int p3, pu, pu, pu]) (S' := [.int p3, .ref 8]) (h' := hpS s5) rfl ?_
        refine Ex.cl hq rfl rfl ?_
        refine Rn.mono (q_111 (d := d + 0) p3 s5 k) ?_
        rintro _ _ ⟨s7, rfl, rfl, k⟩
        show Ex sc (d + 5) 133 17 [.ref 0, .int p1, .int p2, .int p3, pu, pu, pu] [] (hpS s7) _
        refine Ex.seg hq 3 (j := 20) (L' := [.ref 0, .int p1, .int p2, .int p3, pu, pu, pu]) (S' := [.int p1, .ref 1]) (h' := hpS s7) rfl ?_
        refine Ex.cl hq rfl rfl ?_
        refine Rn.mono (q_4 (d := d + 4) p1 s7 k) ?_
        rintro _ _ ⟨r10, s9, rfl, rfl, k⟩
        show Ex sc (d + 5) 133 21 [.ref 0, .int p1, .int p2, .int p3, pu, pu, pu] [.int r10] (hpS s9) _
        refine Ex.seg hq 3 (j := 24) (L' := [.ref 0, .int p1, .int p2, .int p3, .int r10, .int (0 : Int32), pu]) (S' := []) (h' := hpS s9) rfl ?_
        obtain ⟨m, k⟩ := k
        refine Ex.fg (L := [.ref 0, .int p1, .int p2, pu, .int r10, .int (0 : Int32), pu]) ⟨Or.inl rfl, ⟨Or.inl rfl, ⟨Or.inl rfl, ⟨Or.inr ⟨rfl, rfl⟩, ⟨Or.inl rfl, ⟨Or.inl rfl, ⟨Or.inl rfl, trivial⟩⟩⟩⟩⟩⟩⟩ ?_
        refine q_133_L24 (d := d) m p1 p2 r10 (0 : Int32) s9 k ?_ ?_
        · intro y4 s19 k
          refine Ex.seg hq 1 (j := 58) (L' := [pu, pu, pu, pu, .int y4, pu, pu]) (S' := [.int y4]) (h' := hpS s19) rfl ?_
          exact Ex.rt hq rfl rfl ⟨y4, s19, rfl, rfl, k⟩
        · intro y4 s20 k
          refine Ex.seg hq 2 (j := 58) (L' := [pu, pu, pu, pu, .int y4, pu, pu]) (S' := [.int y4]) (h' := hpS s20) rfl ?_
          exact Ex.rt hq rfl rfl ⟨y4, s20, rfl, rfl, k⟩
      · have k := k.2 c
        refine Ex.seg hq 1 (j := 12) (L' := [.ref 0, .int p1, .int p2, .int p3, pu, pu, pu]) (S' := [.int (-1000000000 : Int32)]) (h' := hpS s5) rfl ?_
        exact Ex.rt hq rfl rfl ⟨(-1000000000 : Int32), s5, rfl, rfl, k⟩
def w_135_L2 : Nat → Int32 → Int32 → ST → (ST → Prop) → (ST → Prop) → Prop
  | 0, _, _, _, _, _ => False
  | n + 1, x1, x2, s, X26, K => ((x2 < 0 → X26  s) ∧ (¬ (x2 < 0) → (((200 : Int32) ≤ (s.1 7) → X26  s) ∧ (¬ ((200 : Int32) ≤ (s.1 7)) → (pin (s.1 7) 200 = true ∧ w_135_L2 n x1 (x2 + (-8 : Int32)) (sA (sI s 7 ((s.1 7) + (1 : Int32))) 27 (upd (s.2.1 27) ((s.1 7)).toNatClampNeg ((((x1).toUInt32 >>> ((x2).toUInt32 &&& Int32.toUInt32 31)).toInt32) &&& (255 : Int32)))) X26 K)))))
theorem q_135_L2 {d : Nat} {X26 : ST → Prop} {K : ST → Prop} : ∀ (n : Nat) (x1 : Int32) (x2 : Int32) (s : ST), w_135_L2 n x1 x2 s X26 K → (∀ (s : ST), X26  s → Ex sc (d + 0) 135 26 [pu, pu, pu] [] (hpS s) (kV K)) → Ex sc (d + 0) 135 2 [.ref 0, .int x1, .int x2] [] (hpS s) (kV K) := by
  have hq : prog[135]? = some pm135 := rfl
  intro n
  induction n with
  | zero =>
    intro x1 x2 s k
    exact k.elim
  | succ n ih =>
    intro x1 x2 s k hX26
    rw [w_135_L2] at k
    refine Ex.seg hq 1 (j := 3) (L' := [.ref 0, .int x1, .int x2]) (S' := [.int x2]) (h' := hpS s) rfl ?_
    refine Ex.i1 hq rfl (fun c => ?_) (fun c => ?_)
    · have k := k.1 c
      refine Ex.fg (L := [pu, pu, pu]) ⟨Or.inr ⟨rfl, rfl⟩, ⟨Or.inr ⟨rfl, rfl⟩, ⟨Or.inr ⟨rfl, rfl⟩, trivial⟩⟩⟩ ?_
      exact hX26  s k
    · have k := k.2 c
      refine Ex.seg hq 3 (j := 7) (L' := [.ref 0, .int x1, .int x2]) (S' := [.int (200 : Int32), .int (s.1 7)]) (h' := hpS s) rfl ?_
      refine Ex.i2 hq rfl (fun c => ?_) (fun c => ?_)
      · have k := k.1 c
        refine Ex.fg (L := [pu, pu, pu]) ⟨Or.inr ⟨rfl, rfl⟩, ⟨Or.inr ⟨rfl, rfl⟩, ⟨Or.inr ⟨rfl, rfl⟩, trivial⟩⟩⟩ ?_
        exact hX26  s k
      · have k := k.2 c
        refine Ex.seg hq 9 (j := 17) (L' := [.ref 0, .int x1, .int x2]) (S' := [.int ((((x1).toUInt32 >>> ((x2).toUInt32 &&& Int32.toUInt32 31)).toInt32) &&& (255 : Int32)), .int (s.1 7), .ref 27]) (h' := hpS s) rfl ?_
        obtain ⟨hin, k⟩ := k
        refine Ex.ias hq rfl rfl hin (h' := hpS (sA s 27 (upd (s.2.1 27) ((s.1 7)).toNatClampNeg ((((x1).toUInt32 >>> ((x2).toUInt32 &&& Int32.toUInt32 31)).toInt32) &&& (255 : Int32))))) (hset_27 _ _) ?_
        refine Ex.seg hq 8 (j := 2) (L' := [.ref 0, .int x1, .int (x2 + (-8 : Int32))]) (S' := []) (h' := hpS (sA (sI s 7 ((s.1 7) + (1 : Int32))) 27 (upd (s.2.1 27) ((s.1 7)).toNatClampNeg ((((x1).toUInt32 >>> ((x2).toUInt32 &&& Int32.toUInt32 31)).toInt32) &&& (255 : Int32))))) rfl ?_
        exact ih x1 (x2 + (-8 : Int32)) (sA (sI s 7 ((s.1 7) + (1 : Int32))) 27 (upd (s.2.1 27) ((s.1 7)).toNatClampNeg ((((x1).toUInt32 >>> ((x2).toUInt32 &&& Int32.toUInt32 31)).toInt32) &&& (255 : Int32)))) k hX26
/-- RowAuditor.append(I)V -/
def w_135 (p1 : Int32) (s : ST) (K : ST → Prop) : Prop := (∃ m, w_135_L2 m p1 (24 : Int32) s (fun s1 => K s1) K)
theorem q_135 {d : Nat} {K : ST → Prop} (p1 : Int32) (s : ST) (k : w_135 p1 s K) : Rn sc (d + 0) 135 [.ref 0, .int p1] (hpS s) (kV K) := by
  have hq : prog[135]? = some pm135 := rfl
  refine Rn.of (L := [.ref 0, .int p1, pu]) hq rfl rfl ?_
  unfold w_135 at k
  refine Ex.seg hq 2 (j := 2) (L' := [.ref 0, .int p1, .int (24 : Int32)]) (S' := []) (h' := hpS s) rfl ?_
  obtain ⟨m, k⟩ := k
  refine q_135_L2 (d := d) m p1 (24 : Int32) s k ?_
  · intro s1 k
    exact Ex.rt hq rfl rfl ⟨s1, rfl, rfl, k⟩
/-- RowAuditor.feed(IIIII)I -/
def w_134 (p1 : Int32) (p2 : Int32) (p3 : Int32) (p4 : Int32) (p5 : Int32) (s : ST) (K : Int32 → ST → Prop) : Prop := ((((s.1 7) + (20 : Int32)) ≤ (200 : Int32) → w_135 p1 s (fun s1 => w_135 p2 s1 (fun s3 => w_135 p3 s3 (fun s5 => w_135 p4 s5 (fun s7 => w_135 p5 s7 (fun s9 => K (s9.1 7) s9)))))) ∧ (¬ (((s.1 7) + (20 : Int32)) ≤ (200 : Int32)) → K (-1 : Int32) s))
theorem q_134 {d : Nat} {K : Int32 → ST → Prop} (p1 : Int32) (p2 : Int32) (p3 : Int32) (p4 : Int32) (p5 : Int32) (s : ST) (k : w_134 p1 p2 p3 p4 p5 s K) : Rn sc (d + 1) 134 [.ref 0, .int p1, .int p2, .int p3, .int p4, .int p5] (hpS s) (kI K) := by
  have hq : prog[134]? = some pm134 := rfl
  refine Rn.of (L := [.ref 0, .int p1, .int p2, .int p3, .int p4, .int p5]) hq rfl rfl ?_
  unfold w_134 at k
  refine Ex.seg hq 5 (j := 5) (L' := [.ref 0, .int p1, .int p2, .int p3, .int p4, .int p5]) (S' := [.int (200 : Int32), .int ((s.1 7) + (20 : Int32))]) (h' := hpS s) rfl ?_
  refine Ex.i2 hq rfl (fun c => ?_) (fun c => ?_)
  · have k := k.1 c
    refine Ex.seg hq 2 (j := 10) (L' := [.ref 0, .int p1, .int p2, .int p3, .int p4, .int p5]) (S' := [.int p1, .ref 0]) (h' := hpS s) rfl ?_
    refine Ex.cl hq rfl rfl ?_
    refine Rn.mono (q_135 (d := d + 0) p1 s k) ?_
    rintro _ _ ⟨s1, rfl, rfl, k⟩
    show Ex sc (d + 1) 134 11 [.ref 0, .int p1, .int p2, .int p3, .int p4, .int p5] [] (hpS s1) _
    refine Ex.seg hq 2 (j := 13) (L' := [.ref 0, .int p1, .int p2, .int p3, .int p4, .int p5]) (S' := [.int p2, .ref 0]) (h' := hpS s1) rfl ?_
    refine Ex.cl hq rfl rfl ?_
    refine Rn.mono (q_135 (d := d + 0) p2 s1 k) ?_
    rintro _ _ ⟨s3, rfl, rfl, k⟩
    show Ex sc (d + 1) 134 14 [.ref 0, .int p1, .int p2, .int p3, .int p4, .int p5] [] (hpS s3) _
    refine Ex.seg hq 2 (j := 16) (L' := [.ref 0, .int p1, .int p2, .int p3, .int p4, .int p5]) (S' := [.int p3, .ref 0]) (h' := hpS s3) rfl ?_
    refine Ex.cl hq rfl rfl ?_
    refine Rn.mono (q_135 (d := d + 0) p3 s3 k) ?_
    rintro _ _ ⟨s5, rfl, rfl, k⟩
    show Ex sc (d + 1) 134 17 [.ref 0, .int p1, .int p2, .int p3, .int p4, .int p5] [] (hpS s5) _
    refine Ex.seg hq 2 (j := 19) (L' := [.ref 0, .int p1, .int p2, .int p3, .int p4, .int p5]) (S' := [.int p4, .ref 0]) (h' := hpS s5) rfl ?_
    refine Ex.cl hq rfl rfl ?_
    refine Rn.mono (q_135 (d := d + 0) p4 s5 k) ?_
    rintro _ _ ⟨s7, rfl, rfl, k⟩
    show Ex sc (d + 1) 134 20 [.ref 0, .int p1, .int p2, .int p3, .int p4, .int p5] [] (hpS s7) _
    refine Ex.seg hq 2 (j := 22) (L' := [.ref 0, .int p1, .int p2, .int p3, .int p4, .int p5]) (S' := [.int p5, .ref 0]) (h' := hpS s7) rfl ?_
    refine Ex.cl hq rfl rfl ?_
    refine Rn.mono (q_135 (d := d + 0) p5 s7 k) ?_
    rintro _ _ ⟨s9, rfl, rfl, k⟩
    show Ex sc (d + 1) 134 23 [.ref 0, .int p1, .int p2, .int p3, .int p4, .int p5] [] (hpS s9) _
    refine Ex.seg hq 2 (j := 25) (L' := [.ref 0, .int p1, .int p2, .int p3, .int p4, .int p5]) (S' := [.int (s9.1 7)]) (h' := hpS s9) rfl ?_
    exact Ex.rt hq rfl rfl ⟨(s9.1 7), s9, rfl, rfl, k⟩
  · have k := k.2 c
    refine Ex.seg hq 1 (j := 7) (L' := [.ref 0, .int p1, .int p2, .int p3, .int p4, .int p5]) (S' := [.int (-1 : Int32)]) (h' := hpS s) rfl ?_
    exact Ex.rt hq rfl rfl ⟨(-1 : Int32), s, rfl, rfl, k⟩
/-- RowAuditor.hasTaped(II)Z -/
def w_136 (p1 : Int32) (p2 : Int32) (s : ST) (K : Int32 → ST → Prop) : Prop := w_181 p1 (1 : Int32) p2 s (fun r2 s1 => ((r2 = 0 → K (0 : Int32) s1) ∧ (¬ (r2 = 0) → (((s1.1 7) < p1 → K (0 : Int32) s1) ∧ (¬ ((s1.1 7) < p1) → K (1 : Int32) s1)))))
theorem q_136 {d : Nat} {K : Int32 → ST → Prop} (p1 : Int32) (p2 : Int32) (s : ST) (k : w_136 p1 p2 s K) : Rn sc (d + 1) 136 [.ref 0, .int p1, .int p2] (hpS s) (kZ K) := by
  have hq : prog[136]? = some pm136 := rfl
  refine Rn.of (L := [.ref 0, .int p1, .int p2]) hq rfl rfl ?_
  unfold w_136 at k
  refine Ex.seg hq 3 (j := 3) (L' := [.ref 0, .int p1, .int p2]) (S' := [.int p2, .int (1 : Int32), .int p1]) (h' := hpS s) rfl ?_
  refine Ex.cl hq rfl rfl ?_
  refine Rn.mono (q_181 (d := d + 0) p1 (1 : Int32) p2 s k) ?_
  rintro _ _ ⟨r2, s1, rfl, hzr2, rfl, k⟩
  show Ex sc (d + 1) 136 4 [.ref 0, .int p1, .int p2] [.int r2] (hpS s1) _
  refine Ex.i1 hq rfl (fun c => ?_) (fun c => ?_)
  · have k := k.1 c
    refine Ex.seg hq 1 (j := 12) (L' := [.ref 0, .int p1, .int p2]) (S' := [.int (0 : Int32)]) (h' := hpS s1) rfl ?_
    exact Ex.zr hq rfl rfl (Or.inl rfl) ⟨(0 : Int32), s1, rfl, (Or.inl rfl), rfl, k⟩
  · have k := k.2 c
    refine Ex.seg hq 3 (j := 8) (L' := [.ref 0, .int p1, .int p2]) (S' := [.int (s1.1 7), .int p1]) (h' := hpS s1) rfl ?_
    refine Ex.i2 hq rfl (fun c => ?_) (fun c => ?_)
    · have k := k.1 c
      refine Ex.seg hq 1 (j := 12) (L' := [.ref 0, .int p1, .int p2]) (S' := [.int (0 : Int32)]) (h' := hpS s1) rfl ?_
      exact Ex.zr hq rfl rfl (Or.inl rfl) ⟨(0 : Int32), s1, rfl, (Or.inl rfl), rfl, k⟩
    · have k := k.2 c
      refine Ex.seg hq 2 (j := 12) (L' := [.ref 0, .int p1, .int p2]) (S' := [.int (1 : Int32)]) (h' := hpS s1) rfl ?_
      exact Ex.zr hq rfl rfl (Or.inr rfl) ⟨(1 : Int32), s1, rfl, (Or.inr rfl), rfl, k⟩
/-- java/util/ArrayList.grow(I)[Ljava/lang/Object; -/
def w_295_R20 (p1 : Int32) (s : ST) (K : Nat → ST → Prop) : Prop := (((s.2.2.2.1 20) = .float 1 ∧ ((0 < (0 : Int32) → w_307 (0 : Int32) (p1 - (0 : Int32)) ((0 : Int32) >>> ((1 : Int32) &&& 31)) s (fun r3 s2 => (((s2.2.2.2.1 20) = .float 1 ∧ w_303_F1 r3 s2 (fun r6 s5 => K r6 (sR s5 20 (.ref (r6 + 118))))) ∨ (∃ b4, (s2.2.2.2.1 20) = .ref (b4 + 118) ∧ w_303 b4 r3 s2 (fun r8 s7 => K r8 (sR s7 20 (.ref (r8 + 118)))))))) ∧ (¬ (0 < (0 : Int32)) → (((s.2.2.2.1 20) = .float 1 ∧ (¬ (if (10 : Int32) < p1 then p1 else (10 : Int32)) < 0 ∧ ((if (10 : Int32) < p1 then p1 else (10 : Int32))).toNatClampNeg ≤ 100000 ∧ K s.2.2.2.2.length (sD (sR s 20 (.ref (s.2.2.2.2.length + 118))) (s.2.2.2.2 ++ [(Sum.inl (4, ((if (10 : Int32) < p1 then p1 else (10 : Int32))).toNatClampNeg, .inr (.inr (fun _ => none))) : PC)])))) ∨ (∃ b9, (s.2.2.2.1 20) = .ref (b9 + 118) ∧ w_307 (0 : Int32) (p1 - (0 : Int32)) ((0 : Int32) >>> ((1 : Int32) &&& 31)) s (fun r11 s10 => (((s10.2.2.2.1 20) = .float 1 ∧ w_303_F1 r11 s10 (fun r14 s13 => K r14 (sR s13 20 (.ref (r14 + 118))))) ∨ (∃ b12, (s10.2.2.2.1 20) = .ref (b12 + 118) ∧ w_303 b12 r11 s10 (fun r16 s15 => K r16 (sR s15 20 (.ref (r16 + 118)))))))))))) ∨ (∃ b1, (s.2.2.2.1 20) = .ref (b1 + 118) ∧ (∃ n17 f18, prowR s.2.2.2.2 b1 = some (n17, f18) ∧ ((0 < (Int32.ofNat n17) → w_307 (Int32.ofNat n17) (p1 - (Int32.ofNat n17)) ((Int32.ofNat n17) >>> ((1 : Int32) &&& 31)) s (fun r20 s19 => (((s19.2.2.2.1 20) = .float 1 ∧ w_303_F1 r20 s19 (fun r23 s22 => K r23 (sR s22 20 (.ref (r23 + 118))))) ∨ (∃ b21, (s19.2.2.2.1 20) = .ref (b21 + 118) ∧ w_303 b21 r20 s19 (fun r25 s24 => K r25 (sR s24 20 (.ref (r25 + 118)))))))) ∧ (¬ (0 < (Int32.ofNat n17)) → (((s.2.2.2.1 20) = .float 1 ∧ (¬ (if (10 : Int32) < p1 then p1 else (10 : Int32)) < 0 ∧ ((if (10 : Int32) < p1 then p1 else (10 : Int32))).toNatClampNeg ≤ 100000 ∧ K s.2.2.2.2.length (sD (sR s 20 (.ref (s.2.2.2.2.length + 118))) (s.2.2.2.2 ++ [(Sum.inl (4, ((if (10 : Int32) < p1 then p1 else (10 : Int32))).toNatClampNeg, .inr (.inr (fun _ => none))) : PC)])))) ∨ (∃ b26, (s.2.2.2.1 20) = .ref (b26 + 118) ∧ w_307 (Int32.ofNat n17) (p1 - (Int32.ofNat n17)) ((Int32.ofNat n17) >>> ((1 : Int32) &&& 31)) s (fun r28 s27 => (((s27.2.2.2.1 20) = .float 1 ∧ w_303_F1 r28 s27 (fun r31 s30 => K r31 (sR s30 20 (.ref (r31 + 118))))) ∨ (∃ b29, (s27.2.2.2.1 20) = .ref (b29 + 118) ∧ w_303 b29 r28 s27 (fun r33 s32 => K r33 (sR s32 20 (.ref (r33 + 118))))))))))))))
theorem q_295_R20 {d : Nat} {K : Nat → ST → Prop} (p1 : Int32) (s : ST) (k : w_295_R20 p1 s K) : Rn sc (d + 3) 295 [.ref 20, .int p1] (hpS s) (kA K) := by
  have hq : prog[295]? = some pm295 := rfl
  refine Rn.of (L := [.ref 20, .int p1, pu, pu]) hq rfl rfl ?_
  unfold w_295_R20 at k
  refine Ex.seg hq 1 (j := 1) (L' := [.ref 20, .int p1, pu, pu]) (S' := [.ref 20]) (h' := hpS s) rfl ?_
  refine Ex.seg hq 1 (j := 2) (L' := [.ref 20, .int p1, pu, pu]) (S' := (s.2.2.2.1 20) :: []) (h' := hpS s) rfl ?_
  rcases k with ⟨e, k⟩ | ⟨b1, e, k⟩
  · rw [e]
    refine Ex.seg hq 3 (j := 5) (L' := [.ref 20, .int p1, .int (0 : Int32), pu]) (S' := [.int (0 : Int32)]) (h' := hpS s) rfl ?_
    refine Ex.i1 hq rfl (fun c => ?_) (fun c => ?_)
    · have k := k.1 c
      refine Ex.seg hq 7 (j := 17) (L' := [.ref 20, .int p1, .int (0 : Int32), pu]) (S' := [.int ((0 : Int32) >>> ((1 : Int32) &&& 31)), .int (p1 - (0 : Int32)), .int (0 : Int32)]) (h' := hpS s) rfl ?_
      refine Ex.cl hq rfl rfl ?_
      refine Rn.mono (q_307 (d := d + 1) (0 : Int32) (p1 - (0 : Int32)) ((0 : Int32) >>> ((1 : Int32) &&& 31)) s k) ?_
      rintro _ _ ⟨r3, s2, rfl, rfl, k⟩
      show Ex sc (d + 3) 295 18 [.ref 20, .int p1, .int (0 : Int32), pu] [.int r3] (hpS s2) _
      refine Ex.seg hq 3 (j := 21) (L' := [.ref 20, .int p1, .int (0 : Int32), .int r3]) (S' := [.ref 20, .ref 20]) (h' := hpS s2) rfl ?_
      refine Ex.seg hq 1 (j := 22) (L' := [.ref 20, .int p1, .int (0 : Int32), .int r3]) (S' := (s2.2.2.2.1 20) :: [.ref 20]) (h' := hpS s2) rfl ?_
      rcases k with ⟨e, k⟩ | ⟨b4, e, k⟩
      · rw [e]
        refine Ex.seg hq 1 (j := 23) (L' := [.ref 20, .int p1, .int (0 : Int32), .int r3]) (S' := [.int r3, .float 1, .ref 20]) (h' := hpS s2) rfl ?_
        refine Ex.cl hq rfl rfl ?_
        refine Rn.mono (q_303_F1 (d := d + 2) r3 s2 k) ?_
        rintro _ _ ⟨r6, s5, rfl, rfl, k⟩
        show Ex sc (d + 3) 295 24 [.ref 20, .int p1, .int (0 : Int32), .int r3] [.ref (r6 + 118), .ref 20] (hpS s5) _
        refine Ex.seg hq 2 (j := 26) (L' := [.ref 20, .int p1, .int (0 : Int32), .int r3]) (S' := [.ref (r6 + 118)]) (h' := hpS (sR s5 20 (.ref (r6 + 118)))) rfl ?_
        exact Ex.rt hq rfl rfl ⟨r6, (sR s5 20 (.ref (r6 + 118))), rfl, rfl, k⟩
      · rw [e]
        refine Ex.seg hq 1 (j := 23) (L' := [.ref 20, .int p1, .int (0 : Int32), .int r3]) (S' := [.int r3, .ref (b4 + 118), .ref 20]) (h' := hpS s2) rfl ?_
        refine Ex.cl hq rfl rfl ?_
        refine Rn.mono (q_303 (d := d + 0) b4 r3 s2 k) ?_
        rintro _ _ ⟨r8, s7, rfl, rfl, k⟩
        show Ex sc (d + 3) 295 24 [.ref 20, .int p1, .int (0 : Int32), .int r3] [.ref (r8 + 118), .ref 20] (hpS s7) _
        refine Ex.seg hq 2 (j := 26) (L' := [.ref 20, .int p1, .int (0 : Int32), .int r3]) (S' := [.ref (r8 + 118)]) (h' := hpS (sR s7 20 (.ref (r8 + 118)))) rfl ?_
        exact Ex.rt hq rfl rfl ⟨r8, (sR s7 20 (.ref (r8 + 118))), rfl, rfl, k⟩
    · have k := k.2 c
      refine Ex.seg hq 1 (j := 7) (L' := [.ref 20, .int p1, .int (0 : Int32), pu]) (S' := [.ref 20]) (h' := hpS s) rfl ?_
      refine Ex.seg hq 1 (j := 8) (L' := [.ref 20, .int p1, .int (0 : Int32), pu]) (S' := (s.2.2.2.1 20) :: []) (h' := hpS s) rfl ?_
      rcases k with ⟨e, k⟩ | ⟨b9, e, k⟩
      · rw [e]
        refine Ex.seg hq 6 (j := 31) (L' := [.ref 20, .int p1, .int (0 : Int32), pu]) (S' := [.int (if (10 : Int32) < p1 then p1 else (10 : Int32)), .ref 20]) (h' := hpS s) rfl ?_
        obtain ⟨h0, h1, k⟩ := k
        refine Ex.anw hq rfl h0 h1 ?_
        show Ex sc (d + 3) 295 32 [.ref 20, .int p1, .int (0 : Int32), pu] [.ref (s.2.2.2.2.length + 118), .ref 20] (hpS (sD s (s.2.2.2.2 ++ [(Sum.inl (4, ((if (10 : Int32) < p1 then p1 else (10 : Int32))).toNatClampNeg, .inr (.inr (fun _ => none))) : PC)]))) _
        refine Ex.seg hq 2 (j := 34) (L' := [.ref 20, .int p1, .int (0 : Int32), pu]) (S' := [.ref (s.2.2.2.2.length + 118)]) (h' := hpS (sD (sR s 20 (.ref (s.2.2.2.2.length + 118))) (s.2.2.2.2 ++ [(Sum.inl (4, ((if (10 : Int32) < p1 then p1 else (10 : Int32))).toNatClampNeg, .inr (.inr (fun _ => none))) : PC)]))) rfl ?_
        exact Ex.rt hq rfl rfl ⟨s.2.2.2.2.length, (sD (sR s 20 (.ref (s.2.2.2.2.length + 118))) (s.2.2.2.2 ++ [(Sum.inl (4, ((if (10 : Int32) < p1 then p1 else (10 : Int32))).toNatClampNeg, .inr (.inr (fun _ => none))) : PC)])), rfl, rfl, k⟩
      · rw [e]
        refine Ex.seg hq 9 (j := 17) (L' := [.ref 20, .int p1, .int (0 : Int32), pu]) (S' := [.int ((0 : Int32) >>> ((1 : Int32) &&& 31)), .int (p1 - (0 : Int32)), .int (0 : Int32)]) (h' := hpS s) rfl ?_
        refine Ex.cl hq rfl rfl ?_
        refine Rn.mono (q_307 (d := d + 1) (0 : Int32) (p1 - (0 : Int32)) ((0 : Int32) >>> ((1 : Int32) &&& 31)) s k) ?_
        rintro _ _ ⟨r11, s10, rfl, rfl, k⟩
        show Ex sc (d + 3) 295 18 [.ref 20, .int p1, .int (0 : Int32), pu] [.int r11] (hpS s10) _
        refine Ex.seg hq 3 (j := 21) (L' := [.ref 20, .int p1, .int (0 : Int32), .int r11]) (S' := [.ref 20, .ref 20]) (h' := hpS s10) rfl ?_
        refine Ex.seg hq 1 (j := 22) (L' := [.ref 20, .int p1, .int (0 : Int32), .int r11]) (S' := (s10.2.2.2.1 20) :: [.ref 20]) (h' := hpS s10) rfl ?_
        rcases k with ⟨e, k⟩ | ⟨b12, e, k⟩
        · rw [e]
          refine Ex.seg hq 1 (j := 23) (L' := [.ref 20, .int p1, .int (0 : Int32), .int r11]) (S' := [.int r11, .float 1, .ref 20]) (h' := hpS s10) rfl ?_
          refine Ex.cl hq rfl rfl ?_
          refine Rn.mono (q_303_F1 (d := d + 2) r11 s10 k) ?_
          rintro _ _ ⟨r14, s13, rfl, rfl, k⟩
          show Ex sc (d + 3) 295 24 [.ref 20, .int p1, .int (0 : Int32), .int r11] [.ref (r14 + 118), .ref 20] (hpS s13) _
          refine Ex.seg hq 2 (j := 26) (L' := [.ref 20, .int p1, .int (0 : Int32), .int r11]) (S' := [.ref (r14 + 118)]) (h' := hpS (sR s13 20 (.ref (r14 + 118)))) rfl ?_
          exact Ex.rt hq rfl rfl ⟨r14, (sR s13 20 (.ref (r14 + 118))), rfl, rfl, k⟩
        · rw [e]
          refine Ex.seg hq 1 (j := 23) (L' := [.ref 20, .int p1, .int (0 : Int32), .int r11]) (S' := [.int r11, .ref (b12 + 118), .ref 20]) (h' := hpS s10) rfl ?_
          refine Ex.cl hq rfl rfl ?_
          refine Rn.mono (q_303 (d := d + 0) b12 r11 s10 k) ?_
          rintro _ _ ⟨r16, s15, rfl, rfl, k⟩
          show Ex sc (d + 3) 295 24 [.ref 20, .int p1, .int (0 : Int32), .int r11] [.ref (r16 + 118), .ref 20] (hpS s15) _
          refine Ex.seg hq 2 (j := 26) (L' := [.ref 20, .int p1, .int (0 : Int32), .int r11]) (S' := [.ref (r16 + 118)]) (h' := hpS (sR s15 20 (.ref (r16 + 118)))) rfl ?_
          exact Ex.rt hq rfl rfl ⟨r16, (sR s15 20 (.ref (r16 + 118))), rfl, rfl, k⟩
  · rw [e]
    obtain ⟨n17, f18, e, k⟩ := k
    refine Ex.lnR hq rfl e ?_
    refine Ex.seg hq 2 (j := 5) (L' := [.ref 20, .int p1, .int (Int32.ofNat n17), pu]) (S' := [.int (Int32.ofNat n17)]) (h' := hpS s) rfl ?_
    refine Ex.i1 hq rfl (fun c => ?_) (fun c => ?_)
    · have k := k.1 c
      refine Ex.seg hq 7 (j := 17) (L' := [.ref 20, .int p1, .int (Int32.ofNat n17), pu]) (S' := [.int ((Int32.ofNat n17) >>> ((1 : Int32) &&& 31)), .int (p1 - (Int32.ofNat n17)), .int (Int32.ofNat n17)]) (h' := hpS s) rfl ?_
      refine Ex.cl hq rfl rfl ?_
      refine Rn.mono (q_307 (d := d + 1) (Int32.ofNat n17) (p1 - (Int32.ofNat n17)) ((Int32.ofNat n17) >>> ((1 : Int32) &&& 31)) s k) ?_
      rintro _ _ ⟨r20, s19, rfl, rfl, k⟩
      show Ex sc (d + 3) 295 18 [.ref 20, .int p1, .int (Int32.ofNat n17), pu] [.int r20] (hpS s19) _
      refine Ex.seg hq 3 (j := 21) (L' := [.ref 20, .int p1, .int (Int32.ofNat n17), .int r20]) (S' := [.ref 20, .ref 20]) (h' := hpS s19) rfl ?_
      refine Ex.seg hq 1 (j := 22) (L' := [.ref 20, .int p1, .int (Int32.ofNat n17), .int r20]) (S' := (s19.2.2.2.1 20) :: [.ref 20]) (h' := hpS s19) rfl ?_
      rcases k with ⟨e, k⟩ | ⟨b21, e, k⟩
      · rw [e]
        refine Ex.seg hq 1 (j := 23) (L' := [.ref 20, .int p1, .int (Int32.ofNat n17), .int r20]) (S' := [.int r20, .float 1, .ref 20]) (h' := hpS s19) rfl ?_
        refine Ex.cl hq rfl rfl ?_
        refine Rn.mono (q_303_F1 (d := d + 2) r20 s19 k) ?_
        rintro _ _ ⟨r23, s22, rfl, rfl, k⟩
        show Ex sc (d + 3) 295 24 [.ref 20, .int p1, .int (Int32.ofNat n17), .int r20] [.ref (r23 + 118), .ref 20] (hpS s22) _
        refine Ex.seg hq 2 (j := 26) (L' := [.ref 20, .int p1, .int (Int32.ofNat n17), .int r20]) (S' := [.ref (r23 + 118)]) (h' := hpS (sR s22 20 (.ref (r23 + 118)))) rfl ?_
        exact Ex.rt hq rfl rfl ⟨r23, (sR s22 20 (.ref (r23 + 118))), rfl, rfl, k⟩
      · rw [e]
        refine Ex.seg hq 1 (j := 23) (L' := [.ref 20, .int p1, .int (Int32.ofNat n17), .int r20]) (S' := [.int r20, .ref (b21 + 118), .ref 20]) (h' := hpS s19) rfl ?_
        refine Ex.cl hq rfl rfl ?_
        refine Rn.mono (q_303 (d := d + 0) b21 r20 s19 k) ?_
        rintro _ _ ⟨r25, s24, rfl, rfl, k⟩
        show Ex sc (d + 3) 295 24 [.ref 20, .int p1, .int (Int32.ofNat n17), .int r20] [.ref (r25 + 118), .ref 20] (hpS s24) _
        refine Ex.seg hq 2 (j := 26) (L' := [.ref 20, .int p1, .int (Int32.ofNat n17), .int r20]) (S' := [.ref (r25 + 118)]) (h' := hpS (sR s24 20 (.ref (r25 + 118)))) rfl ?_
        exact Ex.rt hq rfl rfl ⟨r25, (sR s24 20 (.ref (r25 + 118))), rfl, rfl, k⟩
    · have k := k.2 c
      refine Ex.seg hq 1 (j := 7) (L' := [.ref 20, .int p1, .int (Int32.ofNat n17), pu]) (S' := [.ref 20]) (h' := hpS s) rfl ?_
      refine Ex.seg hq 1 (j := 8) (L' := [.ref 20, .int p1, .int (Int32.ofNat n17), pu]) (S' := (s.2.2.2.1 20) :: []) (h' := hpS s) rfl ?_
      rcases k with ⟨e, k⟩ | ⟨b26, e, k⟩
      · rw [e]
        refine Ex.seg hq 6 (j := 31) (L' := [.ref 20, .int p1, .int (Int32.ofNat n17), pu]) (S' := [.int (if (10 : Int32) < p1 then p1 else (10 : Int32)), .ref 20]) (h' := hpS s) rfl ?_
        obtain ⟨h0, h1, k⟩ := k
        refine Ex.anw hq rfl h0 h1 ?_
        show Ex sc (d + 3) 295 32 [.ref 20, .int p1, .int (Int32.ofNat n17), pu] [.ref (s.2.2.2.2.length + 118), .ref 20] (hpS (sD s (s.2.2.2.2 ++ [(Sum.inl (4, ((if (10 : Int32) < p1 then p1 else (10 : Int32))).toNatClampNeg, .inr (.inr (fun _ => none))) : PC)]))) _
        refine Ex.seg hq 2 (j := 34) (L' := [.ref 20, .int p1, .int (Int32.ofNat n17), pu]) (S' := [.ref (s.2.2.2.2.length + 118)]) (h' := hpS (sD (sR s 20 (.ref (s.2.2.2.2.length + 118))) (s.2.2.2.2 ++ [(Sum.inl (4, ((if (10 : Int32) < p1 then p1 else (10 : Int32))).toNatClampNeg, .inr (.inr (fun _ => none))) : PC)]))) rfl ?_
        exact Ex.rt hq rfl rfl ⟨s.2.2.2.2.length, (sD (sR s 20 (.ref (s.2.2.2.2.length + 118))) (s.2.2.2.2 ++ [(Sum.inl (4, ((if (10 : Int32) < p1 then p1 else (10 : Int32))).toNatClampNeg, .inr (.inr (fun _ => none))) : PC)])), rfl, rfl, k⟩
      · rw [e]
        refine Ex.seg hq 9 (j := 17) (L' := [.ref 20, .int p1, .int (Int32.ofNat n17), pu]) (S' := [.int ((Int32.ofNat n17) >>> ((1 : Int32) &&& 31)), .int (p1 - (Int32.ofNat n17)), .int (Int32.ofNat n17)]) (h' := hpS s) rfl ?_
        refine Ex.cl hq rfl rfl ?_
        refine Rn.mono (q_307 (d := d + 1) (Int32.ofNat n17) (p1 - (Int32.ofNat n17)) ((Int32.ofNat n17) >>> ((1 : Int32) &&& 31)) s k) ?_
        rintro _ _ ⟨r28, s27, rfl, rfl, k⟩
        show Ex sc (d + 3) 295 18 [.ref 20, .int p1, .int (Int32.ofNat n17), pu] [.int r28] (hpS s27) _
        refine Ex.seg hq 3 (j := 21) (L' := [.ref 20, .int p1, .int (Int32.ofNat n17), .int r28]) (S' := [.ref 20, .ref 20]) (h' := hpS s27) rfl ?_
        refine Ex.seg hq 1 (j := 22) (L' := [.ref 20, .int p1, .int (Int32.ofNat n17), .int r28]) (S' := (s27.2.2.2.1 20) :: [.ref 20]) (h' := hpS s27) rfl ?_
        rcases k with ⟨e, k⟩ | ⟨b29, e, k⟩
        · rw [e]
          refine Ex.seg hq 1 (j := 23) (L' := [.ref 20, .int p1, .int (Int32.ofNat n17), .int r28]) (S' := [.int r28, .float 1, .ref 20]) (h' := hpS s27) rfl ?_
          refine Ex.cl hq rfl rfl ?_
          refine Rn.mono (q_303_F1 (d := d + 2) r28 s27 k) ?_
          rintro _ _ ⟨r31, s30, rfl, rfl, k⟩
          show Ex sc (d + 3) 295 24 [.ref 20, .int p1, .int (Int32.ofNat n17), .int r28] [.ref (r31 + 118), .ref 20] (hpS s30) _
          refine Ex.seg hq 2 (j := 26) (L' := [.ref 20, .int p1, .int (Int32.ofNat n17), .int r28]) (S' := [.ref (r31 + 118)]) (h' := hpS (sR s30 20 (.ref (r31 + 118)))) rfl ?_
          exact Ex.rt hq rfl rfl ⟨r31, (sR s30 20 (.ref (r31 + 118))), rfl, rfl, k⟩
        · rw [e]
          refine Ex.seg hq 1 (j := 23) (L' := [.ref 20, .int p1, .int (Int32.ofNat n17), .int r28]) (S' := [.int r28, .ref (b29 + 118), .ref 20]) (h' := hpS s27) rfl ?_
          refine Ex.cl hq rfl rfl ?_
          refine Rn.mono (q_303 (d := d + 0) b29 r28 s27 k) ?_
          rintro _ _ ⟨r33, s32, rfl, rfl, k⟩
          show Ex sc (d + 3) 295 24 [.ref 20, .int p1, .int (Int32.ofNat n17), .int r28] [.ref (r33 + 118), .ref 20] (hpS s32) _
          refine Ex.seg hq 2 (j := 26) (L' := [.ref 20, .int p1, .int (Int32.ofNat n17), .int r28]) (S' := [.ref (r33 + 118)]) (h' := hpS (sR s32 20 (.ref (r33 + 118)))) rfl ?_
          exact Ex.rt hq rfl rfl ⟨r33, (sR s32 20 (.ref (r33 + 118))), rfl, rfl, k⟩
/-- java/util/ArrayList.grow()[Ljava/lang/Object; -/
def w_296_R20  (s : ST) (K : Nat → ST → Prop) : Prop := w_295_R20 ((s.1 2002) + (1 : Int32)) s (fun r2 s1 => K r2 s1)
theorem q_296_R20 {d : Nat} {K : Nat → ST → Prop}  (s : ST) (k : w_296_R20  s K) : Rn sc (d + 4) 296 [.ref 20] (hpS s) (kA K) := by
  have hq : prog[296]? = some pm296 := rfl
  refine Rn.of (L := [.ref 20]) hq rfl rfl ?_
  unfold w_296_R20 at k
  refine Ex.seg hq 5 (j := 5) (L' := [.ref 20]) (S' := [.int ((s.1 2002) + (1 : Int32)), .ref 20]) (h' := hpS s) rfl ?_
  refine Ex.cl hq rfl rfl ?_
  refine Rn.mono (q_295_R20 (d := d + 0) ((s.1 2002) + (1 : Int32)) s k) ?_
  rintro _ _ ⟨r2, s1, rfl, rfl, k⟩
  show Ex sc (d + 4) 296 6 [.ref 20] [.ref (r2 + 118)] (hpS s1) _
  exact Ex.rt hq rfl rfl ⟨r2, s1, rfl, rfl, k⟩
/-- java/util/ArrayList.add(Ljava/lang/Object;[Ljava/lang/Object;I)V -/
def w_300_R20_F1 (p1 : Nat) (p3 : Int32) (s : ST) (K : ST → Prop) : Prop := ((¬ p3 = (0 : Int32) → False) ∧ (¬ (¬ p3 = (0 : Int32)) → w_296_R20 s (fun r2 s1 => (∃ (n3 : Nat) (f4 : Nat → Option Nat) (o5 : Nat × List Value), prowR s1.2.2.2.2 r2 = some (n3, f4) ∧ pin p3 n3 = true ∧ s1.2.2.2.2[p1]? = some (.inr o5) ∧ K (sD (sI s1 2002 (p3 + (1 : Int32))) (s1.2.2.2.2.set r2 (.inl (4, n3, .inr (.inr (va_up f4 (p3).toNatClampNeg (some (p1 + 118))))))))))))
theorem q_300_R20_F1 {d : Nat} {K : ST → Prop} (p1 : Nat) (p3 : Int32) (s : ST) (k : w_300_R20_F1 p1 p3 s K) : Rn sc (d + 5) 300 [.ref 20, .ref (p1 + 118), .float 1, .int p3] (hpS s) (kV K) := by
  have hq : prog[300]? = some pm300 := rfl
  refine Rn.of (L := [.ref 20, .ref (p1 + 118), .float 1, .int p3]) hq rfl rfl ?_
  unfold w_300_R20_F1 at k
  refine Ex.seg hq 3 (j := 3) (L' := [.ref 20, .ref (p1 + 118), .float 1, .int p3]) (S' := [.int (0 : Int32), .int p3]) (h' := hpS s) rfl ?_
  refine Ex.i2 hq rfl (fun c => ?_) (fun c => ?_)
  · have k := k.1 c
    refine Ex.seg hq 3 (j := 10) (L' := [.ref 20, .ref (p1 + 118), .float 1, .int p3]) (S' := [.ref (p1 + 118), .int p3, .float 1]) (h' := hpS s) rfl ?_
    exact k.elim
  · have k := k.2 c
    refine Ex.seg hq 1 (j := 5) (L' := [.ref 20, .ref (p1 + 118), .float 1, .int p3]) (S' := [.ref 20]) (h' := hpS s) rfl ?_
    refine Ex.cl hq rfl rfl ?_
    refine Rn.mono (q_296_R20 (d := d + 0) s k) ?_
    rintro _ _ ⟨r2, s1, rfl, rfl, k⟩
    show Ex sc (d + 5) 300 6 [.ref 20, .ref (p1 + 118), .float 1, .int p3] [.ref (r2 + 118)] (hpS s1) _
    refine Ex.seg hq 4 (j := 10) (L' := [.ref 20, .ref (p1 + 118), .ref (r2 + 118), .int p3]) (S' := [.ref (p1 + 118), .int p3, .ref (r2 + 118)]) (h' := hpS s1) rfl ?_
    obtain ⟨n3, f4, o5, e, hin, hy, k⟩ := k
    refine Ex.asd hq rfl e hin hy ?_
    show Ex sc (d + 5) 300 11 [.ref 20, .ref (p1 + 118), .ref (r2 + 118), .int p3] [] (hpS (sD s1 (s1.2.2.2.2.set r2 (.inl (4, n3, .inr (.inr (va_up f4 (p3).toNatClampNeg (some (p1 + 118))))))))) _
    refine Ex.seg hq 5 (j := 16) (L' := [.ref 20, .ref (p1 + 118), .ref (r2 + 118), .int p3]) (S' := []) (h' := hpS (sD (sI s1 2002 (p3 + (1 : Int32))) (s1.2.2.2.2.set r2 (.inl (4, n3, .inr (.inr (va_up f4 (p3).toNatClampNeg (some (p1 + 118))))))))) rfl ?_
    exact Ex.rt hq rfl rfl ⟨(sD (sI s1 2002 (p3 + (1 : Int32))) (s1.2.2.2.2.set r2 (.inl (4, n3, .inr (.inr (va_up f4 (p3).toNatClampNeg (some (p1 + 118)))))))), rfl, rfl, k⟩
/-- java/util/ArrayList.add(Ljava/lang/Object;[Ljava/lang/Object;I)V -/
def w_300_R20 (p1 : Nat) (p2 : Nat) (p3 : Int32) (s : ST) (K : ST → Prop) : Prop := (∃ n1 f2, prowR s.2.2.2.2 p2 = some (n1, f2) ∧ ((¬ p3 = (Int32.ofNat n1) → (∃ (n3 : Nat) (f4 : Nat → Option Nat) (o5 : Nat × List Value), prowR s.2.2.2.2 p2 = some (n3, f4) ∧ pin p3 n3 = true ∧ s.2.2.2.2[p1]? = some (.inr o5) ∧ K (sD (sI s 2002 (p3 + (1 : Int32))) (s.2.2.2.2.set p2 (.inl (4, n3, .inr (.inr (va_up f4 (p3).toNatClampNeg (some (p1 + 118)))))))))) ∧ (¬ (¬ p3 = (Int32.ofNat n1)) → w_296_R20 s (fun r7 s6 => (∃ (n8 : Nat) (f9 : Nat → Option Nat) (o10 : Nat × List Value), prowR s6.2.2.2.2 r7 = some (n8, f9) ∧ pin p3 n8 = true ∧ s6.2.2.2.2[p1]? = some (.inr o10) ∧ K (sD (sI s6 2002 (p3 + (1 : Int32))) (s6.2.2.2.2.set r7 (.inl (4, n8, .inr (.inr (va_up f9 (p3).toNatClampNeg (some (p1 + 118)))))))))))))
theorem q_300_R20 {d : Nat} {K : ST → Prop} (p1 : Nat) (p2 : Nat) (p3 : Int32) (s : ST) (k : w_300_R20 p1 p2 p3 s K) : Rn sc (d + 5) 300 [.ref 20, .ref (p1 + 118), .ref (p2 + 118), .int p3] (hpS s) (kV K) := by
  have hq : prog[300]? = some pm300 := rfl
  refine Rn.of (L := [.ref 20, .ref (p1 + 118), .ref (p2 + 118), .int p3]) hq rfl rfl ?_
  unfold w_300_R20 at k
  refine Ex.seg hq 2 (j := 2) (L' := [.ref 20, .ref (p1 + 118), .ref (p2 + 118), .int p3]) (S' := [.ref (p2 + 118), .int p3]) (h' := hpS s) rfl ?_
  obtain ⟨n1, f2, e, k⟩ := k
  refine Ex.lnR hq rfl e ?_
  refine Ex.i2 hq rfl (fun c => ?_) (fun c => ?_)
  · have k := k.1 c
    refine Ex.seg hq 3 (j := 10) (L' := [.ref 20, .ref (p1 + 118), .ref (p2 + 118), .int p3]) (S' := [.ref (p1 + 118), .int p3, .ref (p2 + 118)]) (h' := hpS s) rfl ?_
    obtain ⟨n3, f4, o5, e, hin, hy, k⟩ := k
    refine Ex.asd hq rfl e hin hy ?_
    show Ex sc (d + 5) 300 11 [.ref 20, .ref (p1 + 118), .ref (p2 + 118), .int p3] [] (hpS (sD s (s.2.2.2.2.set p2 (.inl (4, n3, .inr (.inr (va_up f4 (p3).toNatClampNeg (some (p1 + 118))))))))) _
    refine Ex.seg hq 5 (j := 16) (L' := [.ref 20, .ref (p1 + 118), .ref (p2 + 118), .int p3]) (S' := []) (h' := hpS (sD (sI s 2002 (p3 + (1 : Int32))) (s.2.2.2.2.set p2 (.inl (4, n3, .inr (.inr (va_up f4 (p3).toNatClampNeg (some (p1 + 118))))))))) rfl ?_
    exact Ex.rt hq rfl rfl ⟨(sD (sI s 2002 (p3 + (1 : Int32))) (s.2.2.2.2.set p2 (.inl (4, n3, .inr (.inr (va_up f4 (p3).toNatClampNeg (some (p1 + 118)))))))), rfl, rfl, k⟩
  · have k := k.2 c
    refine Ex.seg hq 1 (j := 5) (L' := [.ref 20, .ref (p1 + 118), .ref (p2 + 118), .int p3]) (S' := [.ref 20]) (h' := hpS s) rfl ?_
    refine Ex.cl hq rfl rfl ?_
    refine Rn.mono (q_296_R20 (d := d + 0) s k) ?_
    rintro _ _ ⟨r7, s6, rfl, rfl, k⟩
    show Ex sc (d + 5) 300 6 [.ref 20, .ref (p1 + 118), .ref (p2 + 118), .int p3] [.ref (r7 + 118)] (hpS s6) _
    refine Ex.seg hq 4 (j := 10) (L' := [.ref 20, .ref (p1 + 118), .ref (r7 + 118), .int p3]) (S' := [.ref (p1 + 118), .int p3, .ref (r7 + 118)]) (h' := hpS s6) rfl ?_
    obtain ⟨n8, f9, o10, e, hin, hy, k⟩ := k
    refine Ex.asd hq rfl e hin hy ?_
    show Ex sc (d + 5) 300 11 [.ref 20, .ref (p1 + 118), .ref (r7 + 118), .int p3] [] (hpS (sD s6 (s6.2.2.2.2.set r7 (.inl (4, n8, .inr (.inr (va_up f9 (p3).toNatClampNeg (some (p1 + 118))))))))) _
    refine Ex.seg hq 5 (j := 16) (L' := [.ref 20, .ref (p1 + 118), .ref (r7 + 118), .int p3]) (S' := []) (h' := hpS (sD (sI s6 2002 (p3 + (1 : Int32))) (s6.2.2.2.2.set r7 (.inl (4, n8, .inr (.inr (va_up f9 (p3).toNatClampNeg (some (p1 + 118))))))))) rfl ?_
    exact Ex.rt hq rfl rfl ⟨(sD (sI s6 2002 (p3 + (1 : Int32))) (s6.2.2.2.2.set r7 (.inl (4, n8, .inr (.inr (va_up f9 (p3).toNatClampNeg (some (p1 + 118)))))))), rfl, rfl, k⟩
/-- java/util/ArrayList.add(Ljava/lang/Object;)Z -/
def w_301_R20 (p1 : Nat) (s : ST) (K : Int32 → ST → Prop) : Prop := (((s.2.2.2.1 20) = .float 1 ∧ w_300_R20_F1 p1 (s.1 2002) (sI s 2000 ((s.1 2000) + (1 : Int32))) (fun s2 => K (1 : Int32) s2)) ∨ (∃ b1, (s.2.2.2.1 20) = .ref (b1 + 118) ∧ w_300_R20 p1 b1 (s.1 2002) (sI s 2000 ((s.1 2000) + (1 : Int32))) (fun s4 => K (1 : Int32) s4)))
theorem q_301_R20 {d : Nat} {K : Int32 → ST → Prop} (p1 : Nat) (s : ST) (k : w_301_R20 p1 s K) : Rn sc (d + 6) 301 [.ref 20, .ref (p1 + 118)] (hpS s) (kZ K) := by
  have hq : prog[301]? = some pm301 := rfl
  refine Rn.of (L := [.ref 20, .ref (p1 + 118)]) hq rfl rfl ?_
  unfold w_301_R20 at k
  refine Ex.seg hq 9 (j := 9) (L' := [.ref 20, .ref (p1 + 118)]) (S' := [.ref 20, .ref (p1 + 118), .ref 20]) (h' := hpS (sI s 2000 ((s.1 2000) + (1 : Int32)))) rfl ?_
  refine Ex.seg hq 1 (j := 10) (L' := [.ref 20, .ref (p1 + 118)]) (S' := (s.2.2.2.1 20) :: [.ref (p1 + 118), .ref 20]) (h' := hpS (sI s 2000 ((s.1 2000) + (1 : Int32)))) rfl ?_
  rcases k with ⟨e, k⟩ | ⟨b1, e, k⟩
  · rw [e]
    refine Ex.seg hq 2 (j := 12) (L' := [.ref 20, .ref (p1 + 118)]) (S' := [.int (s.1 2002), .float 1, .ref (p1 + 118), .ref 20]) (h' := hpS (sI s 2000 ((s.1 2000) + (1 : Int32)))) rfl ?_
    refine Ex.cl hq rfl rfl ?_
    refine Rn.mono (q_300_R20_F1 (d := d + 0) p1 (s.1 2002) (sI s 2000 ((s.1 2000) + (1 : Int32))) k) ?_
    rintro _ _ ⟨s2, rfl, rfl, k⟩
    show Ex sc (d + 6) 301 13 [.ref 20, .ref (p1 + 118)] [] (hpS s2) _
    refine Ex.seg hq 1 (j := 14) (L' := [.ref 20, .ref (p1 + 118)]) (S' := [.int (1 : Int32)]) (h' := hpS s2) rfl ?_
    exact Ex.zr hq rfl rfl (Or.inr rfl) ⟨(1 : Int32), s2, rfl, (Or.inr rfl), rfl, k⟩
  · rw [e]
    refine Ex.seg hq 2 (j := 12) (L' := [.ref 20, .ref (p1 + 118)]) (S' := [.int (s.1 2002), .ref (b1 + 118), .ref (p1 + 118), .ref 20]) (h' := hpS (sI s 2000 ((s.1 2000) + (1 : Int32)))) rfl ?_
    refine Ex.cl hq rfl rfl ?_
    refine Rn.mono (q_300_R20 (d := d + 0) p1 b1 (s.1 2002) (sI s 2000 ((s.1 2000) + (1 : Int32))) k) ?_
    rintro _ _ ⟨s4, rfl, rfl, k⟩
    show Ex sc (d + 6) 301 13 [.ref 20, .ref (p1 + 118)] [] (hpS s4) _
    refine Ex.seg hq 1 (j := 14) (L' := [.ref 20, .ref (p1 + 118)]) (S' := [.int (1 : Int32)]) (h' := hpS s4) rfl ?_
    exact Ex.zr hq rfl rfl (Or.inr rfl) ⟨(1 : Int32), s4, rfl, (Or.inr rfl), rfl, k⟩
/-- RowAuditor.keep(LRowAuditor$Text;Ljava/util/ArrayList;)I -/
def w_138_R20 (p0 : Nat) (s : ST) (K : Int32 → ST → Prop) : Prop := w_301_R20 p0 s (fun r2 s1 => w_297_R20 s1 (fun r4 s3 => K (r4 - (1 : Int32)) s3))
theorem q_138_R20 {d : Nat} {K : Int32 → ST → Prop} (p0 : Nat) (s : ST) (k : w_138_R20 p0 s K) : Rn sc (d + 7) 138 [.ref (p0 + 118), .ref 20] (hpS s) (kI K) := by
  have hq : prog[138]? = some pm138 := rfl
  refine Rn.of (L := [.ref (p0 + 118), .ref 20]) hq rfl rfl ?_
  unfold w_138_R20 at k
  refine Ex.seg hq 2 (j := 2) (L' := [.ref (p0 + 118), .ref 20]) (S' := [.ref (p0 + 118), .ref 20]) (h' := hpS s) rfl ?_
  refine Ex.cl hq rfl rfl ?_
  refine Rn.mono (q_301_R20 (d := d + 0) p0 s k) ?_
  rintro _ _ ⟨r2, s1, rfl, hzr2, rfl, k⟩
  show Ex sc (d + 7) 138 3 [.ref (p0 + 118), .ref 20] [.int r2] (hpS s1) _
  refine Ex.seg hq 2 (j := 5) (L' := [.ref (p0 + 118), .ref 20]) (S' := [.ref 20]) (h' := hpS s1) rfl ?_
  refine Ex.cl hq rfl rfl ?_
  refine Rn.mono (q_297_R20 (d := d + 6) s1 k) ?_
  rintro _ _ ⟨r4, s3, rfl, rfl, k⟩
  show Ex sc (d + 7) 138 6 [.ref (p0 + 118), .ref 20] [.int r4] (hpS s3) _
  refine Ex.seg hq 2 (j := 8) (L' := [.ref (p0 + 118), .ref 20]) (S' := [.int (r4 - (1 : Int32))]) (h' := hpS s3) rfl ?_
  exact Ex.rt hq rfl rfl ⟨(r4 - (1 : Int32)), s3, rfl, rfl, k⟩
/-- RowAuditor.rule(III)I -/
def w_137 (p1 : Int32) (p2 : Int32) (p3 : Int32) (s : ST) (K : Int32 → ST → Prop) : Prop := w_182 p1 s (fun r2 s1 => ((r2 = 0 → K (-1 : Int32) s1) ∧ (¬ (r2 = 0) → w_182 p2 s1 (fun r4 s3 => ((r4 = 0 → K (-1 : Int32) s3) ∧ (¬ (r4 = 0) → ((p2 < p1 → K (-1 : Int32) s3) ∧ (¬ (p2 < p1) → w_136 p3 (160 : Int32) s3 (fun r6 s5 => ((r6 = 0 → K (-1 : Int32) s5) ∧ (¬ (r6 = 0) → w_297_R20 s5 (fun r8 s7 => ((r8 < (20 : Int32) → w_62 p3 p1 p2 (sI s7 7 (0 : Int32)) (fun r10 s9 => w_60 s9 (fun r12 s11 => ((r12 = 0 → w_138_R20 r10 s11 (fun r14 s13 => K r14 s13)) ∧ (¬ (r12 = 0) → w_61 s11 (fun r16 s15 => K r16 s15)))))) ∧ (¬ (r8 < (20 : Int32)) → K (-1 : Int32) s7))))))))))))))
theorem q_137 {d : Nat} {K : Int32 → ST → Prop} (p1 : Int32) (p2 : Int32) (p3 : Int32) (s : ST) (k : w_137 p1 p2 p3 s K) : Rn sc (d + 66) 137 [.ref 0, .int p1, .int p2, .int p3] (hpS s) (kI K) := by
  have hq : prog[137]? = some pm137 := rfl
  refine Rn.of (L := [.ref 0, .int p1, .int p2, .int p3, pu]) hq rfl rfl ?_
  unfold w_137 at k
  refine Ex.seg hq 1 (j := 1) (L' := [.ref 0, .int p1, .int p2, .int p3, pu]) (S' := [.int p1]) (h' := hpS s) rfl ?_
  refine Ex.cl hq rfl rfl ?_
  refine Rn.mono (q_182 (d := d + 64) p1 s k) ?_
  rintro _ _ ⟨r2, s1, rfl, hzr2, rfl, k⟩
  show Ex sc (d + 66) 137 2 [.ref 0, .int p1, .int p2, .int p3, pu] [.int r2] (hpS s1) _
  refine Ex.i1 hq rfl (fun c => ?_) (fun c => ?_)
  · have k := k.1 c
    refine Ex.seg hq 1 (j := 21) (L' := [.ref 0, .int p1, .int p2, .int p3, pu]) (S' := [.int (-1 : Int32)]) (h' := hpS s1) rfl ?_
    exact Ex.rt hq rfl rfl ⟨(-1 : Int32), s1, rfl, rfl, k⟩
  · have k := k.2 c
    refine Ex.seg hq 1 (j := 4) (L' := [.ref 0, .int p1, .int p2, .int p3, pu]) (S' := [.int p2]) (h' := hpS s1) rfl ?_
    refine Ex.cl hq rfl rfl ?_
    refine Rn.mono (q_182 (d := d + 64) p2 s1 k) ?_
    rintro _ _ ⟨r4, s3, rfl, hzr4, rfl, k⟩
    show Ex sc (d + 66) 137 5 [.ref 0, .int p1, .int p2, .int p3, pu] [.int r4] (hpS s3) _
    refine Ex.i1 hq rfl (fun c => ?_) (fun c => ?_)
    · have k := k.1 c
      refine Ex.seg hq 1 (j := 21) (L' := [.ref 0, .int p1, .int p2, .int p3, pu]) (S' := [.int (-1 : Int32)]) (h' := hpS s3) rfl ?_
      exact Ex.rt hq rfl rfl ⟨(-1 : Int32), s3, rfl, rfl, k⟩
    · have k := k.2 c
      refine Ex.seg hq 2 (j := 8) (L' := [.ref 0, .int p1, .int p2, .int p3, pu]) (S' := [.int p2, .int p1]) (h' := hpS s3) rfl ?_
      refine Ex.i2 hq rfl (fun c => ?_) (fun c => ?_)
      · have k := k.1 c
        refine Ex.seg hq 1 (j := 21) (L' := [.ref 0, .int p1, .int p2, .int p3, pu]) (S' := [.int (-1 : Int32)]) (h' := hpS s3) rfl ?_
        exact Ex.rt hq rfl rfl ⟨(-1 : Int32), s3, rfl, rfl, k⟩
      · have k := k.2 c
        refine Ex.seg hq 3 (j := 12) (L' := [.ref 0, .int p1, .int p2, .int p3, pu]) (S' := [.int (160 : Int32), .int p3, .ref 0]) (h' := hpS s3) rfl ?_
        refine Ex.cl hq rfl rfl ?_
        refine Rn.mono (q_136 (d := d + 64) p3 (160 : Int32) s3 k) ?_
        rintro _ _ ⟨r6, s5, rfl, hzr6, rfl, k⟩
        show Ex sc (d + 66) 137 13 [.ref 0, .int p1, .int p2, .int p3, pu] [.int r6] (hpS s5) _
        refine Ex.i1 hq rfl (fun c => ?_) (fun c => ?_)
        · have k := k.1 c
          refine Ex.seg hq 1 (j := 21) (L' := [.ref 0, .int p1, .int p2, .int p3, pu]) (S' := [.int (-1 : Int32)]) (h' := hpS s5) rfl ?_
          exact Ex.rt hq rfl rfl ⟨(-1 : Int32), s5, rfl, rfl, k⟩
        · have k := k.2 c
          refine Ex.seg hq 3 (j := 17) (L' := [.ref 0, .int p1, .int p2, .int p3, pu]) (S' := [.ref 20]) (h' := hpS s5) rfl ?_
          refine Ex.cl hq rfl rfl ?_
          refine Rn.mono (q_297_R20 (d := d + 65) s5 k) ?_
          rintro _ _ ⟨r8, s7, rfl, rfl, k⟩
          show Ex sc (d + 66) 137 18 [.ref 0, .int p1, .int p2, .int p3, pu] [.int r8] (hpS s7) _
          refine Ex.seg hq 1 (j := 19) (L' := [.ref 0, .int p1, .int p2, .int p3, pu]) (S' := [.int (20 : Int32), .int r8]) (h' := hpS s7) rfl ?_
          refine Ex.i2 hq rfl (fun c => ?_) (fun c => ?_)
          · have k := k.1 c
            refine Ex.seg hq 8 (j := 30) (L' := [.ref 0, .int p1, .int p2, .int p3, pu]) (S' := [.int p2, .int p1, .int p3, .ref 35]) (h' := hpS (sI s7 7 (0 : Int32))) rfl ?_
            refine Ex.cl hq rfl rfl ?_
            refine Rn.mono (q_62 (d := d + 0) p3 p1 p2 (sI s7 7 (0 : Int32)) k) ?_
            rintro _ _ ⟨r10, s9, rfl, rfl, k⟩
            show Ex sc (d + 66) 137 31 [.ref 0, .int p1, .int p2, .int p3, pu] [.ref (r10 + 118)] (hpS s9) _
            refine Ex.seg hq 3 (j := 34) (L' := [.ref 0, .int p1, .int p2, .int p3, .ref (r10 + 118)]) (S' := [.ref 35]) (h' := hpS s9) rfl ?_
            refine Ex.cl hq rfl rfl ?_
            refine Rn.mono (q_60 (d := d + 65) s9 k) ?_
            rintro _ _ ⟨r12, s11, rfl, hzr12, rfl, k⟩
            show Ex sc (d + 66) 137 35 [.ref 0, .int p1, .int p2, .int p3, .ref (r10 + 118)] [.int r12] (hpS s11) _
            refine Ex.i1 hq rfl (fun c => ?_) (fun c => ?_)
            · have k := k.1 c
              refine Ex.seg hq 4 (j := 44) (L' := [.ref 0, .int p1, .int p2, .int p3, .ref (r10 + 118)]) (S' := [.ref 20, .ref (r10 + 118)]) (h' := hpS s11) rfl ?_
              refine Ex.cl hq rfl rfl ?_
              refine Rn.mono (q_138_R20 (d := d + 58) r10 s11 k) ?_
              rintro _ _ ⟨r14, s13, rfl, rfl, k⟩
              show Ex sc (d + 66) 137 45 [.ref 0, .int p1, .int p2, .int p3, .ref (r10 + 118)] [.int r14] (hpS s13) _
              exact Ex.rt hq rfl rfl ⟨r14, s13, rfl, rfl, k⟩
            · have k := k.2 c
              refine Ex.seg hq 2 (j := 38) (L' := [.ref 0, .int p1, .int p2, .int p3, .ref (r10 + 118)]) (S' := [.ref 35]) (h' := hpS s11) rfl ?_
              refine Ex.cl hq rfl rfl ?_
              refine Rn.mono (q_61 (d := d + 65) s11 k) ?_
              rintro _ _ ⟨r16, s15, rfl, rfl, k⟩
              show Ex sc (d + 66) 137 39 [.ref 0, .int p1, .int p2, .int p3, .ref (r10 + 118)] [.int r16] (hpS s15) _
              refine Ex.seg hq 1 (j := 45) (L' := [.ref 0, .int p1, .int p2, .int p3, .ref (r10 + 118)]) (S' := [.int r16]) (h' := hpS s15) rfl ?_
              exact Ex.rt hq rfl rfl ⟨r16, s15, rfl, rfl, k⟩
          · have k := k.2 c
            refine Ex.seg hq 1 (j := 21) (L' := [.ref 0, .int p1, .int p2, .int p3, pu]) (S' := [.int (-1 : Int32)]) (h' := hpS s7) rfl ?_
            exact Ex.rt hq rfl rfl ⟨(-1 : Int32), s7, rfl, rfl, k⟩
/-- RowAuditor.keep(LRowAuditor$Text;Ljava/util/ArrayList;)I -/
def w_138 (p0 : Nat) (p1 : Nat) (s : ST) (K : Int32 → ST → Prop) : Prop := (∃ f3, pob s.2.2.2.2 p1 13 = some f3 ∧ w_301 p1 p0 s (fun r2 s1 => (∃ f6, pob s1.2.2.2.2 p1 13 = some f6 ∧ w_297 p1 s1 (fun r5 s4 => K (r5 - (1 : Int32)) s4))))
theorem q_138 {d : Nat} {K : Int32 → ST → Prop} (p0 : Nat) (p1 : Nat) (s : ST) (k : w_138 p0 p1 s K) : Rn sc (d + 7) 138 [.ref (p0 + 118), .ref (p1 + 118)] (hpS s) (kI K) := by
  have hq : prog[138]? = some pm138 := rfl
  refine Rn.of (L := [.ref (p0 + 118), .ref (p1 + 118)]) hq rfl rfl ?_
  unfold w_138 at k
  refine Ex.seg hq 2 (j := 2) (L' := [.ref (p0 + 118), .ref (p1 + 118)]) (S' := [.ref (p0 + 118), .ref (p1 + 118)]) (h' := hpS s) rfl ?_
  obtain ⟨f3, e, k⟩ := k
  refine Ex.cvd hq rfl rfl e rfl ?_
  refine Rn.mono (q_301 (d := d + 0) p1 p0 s k) ?_
  rintro _ _ ⟨r2, s1, rfl, hzr2, rfl, k⟩
  show Ex sc (d + 7) 138 3 [.ref (p0 + 118), .ref (p1 + 118)] [.int r2] (hpS s1) _
  refine Ex.seg hq 2 (j := 5) (L' := [.ref (p0 + 118), .ref (p1 + 118)]) (S' := [.ref (p1 + 118)]) (h' := hpS s1) rfl ?_
  obtain ⟨f6, e, k⟩ := k
  refine Ex.cvd hq rfl rfl e rfl ?_
  refine Rn.mono (q_297 (d := d + 6) p1 s1 k) ?_
  rintro _ _ ⟨r5, s4, rfl, rfl, k⟩
  show Ex sc (d + 7) 138 6 [.ref (p0 + 118), .ref (p1 + 118)] [.int r5] (hpS s4) _
  refine Ex.seg hq 2 (j := 8) (L' := [.ref (p0 + 118), .ref (p1 + 118)]) (S' := [.int (r5 - (1 : Int32))]) (h' := hpS s4) rfl ?_
  exact Ex.rt hq rfl rfl ⟨(r5 - (1 : Int32)), s4, rfl, rfl, k⟩
/-- RowAuditor.broken(II)I -/
def w_139 (p1 : Int32) (p2 : Int32) (s : ST) (K : Int32 → ST → Prop) : Prop := w_182 p2 s (fun r2 s1 => ((¬ r2 = 0 → w_111 p2 s1 (fun s3 => w_118 p1 s3 (fun r6 s5 => ((r6 = 0 → K (-1 : Int32) s5) ∧ (¬ (r6 = 0) → w_53 p1 s5 (fun r8 s7 => K r8 s7)))))) ∧ (¬ (¬ r2 = 0) → K (-1 : Int32) s1)))
theorem q_139 {d : Nat} {K : Int32 → ST → Prop} (p1 : Int32) (p2 : Int32) (s : ST) (k : w_139 p1 p2 s K) : Rn sc (d + 5) 139 [.ref 0, .int p1, .int p2] (hpS s) (kI K) := by
  have hq : prog[139]? = some pm139 := rfl
  refine Rn.of (L := [.ref 0, .int p1, .int p2]) hq rfl rfl ?_
  unfold w_139 at k
  refine Ex.seg hq 1 (j := 1) (L' := [.ref 0, .int p1, .int p2]) (S' := [.int p2]) (h' := hpS s) rfl ?_
  refine Ex.cl hq rfl rfl ?_
  refine Rn.mono (q_182 (d := d + 3) p2 s k) ?_
  rintro _ _ ⟨r2, s1, rfl, hzr2, rfl, k⟩
  show Ex sc (d + 5) 139 2 [.ref 0, .int p1, .int p2] [.int r2] (hpS s1) _
  refine Ex.i1 hq rfl (fun c => ?_) (fun c => ?_)
  · have k := k.1 c
    refine Ex.seg hq 3 (j := 8) (L' := [.ref 0, .int p1, .int p2]) (S' := [.int p2, .ref 8]) (h' := hpS s1) rfl ?_
    refine Ex.cl hq rfl rfl ?_
    refine Rn.mono (q_111 (d := d + 0) p2 s1 k) ?_
    rintro _ _ ⟨s3, rfl, rfl, k⟩
    show Ex sc (d + 5) 139 9 [.ref 0, .int p1, .int p2] [] (hpS s3) _
    refine Ex.seg hq 3 (j := 12) (L' := [.ref 0, .int p1, .int p2]) (S' := [.int p1, .ref 8]) (h' := hpS s3) rfl ?_
    refine Ex.cl hq rfl rfl ?_
    refine Rn.mono (q_118 (d := d + 4) p1 s3 k) ?_
    rintro _ _ ⟨r6, s5, rfl, hzr6, rfl, k⟩
    show Ex sc (d + 5) 139 13 [.ref 0, .int p1, .int p2] [.int r6] (hpS s5) _
    refine Ex.i1 hq rfl (fun c => ?_) (fun c => ?_)
    · have k := k.1 c
      refine Ex.seg hq 1 (j := 20) (L' := [.ref 0, .int p1, .int p2]) (S' := [.int (-1 : Int32)]) (h' := hpS s5) rfl ?_
      exact Ex.rt hq rfl rfl ⟨(-1 : Int32), s5, rfl, rfl, k⟩
    · have k := k.2 c
      refine Ex.seg hq 3 (j := 17) (L' := [.ref 0, .int p1, .int p2]) (S' := [.int p1, .ref 19]) (h' := hpS s5) rfl ?_
      refine Ex.cl hq rfl rfl ?_
      refine Rn.mono (q_53 (d := d + 0) p1 s5 k) ?_
      rintro _ _ ⟨r8, s7, rfl, rfl, k⟩
      show Ex sc (d + 5) 139 18 [.ref 0, .int p1, .int p2] [.int r8] (hpS s7) _
      refine Ex.seg hq 1 (j := 20) (L' := [.ref 0, .int p1, .int p2]) (S' := [.int r8]) (h' := hpS s7) rfl ?_
      exact Ex.rt hq rfl rfl ⟨r8, s7, rfl, rfl, k⟩
  · have k := k.2 c
    refine Ex.seg hq 1 (j := 4) (L' := [.ref 0, .int p1, .int p2]) (S' := [.int (-1 : Int32)]) (h' := hpS s1) rfl ?_
    exact Ex.rt hq rfl rfl ⟨(-1 : Int32), s1, rfl, rfl, k⟩
/-- RowAuditor.isHand(I)Z -/
def w_183 (p0 : Int32) (s : ST) (K : Int32 → ST → Prop) : Prop := w_181 p0 (0 : Int32) (15 : Int32) s (fun r2 s1 => K r2 s1)
theorem q_183 {d : Nat} {K : Int32 → ST → Prop} (p0 : Int32) (s : ST) (k : w_183 p0 s K) : Rn sc (d + 1) 183 [.int p0] (hpS s) (kZ K) := by
  have hq : prog[183]? = some pm183 := rfl
  refine Rn.of (L := [.int p0]) hq rfl rfl ?_
  unfold w_183 at k
  refine Ex.seg hq 3 (j := 3) (L' := [.int p0]) (S' := [.int (15 : Int32), .int (0 : Int32), .int p0]) (h' := hpS s) rfl ?_
  refine Ex.cl hq rfl rfl ?_
  refine Rn.mono (q_181 (d := d + 0) p0 (0 : Int32) (15 : Int32) s k) ?_
  rintro _ _ ⟨r2, s1, rfl, hzr2, rfl, k⟩
  show Ex sc (d + 1) 183 4 [.int p0] [.int r2] (hpS s1) _
  exact Ex.zr hq rfl rfl hzr2 ⟨r2, s1, rfl, hzr2, rfl, k⟩
end WP
