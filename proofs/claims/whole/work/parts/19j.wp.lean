/-! ===== weakest preconditions, printed by wip/whole/genwp.py ===== -/
section WP
variable {sc : Nat × (Nat → Int32)}
/-- RowAuditor.now(I)Z -/
def w_127 (p1 : Int32) (s : ST) (K : Int32 → ST → Prop) : Prop := w_181 p1 (s.1 100) (3999 : Int32) s (fun r2 s1 => ((¬ r2 = 0 → K (1 : Int32) (sI s1 100 p1)) ∧ (¬ (¬ r2 = 0) → K (0 : Int32) s1)))
theorem q_127 {d : Nat} {K : Int32 → ST → Prop} (p1 : Int32) (s : ST) (k : w_127 p1 s K) : Rn sc (d + 1) 127 [.ref 0, .int p1] (hpS s) (kZ K) := by
  have hq : prog[127]? = some pm127 := rfl
  refine Rn.of (L := [.ref 0, .int p1]) hq rfl rfl ?_
  unfold w_127 at k
  refine Ex.seg hq 5 (j := 5) (L' := [.ref 0, .int p1]) (S' := [.int (3999 : Int32), .int (s.1 100), .int p1]) (h' := hpS s) rfl ?_
  refine Ex.cl hq rfl rfl ?_
  refine Rn.mono (q_181 (d := d + 0) p1 (s.1 100) (3999 : Int32) s k) ?_
  rintro _ _ ⟨r2, s1, rfl, hzr2, rfl, k⟩
  show Ex sc (d + 1) 127 6 [.ref 0, .int p1] [.int r2] (hpS s1) _
  refine Ex.i1 hq rfl (fun c => ?_) (fun c => ?_)
  · have k := k.1 c
    refine Ex.seg hq 5 (j := 14) (L' := [.ref 0, .int p1]) (S' := [.int (1 : Int32)]) (h' := hpS (sI s1 100 p1)) rfl ?_
    exact Ex.zr hq rfl rfl (Or.inr rfl) ⟨(1 : Int32), (sI s1 100 p1), rfl, (Or.inr rfl), rfl, k⟩
  · have k := k.2 c
    refine Ex.seg hq 1 (j := 8) (L' := [.ref 0, .int p1]) (S' := [.int (0 : Int32)]) (h' := hpS s1) rfl ?_
    exact Ex.zr hq rfl rfl (Or.inl rfl) ⟨(0 : Int32), s1, rfl, (Or.inl rfl), rfl, k⟩
/-- RowAuditor.house(I)I -/
def w_128 (p1 : Int32) (s : ST) (K : Int32 → ST → Prop) : Prop := w_181 p1 (0 : Int32) (1000000 : Int32) s (fun r2 s1 => ((r2 = 0 → K (-1 : Int32) s1) ∧ (¬ (r2 = 0) → (((s1.1 101) < (10 : Int32) → w_3 p1 s1 (fun r4 s3 => K r4 s3)) ∧ (¬ ((s1.1 101) < (10 : Int32)) → K (-1 : Int32) s1)))))
theorem q_128 {d : Nat} {K : Int32 → ST → Prop} (p1 : Int32) (s : ST) (k : w_128 p1 s K) : Rn sc (d + 1) 128 [.ref 0, .int p1] (hpS s) (kI K) := by
  have hq : prog[128]? = some pm128 := rfl
  refine Rn.of (L := [.ref 0, .int p1]) hq rfl rfl ?_
  unfold w_128 at k
  refine Ex.seg hq 3 (j := 3) (L' := [.ref 0, .int p1]) (S' := [.int (1000000 : Int32), .int (0 : Int32), .int p1]) (h' := hpS s) rfl ?_
  refine Ex.cl hq rfl rfl ?_
  refine Rn.mono (q_181 (d := d + 0) p1 (0 : Int32) (1000000 : Int32) s k) ?_
  rintro _ _ ⟨r2, s1, rfl, hzr2, rfl, k⟩
  show Ex sc (d + 1) 128 4 [.ref 0, .int p1] [.int r2] (hpS s1) _
  refine Ex.i1 hq rfl (fun c => ?_) (fun c => ?_)
  · have k := k.1 c
    refine Ex.seg hq 1 (j := 11) (L' := [.ref 0, .int p1]) (S' := [.int (-1 : Int32)]) (h' := hpS s1) rfl ?_
    exact Ex.rt hq rfl rfl ⟨(-1 : Int32), s1, rfl, rfl, k⟩
  · have k := k.2 c
    refine Ex.seg hq 4 (j := 9) (L' := [.ref 0, .int p1]) (S' := [.int (10 : Int32), .int (s1.1 101)]) (h' := hpS s1) rfl ?_
    refine Ex.i2 hq rfl (fun c => ?_) (fun c => ?_)
    · have k := k.1 c
      refine Ex.seg hq 3 (j := 15) (L' := [.ref 0, .int p1]) (S' := [.int p1, .ref 1]) (h' := hpS s1) rfl ?_
      refine Ex.cl hq rfl rfl ?_
      refine Rn.mono (q_3 (d := d + 0) p1 s1 k) ?_
      rintro _ _ ⟨r4, s3, rfl, rfl, k⟩
      show Ex sc (d + 1) 128 16 [.ref 0, .int p1] [.int r4] (hpS s3) _
      exact Ex.rt hq rfl rfl ⟨r4, s3, rfl, rfl, k⟩
    · have k := k.2 c
      refine Ex.seg hq 1 (j := 11) (L' := [.ref 0, .int p1]) (S' := [.int (-1 : Int32)]) (h' := hpS s1) rfl ?_
      exact Ex.rt hq rfl rfl ⟨(-1 : Int32), s1, rfl, rfl, k⟩
/-- RowAuditor.isOther(III)Z -/
def w_130 (p1 : Int32) (p2 : Int32) (p3 : Int32) (s : ST) (K : Int32 → ST → Prop) : Prop := ((¬ p1 = (3 : Int32) → ((¬ p1 = (2 : Int32) → w_181 p3 (0 : Int32) (19 : Int32) s (fun r2 s1 => K r2 s1)) ∧ (¬ (¬ p1 = (2 : Int32)) → w_1 p3 s (fun r4 s3 => ((r4 = 0 → K (0 : Int32) s3) ∧ (¬ (r4 = 0) → ((p3 = p2 → K (0 : Int32) s3) ∧ (¬ (p3 = p2) → K (1 : Int32) s3)))))))) ∧ (¬ (¬ p1 = (3 : Int32)) → ((¬ p3 = (-1 : Int32) → K (0 : Int32) s) ∧ (¬ (¬ p3 = (-1 : Int32)) → K (1 : Int32) s))))
theorem q_130 {d : Nat} {K : Int32 → ST → Prop} (p1 : Int32) (p2 : Int32) (p3 : Int32) (s : ST) (k : w_130 p1 p2 p3 s K) : Rn sc (d + 1) 130 [.ref 0, .int p1, .int p2, .int p3] (hpS s) (kZ K) := by
  have hq : prog[130]? = some pm130 := rfl
  refine Rn.of (L := [.ref 0, .int p1, .int p2, .int p3]) hq rfl rfl ?_
  unfold w_130 at k
  refine Ex.seg hq 2 (j := 2) (L' := [.ref 0, .int p1, .int p2, .int p3]) (S' := [.int (3 : Int32), .int p1]) (h' := hpS s) rfl ?_
  refine Ex.i2 hq rfl (fun c => ?_) (fun c => ?_)
  · have k := k.1 c
    refine Ex.seg hq 2 (j := 12) (L' := [.ref 0, .int p1, .int p2, .int p3]) (S' := [.int (2 : Int32), .int p1]) (h' := hpS s) rfl ?_
    refine Ex.i2 hq rfl (fun c => ?_) (fun c => ?_)
    · have k := k.1 c
      refine Ex.seg hq 3 (j := 28) (L' := [.ref 0, .int p1, .int p2, .int p3]) (S' := [.int (19 : Int32), .int (0 : Int32), .int p3]) (h' := hpS s) rfl ?_
      refine Ex.cl hq rfl rfl ?_
      refine Rn.mono (q_181 (d := d + 0) p3 (0 : Int32) (19 : Int32) s k) ?_
      rintro _ _ ⟨r2, s1, rfl, hzr2, rfl, k⟩
      show Ex sc (d + 1) 130 29 [.ref 0, .int p1, .int p2, .int p3] [.int r2] (hpS s1) _
      exact Ex.zr hq rfl rfl hzr2 ⟨r2, s1, rfl, hzr2, rfl, k⟩
    · have k := k.2 c
      refine Ex.seg hq 3 (j := 16) (L' := [.ref 0, .int p1, .int p2, .int p3]) (S' := [.int p3, .ref 1]) (h' := hpS s) rfl ?_
      refine Ex.cl hq rfl rfl ?_
      refine Rn.mono (q_1 (d := d + 0) p3 s k) ?_
      rintro _ _ ⟨r4, s3, rfl, hzr4, rfl, k⟩
      show Ex sc (d + 1) 130 17 [.ref 0, .int p1, .int p2, .int p3] [.int r4] (hpS s3) _
      refine Ex.i1 hq rfl (fun c => ?_) (fun c => ?_)
      · have k := k.1 c
        refine Ex.seg hq 1 (j := 24) (L' := [.ref 0, .int p1, .int p2, .int p3]) (S' := [.int (0 : Int32)]) (h' := hpS s3) rfl ?_
        exact Ex.zr hq rfl rfl (Or.inl rfl) ⟨(0 : Int32), s3, rfl, (Or.inl rfl), rfl, k⟩
      · have k := k.2 c
        refine Ex.seg hq 2 (j := 20) (L' := [.ref 0, .int p1, .int p2, .int p3]) (S' := [.int p2, .int p3]) (h' := hpS s3) rfl ?_
        refine Ex.i2 hq rfl (fun c => ?_) (fun c => ?_)
        · have k := k.1 c
          refine Ex.seg hq 1 (j := 24) (L' := [.ref 0, .int p1, .int p2, .int p3]) (S' := [.int (0 : Int32)]) (h' := hpS s3) rfl ?_
          exact Ex.zr hq rfl rfl (Or.inl rfl) ⟨(0 : Int32), s3, rfl, (Or.inl rfl), rfl, k⟩
        · have k := k.2 c
          refine Ex.seg hq 2 (j := 24) (L' := [.ref 0, .int p1, .int p2, .int p3]) (S' := [.int (1 : Int32)]) (h' := hpS s3) rfl ?_
          exact Ex.zr hq rfl rfl (Or.inr rfl) ⟨(1 : Int32), s3, rfl, (Or.inr rfl), rfl, k⟩
  · have k := k.2 c
    refine Ex.seg hq 2 (j := 5) (L' := [.ref 0, .int p1, .int p2, .int p3]) (S' := [.int (-1 : Int32), .int p3]) (h' := hpS s) rfl ?_
    refine Ex.i2 hq rfl (fun c => ?_) (fun c => ?_)
    · have k := k.1 c
      refine Ex.seg hq 1 (j := 9) (L' := [.ref 0, .int p1, .int p2, .int p3]) (S' := [.int (0 : Int32)]) (h' := hpS s) rfl ?_
      exact Ex.zr hq rfl rfl (Or.inl rfl) ⟨(0 : Int32), s, rfl, (Or.inl rfl), rfl, k⟩
    · have k := k.2 c
      refine Ex.seg hq 2 (j := 9) (L' := [.ref 0, .int p1, .int p2, .int p3]) (S' := [.int (1 : Int32)]) (h' := hpS s) rfl ?_
      exact Ex.zr hq rfl rfl (Or.inr rfl) ⟨(1 : Int32), s, rfl, (Or.inr rfl), rfl, k⟩
/-- RowAuditor.mend(II)Z -/
def w_131 (p1 : Int32) (p2 : Int32) (s : ST) (K : Int32 → ST → Prop) : Prop := w_2 p1 s (fun r2 s1 => ((r2 = 0 → K (0 : Int32) s1) ∧ (¬ (r2 = 0) → w_181 p2 (0 : Int32) (1000000 : Int32) s1 (fun r4 s3 => ((r4 = 0 → K (0 : Int32) s3) ∧ (¬ (r4 = 0) → (((s3.1 103) < (100 : Int32) → w_111 (s3.1 100) s3 (fun s5 => w_118 p1 s5 (fun r8 s7 => ((¬ r8 = 0 → w_11 p1 p2 s7 (fun s9 => K (1 : Int32) s9)) ∧ (¬ (¬ r8 = 0) → K (0 : Int32) s7))))) ∧ (¬ ((s3.1 103) < (100 : Int32)) → K (0 : Int32) s3))))))))
theorem q_131 {d : Nat} {K : Int32 → ST → Prop} (p1 : Int32) (p2 : Int32) (s : ST) (k : w_131 p1 p2 s K) : Rn sc (d + 5) 131 [.ref 0, .int p1, .int p2] (hpS s) (kZ K) := by
  have hq : prog[131]? = some pm131 := rfl
  refine Rn.of (L := [.ref 0, .int p1, .int p2]) hq rfl rfl ?_
  unfold w_131 at k
  refine Ex.seg hq 3 (j := 3) (L' := [.ref 0, .int p1, .int p2]) (S' := [.int p1, .ref 1]) (h' := hpS s) rfl ?_
  refine Ex.cl hq rfl rfl ?_
  refine Rn.mono (q_2 (d := d + 4) p1 s k) ?_
  rintro _ _ ⟨r2, s1, rfl, hzr2, rfl, k⟩
  show Ex sc (d + 5) 131 4 [.ref 0, .int p1, .int p2] [.int r2] (hpS s1) _
  refine Ex.i1 hq rfl (fun c => ?_) (fun c => ?_)
  · have k := k.1 c
    refine Ex.seg hq 1 (j := 16) (L' := [.ref 0, .int p1, .int p2]) (S' := [.int (0 : Int32)]) (h' := hpS s1) rfl ?_
    exact Ex.zr hq rfl rfl (Or.inl rfl) ⟨(0 : Int32), s1, rfl, (Or.inl rfl), rfl, k⟩
  · have k := k.2 c
    refine Ex.seg hq 3 (j := 8) (L' := [.ref 0, .int p1, .int p2]) (S' := [.int (1000000 : Int32), .int (0 : Int32), .int p2]) (h' := hpS s1) rfl ?_
    refine Ex.cl hq rfl rfl ?_
    refine Rn.mono (q_181 (d := d + 4) p2 (0 : Int32) (1000000 : Int32) s1 k) ?_
    rintro _ _ ⟨r4, s3, rfl, hzr4, rfl, k⟩
    show Ex sc (d + 5) 131 9 [.ref 0, .int p1, .int p2] [.int r4] (hpS s3) _
    refine Ex.i1 hq rfl (fun c => ?_) (fun c => ?_)
    · have k := k.1 c
      refine Ex.seg hq 1 (j := 16) (L' := [.ref 0, .int p1, .int p2]) (S' := [.int (0 : Int32)]) (h' := hpS s3) rfl ?_
      exact Ex.zr hq rfl rfl (Or.inl rfl) ⟨(0 : Int32), s3, rfl, (Or.inl rfl), rfl, k⟩
    · have k := k.2 c
      refine Ex.seg hq 4 (j := 14) (L' := [.ref 0, .int p1, .int p2]) (S' := [.int (100 : Int32), .int (s3.1 103)]) (h' := hpS s3) rfl ?_
      refine Ex.i2 hq rfl (fun c => ?_) (fun c => ?_)
      · have k := k.1 c
        refine Ex.seg hq 5 (j := 22) (L' := [.ref 0, .int p1, .int p2]) (S' := [.int (s3.1 100), .ref 8]) (h' := hpS s3) rfl ?_
        refine Ex.cl hq rfl rfl ?_
        refine Rn.mono (q_111 (d := d + 0) (s3.1 100) s3 k) ?_
        rintro _ _ ⟨s5, rfl, rfl, k⟩
        show Ex sc (d + 5) 131 23 [.ref 0, .int p1, .int p2] [] (hpS s5) _
        refine Ex.seg hq 3 (j := 26) (L' := [.ref 0, .int p1, .int p2]) (S' := [.int p1, .ref 8]) (h' := hpS s5) rfl ?_
        refine Ex.cl hq rfl rfl ?_
        refine Rn.mono (q_118 (d := d + 4) p1 s5 k) ?_
        rintro _ _ ⟨r8, s7, rfl, hzr8, rfl, k⟩
        show Ex sc (d + 5) 131 27 [.ref 0, .int p1, .int p2] [.int r8] (hpS s7) _
        refine Ex.i1 hq rfl (fun c => ?_) (fun c => ?_)
        · have k := k.1 c
          refine Ex.seg hq 4 (j := 34) (L' := [.ref 0, .int p1, .int p2]) (S' := [.int p2, .int p1, .ref 1]) (h' := hpS s7) rfl ?_
          refine Ex.cl hq rfl rfl ?_
          refine Rn.mono (q_11 (d := d + 4) p1 p2 s7 k) ?_
          rintro _ _ ⟨s9, rfl, rfl, k⟩
          show Ex sc (d + 5) 131 35 [.ref 0, .int p1, .int p2] [] (hpS s9) _
          refine Ex.seg hq 1 (j := 36) (L' := [.ref 0, .int p1, .int p2]) (S' := [.int (1 : Int32)]) (h' := hpS s9) rfl ?_
          exact Ex.zr hq rfl rfl (Or.inr rfl) ⟨(1 : Int32), s9, rfl, (Or.inr rfl), rfl, k⟩
        · have k := k.2 c
          refine Ex.seg hq 1 (j := 29) (L' := [.ref 0, .int p1, .int p2]) (S' := [.int (0 : Int32)]) (h' := hpS s7) rfl ?_
          exact Ex.zr hq rfl rfl (Or.inl rfl) ⟨(0 : Int32), s7, rfl, (Or.inl rfl), rfl, k⟩
      · have k := k.2 c
        refine Ex.seg hq 1 (j := 16) (L' := [.ref 0, .int p1, .int p2]) (S' := [.int (0 : Int32)]) (h' := hpS s3) rfl ?_
        exact Ex.zr hq rfl rfl (Or.inl rfl) ⟨(0 : Int32), s3, rfl, (Or.inl rfl), rfl, k⟩
/-- RowAuditor.isDay(I)Z -/
def w_182 (p0 : Int32) (s : ST) (K : Int32 → ST → Prop) : Prop := w_181 p0 (0 : Int32) (3999 : Int32) s (fun r2 s1 => K r2 s1)
theorem q_182 {d : Nat} {K : Int32 → ST → Prop} (p0 : Int32) (s : ST) (k : w_182 p0 s K) : Rn sc (d + 1) 182 [.int p0] (hpS s) (kZ K) := by
  have hq : prog[182]? = some pm182 := rfl
  refine Rn.of (L := [.int p0]) hq rfl rfl ?_
  unfold w_182 at k
  refine Ex.seg hq 3 (j := 3) (L' := [.int p0]) (S' := [.int (3999 : Int32), .int (0 : Int32), .int p0]) (h' := hpS s) rfl ?_
  refine Ex.cl hq rfl rfl ?_
  refine Rn.mono (q_181 (d := d + 0) p0 (0 : Int32) (3999 : Int32) s k) ?_
  rintro _ _ ⟨r2, s1, rfl, hzr2, rfl, k⟩
  show Ex sc (d + 1) 182 4 [.int p0] [.int r2] (hpS s1) _
  exact Ex.zr hq rfl rfl hzr2 ⟨r2, s1, rfl, hzr2, rfl, k⟩
/-- RowAuditor.known(III)I -/
def w_132 (p1 : Int32) (p2 : Int32) (p3 : Int32) (s : ST) (K : Int32 → ST → Prop) : Prop := w_182 p2 s (fun r2 s1 => ((r2 = 0 → K (-1 : Int32) s1) ∧ (¬ (r2 = 0) → w_181 p3 (0 : Int32) (1 : Int32) s1 (fun r4 s3 => ((¬ r4 = 0 → w_111 p2 s3 (fun s5 => w_118 p1 s5 (fun r8 s7 => ((¬ r8 = 0 → ((¬ p3 = 0 → w_120 p1 s7 (fun r10 s9 => K r10 s9)) ∧ (¬ (¬ p3 = 0) → w_119 p1 s7 (fun r12 s11 => K r12 s11)))) ∧ (¬ (¬ r8 = 0) → K (-1 : Int32) s7))))) ∧ (¬ (¬ r4 = 0) → K (-1 : Int32) s3))))))
theorem q_132 {d : Nat} {K : Int32 → ST → Prop} (p1 : Int32) (p2 : Int32) (p3 : Int32) (s : ST) (k : w_132 p1 p2 p3 s K) : Rn sc (d + 5) 132 [.ref 0, .int p1, .int p2, .int p3] (hpS s) (kI K) := by
  have hq : prog[132]? = some pm132 := rfl
  refine Rn.of (L := [.ref 0, .int p1, .int p2, .int p3]) hq rfl rfl ?_
  unfold w_132 at k
  refine Ex.seg hq 1 (j := 1) (L' := [.ref 0, .int p1, .int p2, .int p3]) (S' := [.int p2]) (h' := hpS s) rfl ?_
  refine Ex.cl hq rfl rfl ?_
  refine Rn.mono (q_182 (d := d + 3) p2 s k) ?_
  rintro _ _ ⟨r2, s1, rfl, hzr2, rfl, k⟩
  show Ex sc (d + 5) 132 2 [.ref 0, .int p1, .int p2, .int p3] [.int r2] (hpS s1) _
  refine Ex.i1 hq rfl (fun c => ?_) (fun c => ?_)
  · have k := k.1 c
    refine Ex.seg hq 1 (j := 9) (L' := [.ref 0, .int p1, .int p2, .int p3]) (S' := [.int (-1 : Int32)]) (h' := hpS s1) rfl ?_
    exact Ex.rt hq rfl rfl ⟨(-1 : Int32), s1, rfl, rfl, k⟩
  · have k := k.2 c
    refine Ex.seg hq 3 (j := 6) (L' := [.ref 0, .int p1, .int p2, .int p3]) (S' := [.int (1 : Int32), .int (0 : Int32), .int p3]) (h' := hpS s1) rfl ?_
    refine Ex.cl hq rfl rfl ?_
    refine Rn.mono (q_181 (d := d + 4) p3 (0 : Int32) (1 : Int32) s1 k) ?_
    rintro _ _ ⟨r4, s3, rfl, hzr4, rfl, k⟩
    show Ex sc (d + 5) 132 7 [.ref 0, .int p1, .int p2, .int p3] [.int r4] (hpS s3) _
    refine Ex.i1 hq rfl (fun c => ?_) (fun c => ?_)
    · have k := k.1 c
      refine Ex.seg hq 3 (j := 13) (L' := [.ref 0, .int p1, .int p2, .int p3]) (S' := [.int p2, .ref 8]) (h' := hpS s3) rfl ?_
      refine Ex.cl hq rfl rfl ?_
      refine Rn.mono (q_111 (d := d + 0) p2 s3 k) ?_
      rintro _ _ ⟨s5, rfl, rfl, k⟩
      show Ex sc (d + 5) 132 14 [.ref 0, .int p1, .int p2, .int p3] [] (hpS s5) _
      refine Ex.seg hq 3 (j := 17) (L' := [.ref 0, .int p1, .int p2, .int p3]) (S' := [.int p1, .ref 8]) (h' := hpS s5) rfl ?_
      refine Ex.cl hq rfl rfl ?_
      refine Rn.mono (q_118 (d := d + 4) p1 s5 k) ?_
      rintro _ _ ⟨r8, s7, rfl, hzr8, rfl, k⟩
      show Ex sc (d + 5) 132 18 [.ref 0, .int p1, .int p2, .int p3] [.int r8] (hpS s7) _
      refine Ex.i1 hq rfl (fun c => ?_) (fun c => ?_)
      · have k := k.1 c
        refine Ex.seg hq 1 (j := 22) (L' := [.ref 0, .int p1, .int p2, .int p3]) (S' := [.int p3]) (h' := hpS s7) rfl ?_
        refine Ex.i1 hq rfl (fun c => ?_) (fun c => ?_)
        · have k := k.1 c
          refine Ex.seg hq 3 (j := 31) (L' := [.ref 0, .int p1, .int p2, .int p3]) (S' := [.int p1, .ref 8]) (h' := hpS s7) rfl ?_
          refine Ex.cl hq rfl rfl ?_
          refine Rn.mono (q_120 (d := d + 4) p1 s7 k) ?_
          rintro _ _ ⟨r10, s9, rfl, rfl, k⟩
          show Ex sc (d + 5) 132 32 [.ref 0, .int p1, .int p2, .int p3] [.int r10] (hpS s9) _
          exact Ex.rt hq rfl rfl ⟨r10, s9, rfl, rfl, k⟩
        · have k := k.2 c
          refine Ex.seg hq 3 (j := 26) (L' := [.ref 0, .int p1, .int p2, .int p3]) (S' := [.int p1, .ref 8]) (h' := hpS s7) rfl ?_
          refine Ex.cl hq rfl rfl ?_
          refine Rn.mono (q_119 (d := d + 4) p1 s7 k) ?_
          rintro _ _ ⟨r12, s11, rfl, rfl, k⟩
          show Ex sc (d + 5) 132 27 [.ref 0, .int p1, .int p2, .int p3] [.int r12] (hpS s11) _
          refine Ex.seg hq 1 (j := 32) (L' := [.ref 0, .int p1, .int p2, .int p3]) (S' := [.int r12]) (h' := hpS s11) rfl ?_
          exact Ex.rt hq rfl rfl ⟨r12, s11, rfl, rfl, k⟩
      · have k := k.2 c
        refine Ex.seg hq 1 (j := 20) (L' := [.ref 0, .int p1, .int p2, .int p3]) (S' := [.int (-1 : Int32)]) (h' := hpS s7) rfl ?_
        exact Ex.rt hq rfl rfl ⟨(-1 : Int32), s7, rfl, rfl, k⟩
    · have k := k.2 c
      refine Ex.seg hq 1 (j := 9) (L' := [.ref 0, .int p1, .int p2, .int p3]) (S' := [.int (-1 : Int32)]) (h' := hpS s3) rfl ?_
      exact Ex.rt hq rfl rfl ⟨(-1 : Int32), s3, rfl, rfl, k⟩
def w_133_L24 : Nat → Int32 → Int32 → Int32 → Int32 → ST → (Int32 → ST → Prop) → (Int32 → ST → Prop) → (Int32 → ST → Prop) → Prop
  | 0, _, _, _, _, _, _, _, _ => False
  | n + 1, x1, x2, x4, x5, s, X57, X41, K => (((s.1 801) ≤ x5 → X57 x4 s) ∧ (¬ ((s.1 801) ≤ x5) → w_123 x5 s (fun r12 s11 => w_9 r12 (3 : Int32) s11 (fun r14 s13 => ((r14 ≤ x2 → w_119 r12 s13 (fun r16 s15 => w_17 r12 x1 s15 (fun r18 s17 => w_133_L24 n x1 x2 (x4 + (r16 * r18)) (x5 + (1 : Int32)) s17 X57 X41 K))) ∧ (¬ (r14 ≤ x2) → X41 x4 s13))))))
theorem q_133_L24 {d : Nat} {X57 : Int32 → ST → Prop} {X41 : Int32 → ST → Prop} {K : Int32 → ST → Prop} : ∀ (n : Nat) (x1 : Int32) (x2 : Int32) (x4 : Int32) (x5 : Int32) (s : ST), w_133_L24 n x1 x2 x4 x5 s X57 X41 K → (∀ (y4 : Int32) (s : ST), X57 y4 s → Ex sc (d + 5) 133 57 [pu, pu, pu, pu, .int y4, pu, pu] [] (hpS s) (kI K)) → (∀ (y4 : Int32) (s : ST), X41 y4 s → Ex sc (d + 5) 133 41 [pu, pu, pu, pu, .int y4, pu, pu] [] (hpS s) (kI K)) → Ex sc (d + 5) 133 24 [.ref 0, .int x1, .int x2, pu, .int x4, .int x5, pu] [] (hpS s) (kI K) := by
  have hq : prog[133]? = some pm133 := rfl
  intro n
  induction n with
  | zero =>
    intro x1 x2 x4 x5 s k
    exact k.elim
  | succ n ih =>
    intro x1 x2 x4 x5 s k hX57 hX41
    rw [w_133_L24] at k
    refine Ex.seg hq 4 (j := 28) (L' := [.ref 0, .int x1, .int x2, pu, .int x4, .int x5, pu]) (S' := [.int (s.1 801), .int x5]) (h' := hpS s) rfl ?_
    refine Ex.i2 hq rfl (fun c => ?_) (fun c => ?_)
    · have k := k.1 c
      refine Ex.fg (L := [pu, pu, pu, pu, .int x4, pu, pu]) ⟨Or.inr ⟨rfl, rfl⟩, ⟨Or.inr ⟨rfl, rfl⟩, ⟨Or.inr ⟨rfl, rfl⟩, ⟨Or.inl rfl, ⟨Or.inl rfl, ⟨Or.inr ⟨rfl, rfl⟩, ⟨Or.inl rfl, trivial⟩⟩⟩⟩⟩⟩⟩ ?_
      exact hX57 x4 s k
    · have k := k.2 c
      refine Ex.seg hq 3 (j := 32) (L' := [.ref 0, .int x1, .int x2, pu, .int x4, .int x5, pu]) (S' := [.int x5, .ref 8]) (h' := hpS s) rfl ?_
      refine Ex.cl hq rfl rfl ?_
      refine Rn.mono (q_123 (d := d + 4) x5 s k) ?_
      rintro _ _ ⟨r12, s11, rfl, rfl, k⟩
      show Ex sc (d + 5) 133 33 [.ref 0, .int x1, .int x2, pu, .int x4, .int x5, pu] [.int r12] (hpS s11) _
      refine Ex.seg hq 5 (j := 38) (L' := [.ref 0, .int x1, .int x2, pu, .int x4, .int x5, .int r12]) (S' := [.int (3 : Int32), .int r12, .ref 1]) (h' := hpS s11) rfl ?_
      refine Ex.cl hq rfl rfl ?_
      refine Rn.mono (q_9 (d := d + 4) r12 (3 : Int32) s11 k) ?_
      rintro _ _ ⟨r14, s13, rfl, rfl, k⟩
      show Ex sc (d + 5) 133 39 [.ref 0, .int x1, .int x2, pu, .int x4, .int x5, .int r12] [.int r14] (hpS s13) _
      refine Ex.seg hq 1 (j := 40) (L' := [.ref 0, .int x1, .int x2, pu, .int x4, .int x5, .int r12]) (S' := [.int x2, .int r14]) (h' := hpS s13) rfl ?_
      refine Ex.i2 hq rfl (fun c => ?_) (fun c => ?_)
      · have k := k.1 c
        refine Ex.seg hq 4 (j := 46) (L' := [.ref 0, .int x1, .int x2, pu, .int x4, .int x5, .int r12]) (S' := [.int r12, .ref 8, .int x4]) (h' := hpS s13) rfl ?_
        refine Ex.cl hq rfl rfl ?_
        refine Rn.mono (q_119 (d := d + 4) r12 s13 k) ?_
        rintro _ _ ⟨r16, s15, rfl, rfl, k⟩
        show Ex sc (d + 5) 133 47 [.ref 0, .int x1, .int x2, pu, .int x4, .int x5, .int r12] [.int r16, .int x4] (hpS s15) _
        refine Ex.seg hq 4 (j := 51) (L' := [.ref 0, .int x1, .int x2, pu, .int x4, .int x5, .int r12]) (S' := [.int x1, .int r12, .ref 1, .int r16, .int x4]) (h' := hpS s15) rfl ?_
        refine Ex.cl hq rfl rfl ?_
        refine Rn.mono (q_17 (d := d + 2) r12 x1 s15 k) ?_
        rintro _ _ ⟨r18, s17, rfl, rfl, k⟩
        show Ex sc (d + 5) 133 52 [.ref 0, .int x1, .int x2, pu, .int x4, .int x5, .int r12] [.int r18, .int r16, .int x4] (hpS s17) _
        refine Ex.seg hq 5 (j := 24) (L' := [.ref 0, .int x1, .int x2, pu, .int (x4 + (r16 * r18)), .int (x5 + (1 : Int32)), .int r12]) (S' := []) (h' := hpS s17) rfl ?_
        refine Ex.fg (L := [.ref 0, .int x1, .int x2, pu, .int (x4 + (r16 * r18)), .int (x5 + (1 : Int32)), pu]) ⟨Or.inl rfl, ⟨Or.inl rfl, ⟨Or.inl rfl, ⟨Or.inl rfl, ⟨Or.inl rfl, ⟨Or.inl rfl, ⟨Or.inr ⟨rfl, rfl⟩, trivial⟩⟩⟩⟩⟩⟩⟩ ?_
        exact ih x1 x2 (x4 + (r16 * r18)) (x5 + (1 : Int32)) s17 k hX57 hX41
      · have k := k.2 c
        refine Ex.fg (L := [pu, pu, pu, pu, .int x4, pu, pu]) ⟨Or.inr ⟨rfl, rfl⟩, ⟨Or.inr ⟨rfl, rfl⟩, ⟨Or.inr ⟨rfl, rfl⟩, ⟨Or.inl rfl, ⟨Or.inl rfl, ⟨Or.inr ⟨rfl, rfl⟩, ⟨Or.inr ⟨rfl, rfl⟩, trivial⟩⟩⟩⟩⟩⟩⟩ ?_
        exact hX41 x4 s13 k
/-- RowAuditor.holds(III)I -/
def w_133 (p1 : Int32) (p2 : Int32) (p3 : Int32) (s : ST) (K : Int32 → ST → Prop) : Prop := w_1 p1 s (fun r2 s1 => ((r2 = 0 → K (-1000000000 : Int32) s1) ∧ (¬ (r2 = 0) → w_182 p2 s1 (fun r4 s3 => ((r4 = 0 → K (-1000000000 : Int32) s3) ∧ (¬ (r4 = 0) → w_182 p3 s3 (fun r6 s5 => ((¬ r6 = 0 → w_111 p3 s5 (fun s7 => w_4 p1 s7 (fun r10 s9 => (∃ m, w_133_L24 m p1 p2 r10 (0 : Int32) s9 (fun y4 s19 => K y4 s19) (fun y4 s20 => K y4 s20) K)))) ∧ (¬ (¬ r6 = 0) → K (-1000000000 : Int32) s5)))))))))
theorem q_133 {d : Nat} {K : Int32 → ST → Prop} (p1 : Int32) (p2 : Int32) (p3 : Int32) (s : ST) (k : w_133 p1 p2 p3 s K) : Rn sc (d + 5) 133 [.ref 0, .int p1, .int p2, .int p3] (hpS s) (kI K) := by
  have hq : prog[133]? = some pm133 := rfl
  refine Rn.of (L := [.ref 0, .int p1, .int p2, .int p3, pu, pu, pu]) hq rfl rfl ?_
  unfold w_133 at k
  refine Ex.seg hq 3 (j := 3) (L' := [.ref 0, .int p1, .int p2, .int p3, pu, pu, pu]) (S' := [.int p1, .ref 1]) (h' := hpS s) rfl ?_
  refine Ex.cl hq rfl rfl ?_
  refine Rn.mono (q_1 (d := d + 4) p1 s k) ?_
  rintro _ _ ⟨r2, s1, rfl, hzr2, rfl, k⟩
  show Ex sc (d + 5) 133 4 [.ref 0, .int p1, .int p2, .int p3, pu, pu, pu] [.int r2] (hpS s1) _
  refine Ex.i1 hq rfl (fun c => ?_) (fun c => ?_)
  · have k := k.1 c
    refine Ex.seg hq 1 (j := 12) (L' := [.ref 0, .int p1, .int p2, .int p3, pu, pu, pu]) (S' := [.int (-1000000000 : Int32)]) (h' := hpS s1) rfl ?_
    exact Ex.rt hq rfl rfl ⟨(-1000000000 : Int32), s1, rfl, rfl, k⟩
  · have k := k.2 c
    refine Ex.seg hq 1 (j := 6) (L' := [.ref 0, .int p1, .int p2, .int p3, pu, pu, pu]) (S' := [.int p2]) (h' := hpS s1) rfl ?_
    refine Ex.cl hq rfl rfl ?_
    refine Rn.mono (q_182 (d := d + 3) p2 s1 k) ?_
    rintro _ _ ⟨r4, s3, rfl, hzr4, rfl, k⟩
    show Ex sc (d + 5) 133 7 [.ref 0, .int p1, .int p2, .int p3, pu, pu, pu] [.int r4] (hpS s3) _
    refine Ex.i1 hq rfl (fun c => ?_) (fun c => ?_)
    · have k := k.1 c
      refine Ex.seg hq 1 (j := 12) (L' := [.ref 0, .int p1, .int p2, .int p3, pu, pu, pu]) (S' := [.int (-1000000000 : Int32)]) (h' := hpS s3) rfl ?_
      exact Ex.rt hq rfl rfl ⟨(-1000000000 : Int32), s3, rfl, rfl, k⟩
    · have k := k.2 c
      refine Ex.seg hq 1 (j := 9) (L' := [.ref 0, .int p1, .int p2, .int p3, pu, pu, pu]) (S' := [.int p3]) (h' := hpS s3) rfl ?_
      refine Ex.cl hq rfl rfl ?_
      refine Rn.mono (q_182 (d := d + 3) p3 s3 k) ?_
      rintro _ _ ⟨r6, s5, rfl, hzr6, rfl, k⟩
      show Ex sc (d + 5) 133 10 [.ref 0, .int p1, .int p2, .int p3, pu, pu, pu] [.int r6] (hpS s5) _
      refine Ex.i1 hq rfl (fun c => ?_) (fun c => ?_)
      · have k := k.1 c
        refine Ex.seg hq 3 (j := 16) (L' := [.ref 0, .int p1, .int p2, .int p3, pu, pu, pu]) (S' := [.int p3, .ref 8]) (h' := hpS s5) rfl ?_
        refine Ex.cl hq rfl rfl ?_
        refine Rn.mono (q_111 (d := d + 0) p3 s5 k) ?_
        rintro _ _ ⟨s7, rfl, rfl, k⟩
        show Ex sc (d + 5) 133 17 [.ref 0, .int p1, .int p2, .int p3, pu, pu, pu] [] (hpS s7) _
        refine Ex.seg hq 3 (j := 20) (L' := [.ref 0, .int p1, .int p2, .int p3, pu, pu, pu]) (S' := [.int p1, .ref 1]) (h' := hpS s7) rfl ?_
        refine Ex.cl hq rfl rfl ?_
        refine Rn.mono (q_4 (d := d + 4) p1 s7 k) ?_
        rintro _ _ ⟨r10, s9, rfl, rfl, k⟩
        show Ex sc (d + 5) 133 21 [.ref 0, .int p1, .int p2, .int p3, pu, pu, pu] [.int r10] (hpS s9) _
        refine Ex.seg hq 3 (j := 24) (L' := [.ref 0, .int p1, .int p2, .int p3, .int r10, .int (0 : Int32), pu]) (S' := []) (h' := hpS s9) rfl ?_
        obtain ⟨m, k⟩ := k
        refine Ex.fg (L := [.ref 0, .int p1, .int p2, pu, .int r10, .int (0 : Int32), pu]) ⟨Or.inl rfl, ⟨Or.inl rfl, ⟨Or.inl rfl, ⟨Or.inr ⟨rfl, rfl⟩, ⟨Or.inl rfl, ⟨Or.inl rfl, ⟨Or.inl rfl, trivial⟩⟩⟩⟩⟩⟩⟩ ?_
        refine q_133_L24 (d := d) m p1 p2 r10 (0 : Int32) s9 k ?_ ?_
        · intro y4 s19 k
          refine Ex.seg hq 1 (j := 58) (L' := [pu, pu, pu, pu, .int y4, pu, pu]) (S' := [.int y4]) (h' := hpS s19) rfl ?_
          exact Ex.rt hq rfl rfl ⟨y4, s19, rfl, rfl, k⟩
        · intro y4 s20 k
          refine Ex.seg hq 2 (j := 58) (L' := [pu, pu, pu, pu, .int y4, pu, pu]) (S' := [.int y4]) (h' := hpS s20) rfl ?_
          exact Ex.rt hq rfl rfl ⟨y4, s20, rfl, rfl, k⟩
      · have k := k.2 c
        refine Ex.seg hq 1 (j := 12) (L' := [.ref 0, .int p1, .int p2, .int p3, pu, pu, pu]) (S' := [.int (-1000000000 : Int32)]) (h' := hpS s5) rfl ?_
        exact Ex.rt hq rfl rfl ⟨(-1000000000 : Int32), s5, rfl, rfl, k⟩
def w_135_L2 : Nat → Int32 → Int32 → ST → (ST → Prop) → (ST → Prop) → Prop
  | 0, _, _, _, _, _ => False
  | n + 1, x1, x2, s, X26, K => ((x2 < 0 → X26  s) ∧ (¬ (x2 < 0) → (((200 : Int32) ≤ (s.1 7) → X26  s) ∧ (¬ ((200 : Int32) ≤ (s.1 7)) → (pin (s.1 7) 200 = true ∧ w_135_L2 n x1 (x2 + (-8 : Int32)) (sA (sI s 7 ((s.1 7) + (1 : Int32))) 27 (upd (s.2.1 27) ((s.1 7)).toNatClampNeg ((((x1).toUInt32 >>> ((x2).toUInt32 &&& Int32.toUInt32 31)).toInt32) &&& (255 : Int32)))) X26 K)))))
theorem q_135_L2 {d : Nat} {X26 : ST → Prop} {K : ST → Prop} : ∀ (n : Nat) (x1 : Int32) (x2 : Int32) (s : ST), w_135_L2 n x1 x2 s X26 K → (∀ (s : ST), X26  s → Ex sc (d + 0) 135 26 [pu, pu, pu] [] (hpS s) (kV K)) → Ex sc (d + 0) 135 2 [.ref 0, .int x1, .int x2] [] (hpS s) (kV K) := by
  have hq : prog[135]? = some pm135 := rfl
  intro n
  induction n with
  | zero =>
    intro x1 x2 s k
    exact k.elim
  | succ n ih =>
    intro x1 x2 s k hX26
    rw [w_135_L2] at k
    refine Ex.seg hq 1 (j := 3) (L' := [.ref 0, .int x1, .int x2]) (S' := [.int x2]) (h' := hpS s) rfl ?_
    refine Ex.i1 hq rfl (fun c => ?_) (fun c => ?_)
    · have k := k.1 c
      refine Ex.fg (L := [pu, pu, pu]) ⟨Or.inr ⟨rfl, rfl⟩, ⟨Or.inr ⟨rfl, rfl⟩, ⟨Or.inr ⟨rfl, rfl⟩, trivial⟩⟩⟩ ?_
      exact hX26  s k
    · have k := k.2 c
      refine Ex.seg hq 3 (j := 7) (L' := [.ref 0, .int x1, .int x2]) (S' := [.int (200 : Int32), .int (s.1 7)]) (h' := hpS s) rfl ?_
      refine Ex.i2 hq rfl (fun c => ?_) (fun c => ?_)
      · have k := k.1 c
        refine Ex.fg (L := [pu, pu, pu]) ⟨Or.inr ⟨rfl, rfl⟩, ⟨Or.inr ⟨rfl, rfl⟩, ⟨Or.inr ⟨rfl, rfl⟩, trivial⟩⟩⟩ ?_
        exact hX26  s k
      · have k := k.2 c
        refine Ex.seg hq 9 (j := 17) (L' := [.ref 0, .int x1, .int x2]) (S' := [.int ((((x1).toUInt32 >>> ((x2).toUInt32 &&& Int32.toUInt32 31)).toInt32) &&& (255 : Int32)), .int (s.1 7), .ref 27]) (h' := hpS s) rfl ?_
        obtain ⟨hin, k⟩ := k
        refine Ex.ias hq rfl rfl hin (h' := hpS (sA s 27 (upd (s.2.1 27) ((s.1 7)).toNatClampNeg ((((x1).toUInt32 >>> ((x2).toUInt32 &&& Int32.toUInt32 31)).toInt32) &&& (255 : Int32))))) (hset_27 _ _) ?_
        refine Ex.seg hq 8 (j := 2) (L' := [.ref 0, .int x1, .int (x2 + (-8 : Int32))]) (S' := []) (h' := hpS (sA (sI s 7 ((s.1 7) + (1 : Int32))) 27 (upd (s.2.1 27) ((s.1 7)).toNatClampNeg ((((x1).toUInt32 >>> ((x2).toUInt32 &&& Int32.toUInt32 31)).toInt32) &&& (255 : Int32))))) rfl ?_
        exact ih x1 (x2 + (-8 : Int32)) (sA (sI s 7 ((s.1 7) + (1 : Int32))) 27 (upd (s.2.1 27) ((s.1 7)).toNatClampNeg ((((x1).toUInt32 >>> ((x2).toUInt32 &&& Int32.toUInt32 31)).toInt32) &&& (255 : Int32)))) k hX26
/-- RowAuditor.append(I)V -/
def w_135 (p1 : Int32) (s : ST) (K : ST → Prop) : Prop := (∃ m, w_135_L2 m p1 (24 : Int32) s (fun s1 => K s1) K)
theorem q_135 {d : Nat} {K : ST → Prop} (p1 : Int32) (s : ST) (k : w_135 p1 s K) : Rn sc (d + 0) 135 [.ref 0, .int p1] (hpS s) (kV K) := by
  have hq : prog[135]? = some pm135 := rfl
  refine Rn.of (L := [.ref 0, .int p1, pu]) hq rfl rfl ?_
  unfold w_135 at k
  refine Ex.seg hq 2 (j := 2) (L' := [.ref 0, .int p1, .int (24 : Int32)]) (S' := []) (h' := hpS s) rfl ?_
  obtain ⟨m, k⟩ := k
  refine q_135_L2 (d := d) m p1 (24 : Int32) s k ?_
  · intro s1 k
    exact Ex.rt hq rfl rfl ⟨s1, rfl, rfl, k⟩
/-- RowAuditor.feed(IIIII)I -/
def w_134 (p1 : Int32) (p2 : Int32) (p3 : Int32) (p4 : Int32) (p5 : Int32) (s : ST) (K : Int32 → ST → Prop) : Prop := ((((s.1 7) + (20 : Int32)) ≤ (200 : Int32) → w_135 p1 s (fun s1 => w_135 p2 s1 (fun s3 => w_135 p3 s3 (fun s5 => w_135 p4 s5 (fun s7 => w_135 p5 s7 (fun s9 => K (s9.1 7) s9)))))) ∧ (¬ (((s.1 7) + (20 : Int32)) ≤ (200 : Int32)) → K (-1 : Int32) s))
theorem q_134 {d : Nat} {K : Int32 → ST → Prop} (p1 : Int32) (p2 : Int32) (p3 : Int32) (p4 : Int32) (p5 : Int32) (s : ST) (k : w_134 p1 p2 p3 p4 p5 s K) : Rn sc (d + 1) 134 [.ref 0, .int p1, .int p2, .int p3, .int p4, .int p5] (hpS s) (kI K) := by
  have hq : prog[134]? = some pm134 := rfl
  refine Rn.of (L := [.ref 0, .int p1, .int p2, .int p3, .int p4, .int p5]) hq rfl rfl ?_
  unfold w_134 at k
  refine Ex.seg hq 5 (j := 5) (L' := [.ref 0, .int p1, .int p2, .int p3, .int p4, .int p5]) (S' := [.int (200 : Int32), .int ((s.1 7) + (20 : Int32))]) (h' := hpS s) rfl ?_
  refine Ex.i2 hq rfl (fun c => ?_) (fun c => ?_)
  · have k := k.1 c
    refine Ex.seg hq 2 (j := 10) (L' := [.ref 0, .int p1, .int p2, .int p3, .int p4, .int p5]) (S' := [.int p1, .ref 0]) (h' := hpS s) rfl ?_
    refine Ex.cl hq rfl rfl ?_
    refine Rn.mono (q_135 (d := d + 0) p1 s k) ?_
    rintro _ _ ⟨s1, rfl, rfl, k⟩
    show Ex sc (d + 1) 134 11 [.ref 0, .int p1, .int p2, .int p3, .int p4, .int p5] [] (hpS s1) _
    refine Ex.seg hq 2 (j := 13) (L' := [.ref 0, .int p1, .int p2, .int p3, .int p4, .int p5]) (S' := [.int p2, .ref 0]) (h' := hpS s1) rfl ?_
    refine Ex.cl hq rfl rfl ?_
    refine Rn.mono (q_135 (d := d + 0) p2 s1 k) ?_
    rintro _ _ ⟨s3, rfl, rfl, k⟩
    show Ex sc (d + 1) 134 14 [.ref 0, .int p1, .int p2, .int p3, .int p4, .int p5] [] (hpS s3) _
    refine Ex.seg hq 2 (j := 16) (L' := [.ref 0, .int p1, .int p2, .int p3, .int p4, .int p5]) (S' := [.int p3, .ref 0]) (h' := hpS s3) rfl ?_
    refine Ex.cl hq rfl rfl ?_
    refine Rn.mono (q_135 (d := d + 0) p3 s3 k) ?_
    rintro _ _ ⟨s5, rfl, rfl, k⟩
    show Ex sc (d + 1) 134 17 [.ref 0, .int p1, .int p2, .int p3, .int p4, .int p5] [] (hpS s5) _
    refine Ex.seg hq 2 (j := 19) (L' := [.ref 0, .int p1, .int p2, .int p3, .int p4, .int p5]) (S' := [.int p4, .ref 0]) (h' := hpS s5) rfl ?_
    refine Ex.cl hq rfl rfl ?_
    refine Rn.mono (q_135 (d := d + 0) p4 s5 k) ?_
    rintro _ _ ⟨s7, rfl, rfl, k⟩
    show Ex sc (d + 1) 134 20 [.ref 0, .int p1, .int p2, .int p3, .int p4, .int p5] [] (hpS s7) _
    refine Ex.seg hq 2 (j := 22) (L' := [.ref 0, .int p1, .int p2, .int p3, .int p4, .int p5]) (S' := [.int p5, .ref 0]) (h' := hpS s7) rfl ?_
    refine Ex.cl hq rfl rfl ?_
    refine Rn.mono (q_135 (d := d + 0) p5 s7 k) ?_
    rintro _ _ ⟨s9, rfl, rfl, k⟩
    show Ex sc (d + 1) 134 23 [.ref 0, .int p1, .int p2, .int p3, .int p4, .int p5] [] (hpS s9) _
    refine Ex.seg hq 2 (j := 25) (L' := [.ref 0, .int p1, .int p2, .int p3, .int p4, .int p5]) (S' := [.int (s9.1 7)]) (h' := hpS s9) rfl ?_
    exact Ex.rt hq rfl rfl ⟨(s9.1 7), s9, rfl, rfl, k⟩
  · have k := k.2 c
    refine Ex.seg hq 1 (j := 7) (L' := [.ref 0, .int p1, .int p2, .int p3, .int p4, .int p5]) (S' := [.int (-1 : Int32)]) (h' := hpS s) rfl ?_
    exact Ex.rt hq rfl rfl ⟨(-1 : Int32), s, rfl, rfl, k⟩
/-- RowAuditor.hasTaped(II)Z -/
def w_136 (p1 : Int32) (p2 : Int32) (s : ST) (K : Int32 → ST → Prop) : Prop := w_181 p1 (1 : Int32) p2 s (fun r2 s1 => ((r2 = 0 → K (0 : Int32) s1) ∧ (¬ (r2 = 0) → (((s1.1 7) < p1 → K (0 : Int32) s1) ∧ (¬ ((s1.1 7) < p1) → K (1 : Int32) s1)))))
theorem q_136 {d : Nat} {K : Int32 → ST → Prop} (p1 : Int32) (p2 : Int32) (s : ST) (k : w_136 p1 p2 s K) : Rn sc (d + 1) 136 [.ref 0, .int p1, .int p2] (hpS s) (kZ K) := by
  have hq : prog[136]? = some pm136 := rfl
  refine Rn.of (L := [.ref 0, .int p1, .int p2]) hq rfl rfl ?_
  unfold w_136 at k
  refine Ex.seg hq 3 (j := 3) (L' := [.ref 0, .int p1, .int p2]) (S' := [.int p2, .int (1 : Int32), .int p1]) (h' := hpS s) rfl ?_
  refine Ex.cl hq rfl rfl ?_
  refine Rn.mono (q_181 (d := d + 0) p1 (1 : Int32) p2 s k) ?_
  rintro _ _ ⟨r2, s1, rfl, hzr2, rfl, k⟩
  show Ex sc (d + 1) 136 4 [.ref 0, .int p1, .int p2] [.int r2] (hpS s1) _
  refine Ex.i1 hq rfl (fun c => ?_) (fun c => ?_)
  · have k := k.1 c
    refine Ex.seg hq 1 (j := 12) (L' := [.ref 0, .int p1, .int p2]) (S' := [.int (0 : Int32)]) (h' := hpS s1) rfl ?_
    exact Ex.zr hq rfl rfl (Or.inl rfl) ⟨(0 : Int32), s1, rfl, (Or.inl rfl), rfl, k⟩
  · have k := k.2 c
    refine Ex.seg hq 3 (j := 8) (L' := [.ref 0, .int p1, .int p2]) (S' := [.int (s1.1 7), .int p1]) (h' := hpS s1) rfl ?_
    refine Ex.i2 hq rfl (fun c => ?_) (fun c => ?_)
    · have k := k.1 c
      refine Ex.seg hq 1 (j := 12) (L' := [.ref 0, .int p1, .int p2]) (S' := [.int (0 : Int32)]) (h' := hpS s1) rfl ?_
      exact Ex.zr hq rfl rfl (Or.inl rfl) ⟨(0 : Int32), s1, rfl, (Or.inl rfl), rfl, k⟩
    · have k := k.2 c
      refine Ex.seg hq 2 (j := 12) (L' := [.ref 0, .int p1, .int p2]) (S' := [.int (1 : Int32)]) (h' := hpS s1) rfl ?_
      exact Ex.zr hq rfl rfl (Or.inr rfl) ⟨(1 : Int32), s1, rfl, (Or.inr rfl), rfl, k⟩
/-- jdk/internal/util/ArraysSupport.newLength(III)I -/
def w_307 (p0 : Int32) (p1 : Int32) (p2 : Int32) (s : ST) (K : Int32 → ST → Prop) : Prop := (((p0 + (if p1 < p2 then p2 else p1)) ≤ (0 : Int32) → False) ∧ (¬ ((p0 + (if p1 < p2 then p2 else p1)) ≤ (0 : Int32)) → (((2147483639 : Int32) < (p0 + (if p1 < p2 then p2 else p1)) → False) ∧ (¬ ((2147483639 : Int32) < (p0 + (if p1 < p2 then p2 else p1))) → K (p0 + (if p1 < p2 then p2 else p1)) s))))
theorem q_307 {d : Nat} {K : Int32 → ST → Prop} (p0 : Int32) (p1 : Int32) (p2 : Int32) (s : ST) (k : w_307 p0 p1 p2 s K) : Rn sc (d + 1) 307 [.int p0, .int p1, .int p2] (hpS s) (kI K) := by
  have hq : prog[307]? = some pm307 := rfl
  refine Rn.of (L := [.int p0, .int p1, .int p2, pu]) hq rfl rfl ?_
  unfold w_307 at k
  refine Ex.seg hq 8 (j := 8) (L' := [.int p0, .int p1, .int p2, .int (p0 + (if p1 < p2 then p2 else p1))]) (S' := [.int (p0 + (if p1 < p2 then p2 else p1)), .int (0 : Int32)]) (h' := hpS s) rfl ?_
  refine Ex.i2 hq rfl (fun c => ?_) (fun c => ?_)
  · have k := k.1 c
    refine Ex.seg hq 2 (j := 16) (L' := [.int p0, .int p1, .int p2, .int (p0 + (if p1 < p2 then p2 else p1))]) (S' := [.int p1, .int p0]) (h' := hpS s) rfl ?_
    exact k.elim
  · have k := k.2 c
    refine Ex.seg hq 2 (j := 11) (L' := [.int p0, .int p1, .int p2, .int (p0 + (if p1 < p2 then p2 else p1))]) (S' := [.int (2147483639 : Int32), .int (p0 + (if p1 < p2 then p2 else p1))]) (h' := hpS s) rfl ?_
    refine Ex.i2 hq rfl (fun c => ?_) (fun c => ?_)
    · have k := k.1 c
      refine Ex.seg hq 2 (j := 16) (L' := [.int p0, .int p1, .int p2, .int (p0 + (if p1 < p2 then p2 else p1))]) (S' := [.int p1, .int p0]) (h' := hpS s) rfl ?_
      exact k.elim
    · have k := k.2 c
      refine Ex.seg hq 1 (j := 13) (L' := [.int p0, .int p1, .int p2, .int (p0 + (if p1 < p2 then p2 else p1))]) (S' := [.int (p0 + (if p1 < p2 then p2 else p1))]) (h' := hpS s) rfl ?_
      exact Ex.rt hq rfl rfl ⟨(p0 + (if p1 < p2 then p2 else p1)), s, rfl, rfl, k⟩
/-- java/util/Arrays.copyOf([Ljava/lang/Object;I)[Ljava/lang/Object; -/
def w_303_F1 (p1 : Int32) (s : ST) (K : Nat → ST → Prop) : Prop := False
theorem q_303_F1 {d : Nat} {K : Nat → ST → Prop} (p1 : Int32) (s : ST) (k : w_303_F1 p1 s K) : Rn sc (d + 0) 303 [.float 1, .int p1] (hpS s) (kA K) := by
  have hq : prog[303]? = some pm303 := rfl
  refine Rn.of (L := [.float 1, .int p1]) hq rfl rfl ?_
  unfold w_303_F1 at k
  refine Ex.seg hq 3 (j := 3) (L' := [.float 1, .int p1]) (S' := [.float 1, .int p1, .float 1]) (h' := hpS s) rfl ?_
  exact k.elim
/-- java/util/Arrays.copyOf([Ljava/lang/Object;ILjava/lang/Class;)[Ljava/lang/Object; -/
def w_304_F4 (p0 : Nat) (p1 : Int32) (s : ST) (K : Nat → ST → Prop) : Prop := (¬ p1 < 0 ∧ (p1).toNatClampNeg ≤ 100000 ∧ (∃ n1 f2, prowR (s.2.2.2.2 ++ [(Sum.inl (4, (p1).toNatClampNeg, .inr (.inr (fun _ => none))) : PC)]) p0 = some (n1, f2) ∧ (∃ (n3 : Nat) (f4 : Nat → Option Nat) (n5 : Nat) (g6 : Nat → Option Nat), prowR (s.2.2.2.2 ++ [(Sum.inl (4, (p1).toNatClampNeg, .inr (.inr (fun _ => none))) : PC)]) p0 = some (n3, f4) ∧ prowR (s.2.2.2.2 ++ [(Sum.inl (4, (p1).toNatClampNeg, .inr (.inr (fun _ => none))) : PC)]) s.2.2.2.2.length = some (n5, g6) ∧ ¬ (0 : Int32) < 0 ∧ ¬ (0 : Int32) < 0 ∧ ¬ (if p1 < (Int32.ofNat n1) then p1 else (Int32.ofNat n1)) < 0 ∧ ((0 : Int32)).toNatClampNeg + ((if p1 < (Int32.ofNat n1) then p1 else (Int32.ofNat n1))).toNatClampNeg ≤ n3 ∧ ((0 : Int32)).toNatClampNeg + ((if p1 < (Int32.ofNat n1) then p1 else (Int32.ofNat n1))).toNatClampNeg ≤ n5 ∧ pels (hpS (sD s (s.2.2.2.2 ++ [(Sum.inl (4, (p1).toNatClampNeg, .inr (.inr (fun _ => none))) : PC)]))) f4 ((0 : Int32)).toNatClampNeg ((if p1 < (Int32.ofNat n1) then p1 else (Int32.ofNat n1))).toNatClampNeg = true ∧ K s.2.2.2.2.length (sD s ((s.2.2.2.2 ++ [(Sum.inl (4, (p1).toNatClampNeg, .inr (.inr (fun _ => none))) : PC)]).set s.2.2.2.2.length (.inl (4, n5, .inr (.inr (va_cpy f4 g6 ((0 : Int32)).toNatClampNeg ((0 : Int32)).toNatClampNeg ((if p1 < (Int32.ofNat n1) then p1 else (Int32.ofNat n1))).toNatClampNeg)))))))))
theorem q_304_F4 {d : Nat} {K : Nat → ST → Prop} (p0 : Nat) (p1 : Int32) (s : ST) (k : w_304_F4 p0 p1 s K) : Rn sc (d + 1) 304 [.ref (p0 + 118), .int p1, .float 4] (hpS s) (kA K) := by
  have hq : prog[304]? = some pm304 := rfl
  refine Rn.of (L := [.ref (p0 + 118), .int p1, .float 4, pu]) hq rfl rfl ?_
  unfold w_304_F4 at k
  refine Ex.seg hq 4 (j := 4) (L' := [.ref (p0 + 118), .int p1, .float 4, pu]) (S' := [.int p1]) (h' := hpS s) rfl ?_
  obtain ⟨h0, h1, k⟩ := k
  refine Ex.anw hq rfl h0 h1 ?_
  show Ex sc (d + 1) 304 5 [.ref (p0 + 118), .int p1, .float 4, pu] [.ref (s.2.2.2.2.length + 118)] (hpS (sD s (s.2.2.2.2 ++ [(Sum.inl (4, (p1).toNatClampNeg, .inr (.inr (fun _ => none))) : PC)]))) _
  refine Ex.seg hq 7 (j := 17) (L' := [.ref (p0 + 118), .int p1, .float 4, .ref (s.2.2.2.2.length + 118)]) (S' := [.ref (p0 + 118), .int (0 : Int32), .ref (s.2.2.2.2.length + 118), .int (0 : Int32), .ref (p0 + 118)]) (h' := hpS (sD s (s.2.2.2.2 ++ [(Sum.inl (4, (p1).toNatClampNeg, .inr (.inr (fun _ => none))) : PC)]))) rfl ?_
  obtain ⟨n1, f2, e, k⟩ := k
  refine Ex.lnR hq rfl e ?_
  refine Ex.seg hq 2 (j := 20) (L' := [.ref (p0 + 118), .int p1, .float 4, .ref (s.2.2.2.2.length + 118)]) (S' := [.int (if p1 < (Int32.ofNat n1) then p1 else (Int32.ofNat n1)), .int (0 : Int32), .ref (s.2.2.2.2.length + 118), .int (0 : Int32), .ref (p0 + 118)]) (h' := hpS (sD s (s.2.2.2.2 ++ [(Sum.inl (4, (p1).toNatClampNeg, .inr (.inr (fun _ => none))) : PC)]))) rfl ?_
  obtain ⟨n3, f4, n5, g6, ea, eb, h1, h2, h3, h4, h5, h7, k⟩ := k
  refine Ex.cpR hq rfl ea eb h1 h2 h3 h4 h5 h7 rfl ?_
  show Ex sc (d + 1) 304 21 [.ref (p0 + 118), .int p1, .float 4, .ref (s.2.2.2.2.length + 118)] [] (hpS (sD s ((s.2.2.2.2 ++ [(Sum.inl (4, (p1).toNatClampNeg, .inr (.inr (fun _ => none))) : PC)]).set s.2.2.2.2.length (.inl (4, n5, .inr (.inr (va_cpy f4 g6 ((0 : Int32)).toNatClampNeg ((0 : Int32)).toNatClampNeg ((if p1 < (Int32.ofNat n1) then p1 else (Int32.ofNat n1))).toNatClampNeg))))))) _
  refine Ex.seg hq 1 (j := 22) (L' := [.ref (p0 + 118), .int p1, .float 4, .ref (s.2.2.2.2.length + 118)]) (S' := [.ref (s.2.2.2.2.length + 118)]) (h' := hpS (sD s ((s.2.2.2.2 ++ [(Sum.inl (4, (p1).toNatClampNeg, .inr (.inr (fun _ => none))) : PC)]).set s.2.2.2.2.length (.inl (4, n5, .inr (.inr (va_cpy f4 g6 ((0 : Int32)).toNatClampNeg ((0 : Int32)).toNatClampNeg ((if p1 < (Int32.ofNat n1) then p1 else (Int32.ofNat n1))).toNatClampNeg))))))) rfl ?_
  exact Ex.rt hq rfl rfl ⟨s.2.2.2.2.length, (sD s ((s.2.2.2.2 ++ [(Sum.inl (4, (p1).toNatClampNeg, .inr (.inr (fun _ => none))) : PC)]).set s.2.2.2.2.length (.inl (4, n5, .inr (.inr (va_cpy f4 g6 ((0 : Int32)).toNatClampNeg ((0 : Int32)).toNatClampNeg ((if p1 < (Int32.ofNat n1) then p1 else (Int32.ofNat n1))).toNatClampNeg)))))), rfl, rfl, k⟩
/-- java/util/Arrays.copyOf([Ljava/lang/Object;I)[Ljava/lang/Object; -/
def w_303 (p0 : Nat) (p1 : Int32) (s : ST) (K : Nat → ST → Prop) : Prop := (∃ n1 f2, prowR s.2.2.2.2 p0 = some (n1, f2) ∧ w_304_F4 p0 p1 s (fun r4 s3 => K r4 s3))
theorem q_303 {d : Nat} {K : Nat → ST → Prop} (p0 : Nat) (p1 : Int32) (s : ST) (k : w_303 p0 p1 s K) : Rn sc (d + 2) 303 [.ref (p0 + 118), .int p1] (hpS s) (kA K) := by
  have hq : prog[303]? = some pm303 := rfl
  refine Rn.of (L := [.ref (p0 + 118), .int p1]) hq rfl rfl ?_
  unfold w_303 at k
  refine Ex.seg hq 3 (j := 3) (L' := [.ref (p0 + 118), .int p1]) (S' := [.ref (p0 + 118), .int p1, .ref (p0 + 118)]) (h' := hpS s) rfl ?_
  obtain ⟨n1, f2, e, k⟩ := k
  refine Ex.gc hq rfl e rfl ?_
  refine Ex.cl hq rfl rfl ?_
  refine Rn.mono (q_304_F4 (d := d + 0) p0 p1 s k) ?_
  rintro _ _ ⟨r4, s3, rfl, rfl, k⟩
  show Ex sc (d + 2) 303 5 [.ref (p0 + 118), .int p1] [.ref (r4 + 118)] (hpS s3) _
  exact Ex.rt hq rfl rfl ⟨r4, s3, rfl, rfl, k⟩
/-- java/util/ArrayList.grow(I)[Ljava/lang/Object; -/
def w_295 (p0 : Nat) (p1 : Int32) (s : ST) (K : Nat → ST → Prop) : Prop := ((pgf s.2.2.2.2 p0 13 1 = some (.float 1) ∧ ((0 < (0 : Int32) → w_307 (0 : Int32) (p1 - (0 : Int32)) ((0 : Int32) >>> ((1 : Int32) &&& 31)) s (fun r3 s2 => ((pgf s2.2.2.2.2 p0 13 1 = some (.float 1) ∧ w_303_F1 r3 s2 (fun r6 s5 => (∃ f7, pob s5.2.2.2.2 p0 13 = some f7 ∧ 1 < f7.length ∧ K r6 (sD s5 (s5.2.2.2.2.set p0 (.inr (13, f7.set 1 (.ref (r6 + 118))))))))) ∨ (∃ b4, pgf s2.2.2.2.2 p0 13 1 = some (.ref (b4 + 118)) ∧ w_303 b4 r3 s2 (fun r9 s8 => (∃ f10, pob s8.2.2.2.2 p0 13 = some f10 ∧ 1 < f10.length ∧ K r9 (sD s8 (s8.2.2.2.2.set p0 (.inr (13, f10.set 1 (.ref (r9 + 118)))))))))))) ∧ (¬ (0 < (0 : Int32)) → ((pgf s.2.2.2.2 p0 13 1 = some (.float 1) ∧ (¬ (if (10 : Int32) < p1 then p1 else (10 : Int32)) < 0 ∧ ((if (10 : Int32) < p1 then p1 else (10 : Int32))).toNatClampNeg ≤ 100000 ∧ (∃ f12, pob (s.2.2.2.2 ++ [(Sum.inl (4, ((if (10 : Int32) < p1 then p1 else (10 : Int32))).toNatClampNeg, .inr (.inr (fun _ => none))) : PC)]) p0 13 = some f12 ∧ 1 < f12.length ∧ K s.2.2.2.2.length (sD s ((s.2.2.2.2 ++ [(Sum.inl (4, ((if (10 : Int32) < p1 then p1 else (10 : Int32))).toNatClampNeg, .inr (.inr (fun _ => none))) : PC)]).set p0 (.inr (13, f12.set 1 (.ref (s.2.2.2.2.length + 118))))))))) ∨ (∃ b11, pgf s.2.2.2.2 p0 13 1 = some (.ref (b11 + 118)) ∧ w_307 (0 : Int32) (p1 - (0 : Int32)) ((0 : Int32) >>> ((1 : Int32) &&& 31)) s (fun r14 s13 => ((pgf s13.2.2.2.2 p0 13 1 = some (.float 1) ∧ w_303_F1 r14 s13 (fun r17 s16 => (∃ f18, pob s16.2.2.2.2 p0 13 = some f18 ∧ 1 < f18.length ∧ K r17 (sD s16 (s16.2.2.2.2.set p0 (.inr (13, f18.set 1 (.ref (r17 + 118))))))))) ∨ (∃ b15, pgf s13.2.2.2.2 p0 13 1 = some (.ref (b15 + 118)) ∧ w_303 b15 r14 s13 (fun r20 s19 => (∃ f21, pob s19.2.2.2.2 p0 13 = some f21 ∧ 1 < f21.length ∧ K r20 (sD s19 (s19.2.2.2.2.set p0 (.inr (13, f21.set 1 (.ref (r20 + 118)))))))))))))))) ∨ (∃ b1, pgf s.2.2.2.2 p0 13 1 = some (.ref (b1 + 118)) ∧ (∃ n22 f23, prowR s.2.2.2.2 b1 = some (n22, f23) ∧ ((0 < (Int32.ofNat n22) → w_307 (Int32.ofNat n22) (p1 - (Int32.ofNat n22)) ((Int32.ofNat n22) >>> ((1 : Int32) &&& 31)) s (fun r25 s24 => ((pgf s24.2.2.2.2 p0 13 1 = some (.float 1) ∧ w_303_F1 r25 s24 (fun r28 s27 => (∃ f29, pob s27.2.2.2.2 p0 13 = some f29 ∧ 1 < f29.length ∧ K r28 (sD s27 (s27.2.2.2.2.set p0 (.inr (13, f29.set 1 (.ref (r28 + 118))))))))) ∨ (∃ b26, pgf s24.2.2.2.2 p0 13 1 = some (.ref (b26 + 118)) ∧ w_303 b26 r25 s24 (fun r31 s30 => (∃ f32, pob s30.2.2.2.2 p0 13 = some f32 ∧ 1 < f32.length ∧ K r31 (sD s30 (s30.2.2.2.2.set p0 (.inr (13, f32.set 1 (.ref (r31 + 118)))))))))))) ∧ (¬ (0 < (Int32.ofNat n22)) → ((pgf s.2.2.2.2 p0 13 1 = some (.float 1) ∧ (¬ (if (10 : Int32) < p1 then p1 else (10 : Int32)) < 0 ∧ ((if (10 : Int32) < p1 then p1 else (10 : Int32))).toNatClampNeg ≤ 100000 ∧ (∃ f34, pob (s.2.2.2.2 ++ [(Sum.inl (4, ((if (10 : Int32) < p1 then p1 else (10 : Int32))).toNatClampNeg, .inr (.inr (fun _ => none))) : PC)]) p0 13 = some f34 ∧ 1 < f34.length ∧ K s.2.2.2.2.length (sD s ((s.2.2.2.2 ++ [(Sum.inl (4, ((if (10 : Int32) < p1 then p1 else (10 : Int32))).toNatClampNeg, .inr (.inr (fun _ => none))) : PC)]).set p0 (.inr (13, f34.set 1 (.ref (s.2.2.2.2.length + 118))))))))) ∨ (∃ b33, pgf s.2.2.2.2 p0 13 1 = some (.ref (b33 + 118)) ∧ w_307 (Int32.ofNat n22) (p1 - (Int32.ofNat n22)) ((Int32.ofNat n22) >>> ((1 : Int32) &&& 31)) s (fun r36 s35 => ((pgf s35.2.2.2.2 p0 13 1 = some (.float 1) ∧ w_303_F1 r36 s35 (fun r39 s38 => (∃ f40, pob s38.2.2.2.2 p0 13 = some f40 ∧ 1 < f40.length ∧ K r39 (sD s38 (s38.2.2.2.2.set p0 (.inr (13, f40.set 1 (.ref (r39 + 118))))))))) ∨ (∃ b37, pgf s35.2.2.2.2 p0 13 1 = some (.ref (b37 + 118)) ∧ w_303 b37 r36 s35 (fun r42 s41 => (∃ f43, pob s41.2.2.2.2 p0 13 = some f43 ∧ 1 < f43.length ∧ K r42 (sD s41 (s41.2.2.2.2.set p0 (.inr (13, f43.set 1 (.ref (r42 + 118))))))))))))))))))
theorem q_295 {d : Nat} {K : Nat → ST → Prop} (p0 : Nat) (p1 : Int32) (s : ST) (k : w_295 p0 p1 s K) : Rn sc (d + 3) 295 [.ref (p0 + 118), .int p1] (hpS s) (kA K) := by
  have hq : prog[295]? = some pm295 := rfl
  refine Rn.of (L := [.ref (p0 + 118), .int p1, pu, pu]) hq rfl rfl ?_
  unfold w_295 at k
  refine Ex.seg hq 1 (j := 1) (L' := [.ref (p0 + 118), .int p1, pu, pu]) (S' := [.ref (p0 + 118)]) (h' := hpS s) rfl ?_
  rcases k with ⟨e, k⟩ | ⟨b1, e, k⟩
  · refine Ex.gfd hq rfl e ?_
    refine Ex.seg hq 3 (j := 5) (L' := [.ref (p0 + 118), .int p1, .int (0 : Int32), pu]) (S' := [.int (0 : Int32)]) (h' := hpS s) rfl ?_
    refine Ex.i1 hq rfl (fun c => ?_) (fun c => ?_)
    · have k := k.1 c
      refine Ex.seg hq 7 (j := 17) (L' := [.ref (p0 + 118), .int p1, .int (0 : Int32), pu]) (S' := [.int ((0 : Int32) >>> ((1 : Int32) &&& 31)), .int (p1 - (0 : Int32)), .int (0 : Int32)]) (h' := hpS s) rfl ?_
      refine Ex.cl hq rfl rfl ?_
      refine Rn.mono (q_307 (d := d + 1) (0 : Int32) (p1 - (0 : Int32)) ((0 : Int32) >>> ((1 : Int32) &&& 31)) s k) ?_
      rintro _ _ ⟨r3, s2, rfl, rfl, k⟩
      show Ex sc (d + 3) 295 18 [.ref (p0 + 118), .int p1, .int (0 : Int32), pu] [.int r3] (hpS s2) _
      refine Ex.seg hq 3 (j := 21) (L' := [.ref (p0 + 118), .int p1, .int (0 : Int32), .int r3]) (S' := [.ref (p0 + 118), .ref (p0 + 118)]) (h' := hpS s2) rfl ?_
      rcases k with ⟨e, k⟩ | ⟨b4, e, k⟩
      · refine Ex.gfd hq rfl e ?_
        refine Ex.seg hq 1 (j := 23) (L' := [.ref (p0 + 118), .int p1, .int (0 : Int32), .int r3]) (S' := [.int r3, .float 1, .ref (p0 + 118)]) (h' := hpS s2) rfl ?_
        refine Ex.cl hq rfl rfl ?_
        refine Rn.mono (q_303_F1 (d := d + 2) r3 s2 k) ?_
        rintro _ _ ⟨r6, s5, rfl, rfl, k⟩
        show Ex sc (d + 3) 295 24 [.ref (p0 + 118), .int p1, .int (0 : Int32), .int r3] [.ref (r6 + 118), .ref (p0 + 118)] (hpS s5) _
        refine Ex.seg hq 1 (j := 25) (L' := [.ref (p0 + 118), .int p1, .int (0 : Int32), .int r3]) (S' := [.ref (r6 + 118), .ref (p0 + 118), .ref (r6 + 118)]) (h' := hpS s5) rfl ?_
        obtain ⟨f7, e, hk, k⟩ := k
        refine Ex.pfd hq rfl e hk rfl ?_
        show Ex sc (d + 3) 295 26 [.ref (p0 + 118), .int p1, .int (0 : Int32), .int r3] [.ref (r6 + 118)] (hpS (sD s5 (s5.2.2.2.2.set p0 (.inr (13, f7.set 1 (.ref (r6 + 118))))))) _
        exact Ex.rt hq rfl rfl ⟨r6, (sD s5 (s5.2.2.2.2.set p0 (.inr (13, f7.set 1 (.ref (r6 + 118)))))), rfl, rfl, k⟩
      · refine Ex.gfd hq rfl e ?_
        refine Ex.seg hq 1 (j := 23) (L' := [.ref (p0 + 118), .int p1, .int (0 : Int32), .int r3]) (S' := [.int r3, .ref (b4 + 118), .ref (p0 + 118)]) (h' := hpS s2) rfl ?_
        refine Ex.cl hq rfl rfl ?_
        refine Rn.mono (q_303 (d := d + 0) b4 r3 s2 k) ?_
        rintro _ _ ⟨r9, s8, rfl, rfl, k⟩
        show Ex sc (d + 3) 295 24 [.ref (p0 + 118), .int p1, .int (0 : Int32), .int r3] [.ref (r9 + 118), .ref (p0 + 118)] (hpS s8) _
        refine Ex.seg hq 1 (j := 25) (L' := [.ref (p0 + 118), .int p1, .int (0 : Int32), .int r3]) (S' := [.ref (r9 + 118), .ref (p0 + 118), .ref (r9 + 118)]) (h' := hpS s8) rfl ?_
        obtain ⟨f10, e, hk, k⟩ := k
        refine Ex.pfd hq rfl e hk rfl ?_
        show Ex sc (d + 3) 295 26 [.ref (p0 + 118), .int p1, .int (0 : Int32), .int r3] [.ref (r9 + 118)] (hpS (sD s8 (s8.2.2.2.2.set p0 (.inr (13, f10.set 1 (.ref (r9 + 118))))))) _
        exact Ex.rt hq rfl rfl ⟨r9, (sD s8 (s8.2.2.2.2.set p0 (.inr (13, f10.set 1 (.ref (r9 + 118)))))), rfl, rfl, k⟩
    · have k := k.2 c
      refine Ex.seg hq 1 (j := 7) (L' := [.ref (p0 + 118), .int p1, .int (0 : Int32), pu]) (S' := [.ref (p0 + 118)]) (h' := hpS s) rfl ?_
      rcases k with ⟨e, k⟩ | ⟨b11, e, k⟩
      · refine Ex.gfd hq rfl e ?_
        refine Ex.seg hq 6 (j := 31) (L' := [.ref (p0 + 118), .int p1, .int (0 : Int32), pu]) (S' := [.int (if (10 : Int32) < p1 then p1 else (10 : Int32)), .ref (p0 + 118)]) (h' := hpS s) rfl ?_
        obtain ⟨h0, h1, k⟩ := k
        refine Ex.anw hq rfl h0 h1 ?_
        show Ex sc (d + 3) 295 32 [.ref (p0 + 118), .int p1, .int (0 : Int32), pu] [.ref (s.2.2.2.2.length + 118), .ref (p0 + 118)] (hpS (sD s (s.2.2.2.2 ++ [(Sum.inl (4, ((if (10 : Int32) < p1 then p1 else (10 : Int32))).toNatClampNeg, .inr (.inr (fun _ => none))) : PC)]))) _
        refine Ex.seg hq 1 (j := 33) (L' := [.ref (p0 + 118), .int p1, .int (0 : Int32), pu]) (S' := [.ref (s.2.2.2.2.length + 118), .ref (p0 + 118), .ref (s.2.2.2.2.length + 118)]) (h' := hpS (sD s (s.2.2.2.2 ++ [(Sum.inl (4, ((if (10 : Int32) < p1 then p1 else (10 : Int32))).toNatClampNeg, .inr (.inr (fun _ => none))) : PC)]))) rfl ?_
        obtain ⟨f12, e, hk, k⟩ := k
        refine Ex.pfd hq rfl e hk rfl ?_
        show Ex sc (d + 3) 295 34 [.ref (p0 + 118), .int p1, .int (0 : Int32), pu] [.ref (s.2.2.2.2.length + 118)] (hpS (sD s ((s.2.2.2.2 ++ [(Sum.inl (4, ((if (10 : Int32) < p1 then p1 else (10 : Int32))).toNatClampNeg, .inr (.inr (fun _ => none))) : PC)]).set p0 (.inr (13, f12.set 1 (.ref (s.2.2.2.2.length + 118))))))) _
        exact Ex.rt hq rfl rfl ⟨s.2.2.2.2.length, (sD s ((s.2.2.2.2 ++ [(Sum.inl (4, ((if (10 : Int32) < p1 then p1 else (10 : Int32))).toNatClampNeg, .inr (.inr (fun _ => none))) : PC)]).set p0 (.inr (13, f12.set 1 (.ref (s.2.2.2.2.length + 118)))))), rfl, rfl, k⟩
      · refine Ex.gfd hq rfl e ?_
        refine Ex.seg hq 9 (j := 17) (L' := [.ref (p0 + 118), .int p1, .int (0 : Int32), pu]) (S' := [.int ((0 : Int32) >>> ((1 : Int32) &&& 31)), .int (p1 - (0 : Int32)), .int (0 : Int32)]) (h' := hpS s) rfl ?_
        refine Ex.cl hq rfl rfl ?_
        refine Rn.mono (q_307 (d := d + 1) (0 : Int32) (p1 - (0 : Int32)) ((0 : Int32) >>> ((1 : Int32) &&& 31)) s k) ?_
        rintro _ _ ⟨r14, s13, rfl, rfl, k⟩
        show Ex sc (d + 3) 295 18 [.ref (p0 + 118), .int p1, .int (0 : Int32), pu] [.int r14] (hpS s13) _
        refine Ex.seg hq 3 (j := 21) (L' := [.ref (p0 + 118), .int p1, .int (0 : Int32), .int r14]) (S' := [.ref (p0 + 118), .ref (p0 + 118)]) (h' := hpS s13) rfl ?_
        rcases k with ⟨e, k⟩ | ⟨b15, e, k⟩
        · refine Ex.gfd hq rfl e ?_
          refine Ex.seg hq 1 (j := 23) (L' := [.ref (p0 + 118), .int p1, .int (0 : Int32), .int r14]) (S' := [.int r14, .float 1, .ref (p0 + 118)]) (h' := hpS s13) rfl ?_
          refine Ex.cl hq rfl rfl ?_
          refine Rn.mono (q_303_F1 (d := d + 2) r14 s13 k) ?_
          rintro _ _ ⟨r17, s16, rfl, rfl, k⟩
          show Ex sc (d + 3) 295 24 [.ref (p0 + 118), .int p1, .int (0 : Int32), .int r14] [.ref (r17 + 118), .ref (p0 + 118)] (hpS s16) _
          refine Ex.seg hq 1 (j := 25) (L' := [.ref (p0 + 118), .int p1, .int (0 : Int32), .int r14]) (S' := [.ref (r17 + 118), .ref (p0 + 118), .ref (r17 + 118)]) (h' := hpS s16) rfl ?_
          obtain ⟨f18, e, hk, k⟩ := k
          refine Ex.pfd hq rfl e hk rfl ?_
          show Ex sc (d + 3) 295 26 [.ref (p0 + 118), .int p1, .int (0 : Int32), .int r14] [.ref (r17 + 118)] (hpS (sD s16 (s16.2.2.2.2.set p0 (.inr (13, f18.set 1 (.ref (r17 + 118))))))) _
          exact Ex.rt hq rfl rfl ⟨r17, (sD s16 (s16.2.2.2.2.set p0 (.inr (13, f18.set 1 (.ref (r17 + 118)))))), rfl, rfl, k⟩
        · refine Ex.gfd hq rfl e ?_
          refine Ex.seg hq 1 (j := 23) (L' := [.ref (p0 + 118), .int p1, .int (0 : Int32), .int r14]) (S' := [.int r14, .ref (b15 + 118), .ref (p0 + 118)]) (h' := hpS s13) rfl ?_
          refine Ex.cl hq rfl rfl ?_
          refine Rn.mono (q_303 (d := d + 0) b15 r14 s13 k) ?_
          rintro _ _ ⟨r20, s19, rfl, rfl, k⟩
          show Ex sc (d + 3) 295 24 [.ref (p0 + 118), .int p1, .int (0 : Int32), .int r14] [.ref (r20 + 118), .ref (p0 + 118)] (hpS s19) _
          refine Ex.seg hq 1 (j := 25) (L' := [.ref (p0 + 118), .int p1, .int (0 : Int32), .int r14]) (S' := [.ref (r20 + 118), .ref (p0 + 118), .ref (r20 + 118)]) (h' := hpS s19) rfl ?_
          obtain ⟨f21, e, hk, k⟩ := k
          refine Ex.pfd hq rfl e hk rfl ?_
          show Ex sc (d + 3) 295 26 [.ref (p0 + 118), .int p1, .int (0 : Int32), .int r14] [.ref (r20 + 118)] (hpS (sD s19 (s19.2.2.2.2.set p0 (.inr (13, f21.set 1 (.ref (r20 + 118))))))) _
          exact Ex.rt hq rfl rfl ⟨r20, (sD s19 (s19.2.2.2.2.set p0 (.inr (13, f21.set 1 (.ref (r20 + 118)))))), rfl, rfl, k⟩
  · refine Ex.gfd hq rfl e ?_
    obtain ⟨n22, f23, e, k⟩ := k
    refine Ex.lnR hq rfl e ?_
    refine Ex.seg hq 2 (j := 5) (L' := [.ref (p0 + 118), .int p1, .int (Int32.ofNat n22), pu]) (S' := [.int (Int32.ofNat n22)]) (h' := hpS s) rfl ?_
    refine Ex.i1 hq rfl (fun c => ?_) (fun c => ?_)
    · have k := k.1 c
      refine Ex.seg hq 7 (j := 17) (L' := [.ref (p0 + 118), .int p1, .int (Int32.ofNat n22), pu]) (S' := [.int ((Int32.ofNat n22) >>> ((1 : Int32) &&& 31)), .int (p1 - (Int32.ofNat n22)), .int (Int32.ofNat n22)]) (h' := hpS s) rfl ?_
      refine Ex.cl hq rfl rfl ?_
      refine Rn.mono (q_307 (d := d + 1) (Int32.ofNat n22) (p1 - (Int32.ofNat n22)) ((Int32.ofNat n22) >>> ((1 : Int32) &&& 31)) s k) ?_
      rintro _ _ ⟨r25, s24, rfl, rfl, k⟩
      show Ex sc (d + 3) 295 18 [.ref (p0 + 118), .int p1, .int (Int32.ofNat n22), pu] [.int r25] (hpS s24) _
      refine Ex.seg hq 3 (j := 21) (L' := [.ref (p0 + 118), .int p1, .int (Int32.ofNat n22), .int r25]) (S' := [.ref (p0 + 118), .ref (p0 + 118)]) (h' := hpS s24) rfl ?_
      rcases k with ⟨e, k⟩ | ⟨b26, e, k⟩
      · refine Ex.gfd hq rfl e ?_
        refine Ex.seg hq 1 (j := 23) (L' := [.ref (p0 + 118), .int p1, .int (Int32.ofNat n22), .int r25]) (S' := [.int r25, .float 1, .ref (p0 + 118)]) (h' := hpS s24) rfl ?_
        refine Ex.cl hq rfl rfl ?_
        refine Rn.mono (q_303_F1 (d := d + 2) r25 s24 k) ?_
        rintro _ _ ⟨r28, s27, rfl, rfl, k⟩
        show Ex sc (d + 3) 295 24 [.ref (p0 + 118), .int p1, .int (Int32.ofNat n22), .int r25] [.ref (r28 + 118), .ref (p0 + 118)] (hpS s27) _
        refine Ex.seg hq 1 (j := 25) (L' := [.ref (p0 + 118), .int p1, .int (Int32.ofNat n22), .int r25]) (S' := [.ref (r28 + 118), .ref (p0 + 118), .ref (r28 + 118)]) (h' := hpS s27) rfl ?_
        obtain ⟨f29, e, hk, k⟩ := k
        refine Ex.pfd hq rfl e hk rfl ?_
        show Ex sc (d + 3) 295 26 [.ref (p0 + 118), .int p1, .int (Int32.ofNat n22), .int r25] [.ref (r28 + 118)] (hpS (sD s27 (s27.2.2.2.2.set p0 (.inr (13, f29.set 1 (.ref (r28 + 118))))))) _
        exact Ex.rt hq rfl rfl ⟨r28, (sD s27 (s27.2.2.2.2.set p0 (.inr (13, f29.set 1 (.ref (r28 + 118)))))), rfl, rfl, k⟩
      · refine Ex.gfd hq rfl e ?_
        refine Ex.seg hq 1 (j := 23) (L' := [.ref (p0 + 118), .int p1, .int (Int32.ofNat n22), .int r25]) (S' := [.int r25, .ref (b26 + 118), .ref (p0 + 118)]) (h' := hpS s24) rfl ?_
        refine Ex.cl hq rfl rfl ?_
        refine Rn.mono (q_303 (d := d + 0) b26 r25 s24 k) ?_
        rintro _ _ ⟨r31, s30, rfl, rfl, k⟩
        show Ex sc (d + 3) 295 24 [.ref (p0 + 118), .int p1, .int (Int32.ofNat n22), .int r25] [.ref (r31 + 118), .ref (p0 + 118)] (hpS s30) _
        refine Ex.seg hq 1 (j := 25) (L' := [.ref (p0 + 118), .int p1, .int (Int32.ofNat n22), .int r25]) (S' := [.ref (r31 + 118), .ref (p0 + 118), .ref (r31 + 118)]) (h' := hpS s30) rfl ?_
        obtain ⟨f32, e, hk, k⟩ := k
        refine Ex.pfd hq rfl e hk rfl ?_
        show Ex sc (d + 3) 295 26 [.ref (p0 + 118), .int p1, .int (Int32.ofNat n22), .int r25] [.ref (r31 + 118)] (hpS (sD s30 (s30.2.2.2.2.set p0 (.inr (13, f32.set 1 (.ref (r31 + 118))))))) _
        exact Ex.rt hq rfl rfl ⟨r31, (sD s30 (s30.2.2.2.2.set p0 (.inr (13, f32.set 1 (.ref (r31 + 118)))))), rfl, rfl, k⟩
    · have k := k.2 c
      refine Ex.seg hq 1 (j := 7) (L' := [.ref (p0 + 118), .int p1, .int (Int32.ofNat n22), pu]) (S' := [.ref (p0 + 118)]) (h' := hpS s) rfl ?_
      rcases k with ⟨e, k⟩ | ⟨b33, e, k⟩
      · refine Ex.gfd hq rfl e ?_
        refine Ex.seg hq 6 (j := 31) (L' := [.ref (p0 + 118), .int p1, .int (Int32.ofNat n22), pu]) (S' := [.int (if (10 : Int32) < p1 then p1 else (10 : Int32)), .ref (p0 + 118)]) (h' := hpS s) rfl ?_
        obtain ⟨h0, h1, k⟩ := k
        refine Ex.anw hq rfl h0 h1 ?_
        show Ex sc (d + 3) 295 32 [.ref (p0 + 118), .int p1, .int (Int32.ofNat n22), pu] [.ref (s.2.2.2.2.length + 118), .ref (p0 + 118)] (hpS (sD s (s.2.2.2.2 ++ [(Sum.inl (4, ((if (10 : Int32) < p1 then p1 else (10 : Int32))).toNatClampNeg, .inr (.inr (fun _ => none))) : PC)]))) _
        refine Ex.seg hq 1 (j := 33) (L' := [.ref (p0 + 118), .int p1, .int (Int32.ofNat n22), pu]) (S' := [.ref (s.2.2.2.2.length + 118), .ref (p0 + 118), .ref (s.2.2.2.2.length + 118)]) (h' := hpS (sD s (s.2.2.2.2 ++ [(Sum.inl (4, ((if (10 : Int32) < p1 then p1 else (10 : Int32))).toNatClampNeg, .inr (.inr (fun _ => none))) : PC)]))) rfl ?_
        obtain ⟨f34, e, hk, k⟩ := k
        refine Ex.pfd hq rfl e hk rfl ?_
        show Ex sc (d + 3) 295 34 [.ref (p0 + 118), .int p1, .int (Int32.ofNat n22), pu] [.ref (s.2.2.2.2.length + 118)] (hpS (sD s ((s.2.2.2.2 ++ [(Sum.inl (4, ((if (10 : Int32) < p1 then p1 else (10 : Int32))).toNatClampNeg, .inr (.inr (fun _ => none))) : PC)]).set p0 (.inr (13, f34.set 1 (.ref (s.2.2.2.2.length + 118))))))) _
        exact Ex.rt hq rfl rfl ⟨s.2.2.2.2.length, (sD s ((s.2.2.2.2 ++ [(Sum.inl (4, ((if (10 : Int32) < p1 then p1 else (10 : Int32))).toNatClampNeg, .inr (.inr (fun _ => none))) : PC)]).set p0 (.inr (13, f34.set 1 (.ref (s.2.2.2.2.length + 118)))))), rfl, rfl, k⟩
      · refine Ex.gfd hq rfl e ?_
        refine Ex.seg hq 9 (j := 17) (L' := [.ref (p0 + 118), .int p1, .int (Int32.ofNat n22), pu]) (S' := [.int ((Int32.ofNat n22) >>> ((1 : Int32) &&& 31)), .int (p1 - (Int32.ofNat n22)), .int (Int32.ofNat n22)]) (h' := hpS s) rfl ?_
        refine Ex.cl hq rfl rfl ?_
        refine Rn.mono (q_307 (d := d + 1) (Int32.ofNat n22) (p1 - (Int32.ofNat n22)) ((Int32.ofNat n22) >>> ((1 : Int32) &&& 31)) s k) ?_
        rintro _ _ ⟨r36, s35, rfl, rfl, k⟩
        show Ex sc (d + 3) 295 18 [.ref (p0 + 118), .int p1, .int (Int32.ofNat n22), pu] [.int r36] (hpS s35) _
        refine Ex.seg hq 3 (j := 21) (L' := [.ref (p0 + 118), .int p1, .int (Int32.ofNat n22), .int r36]) (S' := [.ref (p0 + 118), .ref (p0 + 118)]) (h' := hpS s35) rfl ?_
        rcases k with ⟨e, k⟩ | ⟨b37, e, k⟩
        · refine Ex.gfd hq rfl e ?_
          refine Ex.seg hq 1 (j := 23) (L' := [.ref (p0 + 118), .int p1, .int (Int32.ofNat n22), .int r36]) (S' := [.int r36, .float 1, .ref (p0 + 118)]) (h' := hpS s35) rfl ?_
          refine Ex.cl hq rfl rfl ?_
          refine Rn.mono (q_303_F1 (d := d + 2) r36 s35 k) ?_
          rintro _ _ ⟨r39, s38, rfl, rfl, k⟩
          show Ex sc (d + 3) 295 24 [.ref (p0 + 118), .int p1, .int (Int32.ofNat n22), .int r36] [.ref (r39 + 118), .ref (p0 + 118)] (hpS s38) _
          refine Ex.seg hq 1 (j := 25) (L' := [.ref (p0 + 118), .int p1, .int (Int32.ofNat n22), .int r36]) (S' := [.ref (r39 + 118), .ref (p0 + 118), .ref (r39 + 118)]) (h' := hpS s38) rfl ?_
          obtain ⟨f40, e, hk, k⟩ := k
          refine Ex.pfd hq rfl e hk rfl ?_
          show Ex sc (d + 3) 295 26 [.ref (p0 + 118), .int p1, .int (Int32.ofNat n22), .int r36] [.ref (r39 + 118)] (hpS (sD s38 (s38.2.2.2.2.set p0 (.inr (13, f40.set 1 (.ref (r39 + 118))))))) _
          exact Ex.rt hq rfl rfl ⟨r39, (sD s38 (s38.2.2.2.2.set p0 (.inr (13, f40.set 1 (.ref (r39 + 118)))))), rfl, rfl, k⟩
        · refine Ex.gfd hq rfl e ?_
          refine Ex.seg hq 1 (j := 23) (L' := [.ref (p0 + 118), .int p1, .int (Int32.ofNat n22), .int r36]) (S' := [.int r36, .ref (b37 + 118), .ref (p0 + 118)]) (h' := hpS s35) rfl ?_
          refine Ex.cl hq rfl rfl ?_
          refine Rn.mono (q_303 (d := d + 0) b37 r36 s35 k) ?_
          rintro _ _ ⟨r42, s41, rfl, rfl, k⟩
          show Ex sc (d + 3) 295 24 [.ref (p0 + 118), .int p1, .int (Int32.ofNat n22), .int r36] [.ref (r42 + 118), .ref (p0 + 118)] (hpS s41) _
          refine Ex.seg hq 1 (j := 25) (L' := [.ref (p0 + 118), .int p1, .int (Int32.ofNat n22), .int r36]) (S' := [.ref (r42 + 118), .ref (p0 + 118), .ref (r42 + 118)]) (h' := hpS s41) rfl ?_
          obtain ⟨f43, e, hk, k⟩ := k
          refine Ex.pfd hq rfl e hk rfl ?_
          show Ex sc (d + 3) 295 26 [.ref (p0 + 118), .int p1, .int (Int32.ofNat n22), .int r36] [.ref (r42 + 118)] (hpS (sD s41 (s41.2.2.2.2.set p0 (.inr (13, f43.set 1 (.ref (r42 + 118))))))) _
          exact Ex.rt hq rfl rfl ⟨r42, (sD s41 (s41.2.2.2.2.set p0 (.inr (13, f43.set 1 (.ref (r42 + 118)))))), rfl, rfl, k⟩
/-- java/util/ArrayList.grow()[Ljava/lang/Object; -/
def w_296 (p0 : Nat) (s : ST) (K : Nat → ST → Prop) : Prop := (∃ v1, pgf s.2.2.2.2 p0 13 2 = some (.int v1) ∧ (∃ f4, pob s.2.2.2.2 p0 13 = some f4 ∧ w_295 p0 (v1 + (1 : Int32)) s (fun r3 s2 => K r3 s2)))
theorem q_296 {d : Nat} {K : Nat → ST → Prop} (p0 : Nat) (s : ST) (k : w_296 p0 s K) : Rn sc (d + 4) 296 [.ref (p0 + 118)] (hpS s) (kA K) := by
  have hq : prog[296]? = some pm296 := rfl
  refine Rn.of (L := [.ref (p0 + 118)]) hq rfl rfl ?_
  unfold w_296 at k
  refine Ex.seg hq 2 (j := 2) (L' := [.ref (p0 + 118)]) (S' := [.ref (p0 + 118), .ref (p0 + 118)]) (h' := hpS s) rfl ?_
  obtain ⟨v1, e, k⟩ := k
  refine Ex.gfd hq rfl e ?_
  refine Ex.seg hq 2 (j := 5) (L' := [.ref (p0 + 118)]) (S' := [.int (v1 + (1 : Int32)), .ref (p0 + 118)]) (h' := hpS s) rfl ?_
  obtain ⟨f4, e, k⟩ := k
  refine Ex.cvd hq rfl rfl e rfl ?_
  refine Rn.mono (q_295 (d := d + 0) p0 (v1 + (1 : Int32)) s k) ?_
  rintro _ _ ⟨r3, s2, rfl, rfl, k⟩
  show Ex sc (d + 4) 296 6 [.ref (p0 + 118)] [.ref (r3 + 118)] (hpS s2) _
  exact Ex.rt hq rfl rfl ⟨r3, s2, rfl, rfl, k⟩
/-- java/util/ArrayList.add(Ljava/lang/Object;[Ljava/lang/Object;I)V -/
def w_300_F1 (p0 : Nat) (p1 : Nat) (p3 : Int32) (s : ST) (K : ST → Prop) : Prop := ((¬ p3 = (0 : Int32) → False) ∧ (¬ (¬ p3 = (0 : Int32)) → (∃ f3, pob s.2.2.2.2 p0 13 = some f3 ∧ w_296 p0 s (fun r2 s1 => (∃ (n4 : Nat) (f5 : Nat → Option Nat) (o6 : Nat × List Value), prowR s1.2.2.2.2 r2 = some (n4, f5) ∧ pin p3 n4 = true ∧ s1.2.2.2.2[p1]? = some (.inr o6) ∧ (∃ f7, pob (s1.2.2.2.2.set r2 (.inl (4, n4, .inr (.inr (va_up f5 (p3).toNatClampNeg (some (p1 + 118))))))) p0 13 = some f7 ∧ 2 < f7.length ∧ K (sD s1 ((s1.2.2.2.2.set r2 (.inl (4, n4, .inr (.inr (va_up f5 (p3).toNatClampNeg (some (p1 + 118))))))).set p0 (.inr (13, f7.set 2 (.int (p3 + (1 : Int32)))))))))))))
theorem q_300_F1 {d : Nat} {K : ST → Prop} (p0 : Nat) (p1 : Nat) (p3 : Int32) (s : ST) (k : w_300_F1 p0 p1 p3 s K) : Rn sc (d + 5) 300 [.ref (p0 + 118), .ref (p1 + 118), .float 1, .int p3] (hpS s) (kV K) := by
  have hq : prog[300]? = some pm300 := rfl
  refine Rn.of (L := [.ref (p0 + 118), .ref (p1 + 118), .float 1, .int p3]) hq rfl rfl ?_
  unfold w_300_F1 at k
  refine Ex.seg hq 3 (j := 3) (L' := [.ref (p0 + 118), .ref (p1 + 118), .float 1, .int p3]) (S' := [.int (0 : Int32), .int p3]) (h' := hpS s) rfl ?_
  refine Ex.i2 hq rfl (fun c => ?_) (fun c => ?_)
  · have k := k.1 c
    refine Ex.seg hq 3 (j := 10) (L' := [.ref (p0 + 118), .ref (p1 + 118), .float 1, .int p3]) (S' := [.ref (p1 + 118), .int p3, .float 1]) (h' := hpS s) rfl ?_
    exact k.elim
  · have k := k.2 c
    refine Ex.seg hq 1 (j := 5) (L' := [.ref (p0 + 118), .ref (p1 + 118), .float 1, .int p3]) (S' := [.ref (p0 + 118)]) (h' := hpS s) rfl ?_
    obtain ⟨f3, e, k⟩ := k
    refine Ex.cvd hq rfl rfl e rfl ?_
    refine Rn.mono (q_296 (d := d + 0) p0 s k) ?_
    rintro _ _ ⟨r2, s1, rfl, rfl, k⟩
    show Ex sc (d + 5) 300 6 [.ref (p0 + 118), .ref (p1 + 118), .float 1, .int p3] [.ref (r2 + 118)] (hpS s1) _
    refine Ex.seg hq 4 (j := 10) (L' := [.ref (p0 + 118), .ref (p1 + 118), .ref (r2 + 118), .int p3]) (S' := [.ref (p1 + 118), .int p3, .ref (r2 + 118)]) (h' := hpS s1) rfl ?_
    obtain ⟨n4, f5, o6, e, hin, hy, k⟩ := k
    refine Ex.asd hq rfl e hin hy ?_
    show Ex sc (d + 5) 300 11 [.ref (p0 + 118), .ref (p1 + 118), .ref (r2 + 118), .int p3] [] (hpS (sD s1 (s1.2.2.2.2.set r2 (.inl (4, n4, .inr (.inr (va_up f5 (p3).toNatClampNeg (some (p1 + 118))))))))) _
    refine Ex.seg hq 4 (j := 15) (L' := [.ref (p0 + 118), .ref (p1 + 118), .ref (r2 + 118), .int p3]) (S' := [.int (p3 + (1 : Int32)), .ref (p0 + 118)]) (h' := hpS (sD s1 (s1.2.2.2.2.set r2 (.inl (4, n4, .inr (.inr (va_up f5 (p3).toNatClampNeg (some (p1 + 118))))))))) rfl ?_
    obtain ⟨f7, e, hk, k⟩ := k
    refine Ex.pfd hq rfl e hk rfl ?_
    show Ex sc (d + 5) 300 16 [.ref (p0 + 118), .ref (p1 + 118), .ref (r2 + 118), .int p3] [] (hpS (sD s1 ((s1.2.2.2.2.set r2 (.inl (4, n4, .inr (.inr (va_up f5 (p3).toNatClampNeg (some (p1 + 118))))))).set p0 (.inr (13, f7.set 2 (.int (p3 + (1 : Int32)))))))) _
    exact Ex.rt hq rfl rfl ⟨(sD s1 ((s1.2.2.2.2.set r2 (.inl (4, n4, .inr (.inr (va_up f5 (p3).toNatClampNeg (some (p1 + 118))))))).set p0 (.inr (13, f7.set 2 (.int (p3 + (1 : Int32))))))), rfl, rfl, k⟩
/-- java/util/ArrayList.add(Ljava/lang/Object;[Ljava/lang/Object;I)V -/
def w_300 (p0 : Nat) (p1 : Nat) (p2 : Nat) (p3 : Int32) (s : ST) (K : ST → Prop) : Prop := (∃ n1 f2, prowR s.2.2.2.2 p2 = some (n1, f2) ∧ ((¬ p3 = (Int32.ofNat n1) → (∃ (n3 : Nat) (f4 : Nat → Option Nat) (o5 : Nat × List Value), prowR s.2.2.2.2 p2 = some (n3, f4) ∧ pin p3 n3 = true ∧ s.2.2.2.2[p1]? = some (.inr o5) ∧ (∃ f6, pob (s.2.2.2.2.set p2 (.inl (4, n3, .inr (.inr (va_up f4 (p3).toNatClampNeg (some (p1 + 118))))))) p0 13 = some f6 ∧ 2 < f6.length ∧ K (sD s ((s.2.2.2.2.set p2 (.inl (4, n3, .inr (.inr (va_up f4 (p3).toNatClampNeg (some (p1 + 118))))))).set p0 (.inr (13, f6.set 2 (.int (p3 + (1 : Int32)))))))))) ∧ (¬ (¬ p3 = (Int32.ofNat n1)) → (∃ f9, pob s.2.2.2.2 p0 13 = some f9 ∧ w_296 p0 s (fun r8 s7 => (∃ (n10 : Nat) (f11 : Nat → Option Nat) (o12 : Nat × List Value), prowR s7.2.2.2.2 r8 = some (n10, f11) ∧ pin p3 n10 = true ∧ s7.2.2.2.2[p1]? = some (.inr o12) ∧ (∃ f13, pob (s7.2.2.2.2.set r8 (.inl (4, n10, .inr (.inr (va_up f11 (p3).toNatClampNeg (some (p1 + 118))))))) p0 13 = some f13 ∧ 2 < f13.length ∧ K (sD s7 ((s7.2.2.2.2.set r8 (.inl (4, n10, .inr (.inr (va_up f11 (p3).toNatClampNeg (some (p1 + 118))))))).set p0 (.inr (13, f13.set 2 (.int (p3 + (1 : Int32))))))))))))))
theorem q_300 {d : Nat} {K : ST → Prop} (p0 : Nat) (p1 : Nat) (p2 : Nat) (p3 : Int32) (s : ST) (k : w_300 p0 p1 p2 p3 s K) : Rn sc (d + 5) 300 [.ref (p0 + 118), .ref (p1 + 118), .ref (p2 + 118), .int p3] (hpS s) (kV K) := by
  have hq : prog[300]? = some pm300 := rfl
  refine Rn.of (L := [.ref (p0 + 118), .ref (p1 + 118), .ref (p2 + 118), .int p3]) hq rfl rfl ?_
  unfold w_300 at k
  refine Ex.seg hq 2 (j := 2) (L' := [.ref (p0 + 118), .ref (p1 + 118), .ref (p2 + 118), .int p3]) (S' := [.ref (p2 + 118), .int p3]) (h' := hpS s) rfl ?_
  obtain ⟨n1, f2, e, k⟩ := k
  refine Ex.lnR hq rfl e ?_
  refine Ex.i2 hq rfl (fun c => ?_) (fun c => ?_)
  · have k := k.1 c
    refine Ex.seg hq 3 (j := 10) (L' := [.ref (p0 + 118), .ref (p1 + 118), .ref (p2 + 118), .int p3]) (S' := [.ref (p1 + 118), .int p3, .ref (p2 + 118)]) (h' := hpS s) rfl ?_
    obtain ⟨n3, f4, o5, e, hin, hy, k⟩ := k
    refine Ex.asd hq rfl e hin hy ?_
    show Ex sc (d + 5) 300 11 [.ref (p0 + 118), .ref (p1 + 118), .ref (p2 + 118), .int p3] [] (hpS (sD s (s.2.2.2.2.set p2 (.inl (4, n3, .inr (.inr (va_up f4 (p3).toNatClampNeg (some (p1 + 118))))))))) _
    refine Ex.seg hq 4 (j := 15) (L' := [.ref (p0 + 118), .ref (p1 + 118), .ref (p2 + 118), .int p3]) (S' := [.int (p3 + (1 : Int32)), .ref (p0 + 118)]) (h' := hpS (sD s (s.2.2.2.2.set p2 (.inl (4, n3, .inr (.inr (va_up f4 (p3).toNatClampNeg (some (p1 + 118))))))))) rfl ?_
    obtain ⟨f6, e, hk, k⟩ := k
    refine Ex.pfd hq rfl e hk rfl ?_
    show Ex sc (d + 5) 300 16 [.ref (p0 + 118), .ref (p1 + 118), .ref (p2 + 118), .int p3] [] (hpS (sD s ((s.2.2.2.2.set p2 (.inl (4, n3, .inr (.inr (va_up f4 (p3).toNatClampNeg (some (p1 + 118))))))).set p0 (.inr (13, f6.set 2 (.int (p3 + (1 : Int32)))))))) _
    exact Ex.rt hq rfl rfl ⟨(sD s ((s.2.2.2.2.set p2 (.inl (4, n3, .inr (.inr (va_up f4 (p3).toNatClampNeg (some (p1 + 118))))))).set p0 (.inr (13, f6.set 2 (.int (p3 + (1 : Int32))))))), rfl, rfl, k⟩
  · have k := k.2 c
    refine Ex.seg hq 1 (j := 5) (L' := [.ref (p0 + 118), .ref (p1 + 118), .ref (p2 + 118), .int p3]) (S' := [.ref (p0 + 118)]) (h' := hpS s) rfl ?_
    obtain ⟨f9, e, k⟩ := k
    refine Ex.cvd hq rfl rfl e rfl ?_
    refine Rn.mono (q_296 (d := d + 0) p0 s k) ?_
    rintro _ _ ⟨r8, s7, rfl, rfl, k⟩
    show Ex sc (d + 5) 300 6 [.ref (p0 + 118), .ref (p1 + 118), .ref (p2 + 118), .int p3] [.ref (r8 + 118)] (hpS s7) _
    refine Ex.seg hq 4 (j := 10) (L' := [.ref (p0 + 118), .ref (p1 + 118), .ref (r8 + 118), .int p3]) (S' := [.ref (p1 + 118), .int p3, .ref (r8 + 118)]) (h' := hpS s7) rfl ?_
    obtain ⟨n10, f11, o12, e, hin, hy, k⟩ := k
    refine Ex.asd hq rfl e hin hy ?_
    show Ex sc (d + 5) 300 11 [.ref (p0 + 118), .ref (p1 + 118), .ref (r8 + 118), .int p3] [] (hpS (sD s7 (s7.2.2.2.2.set r8 (.inl (4, n10, .inr (.inr (va_up f11 (p3).toNatClampNeg (some (p1 + 118))))))))) _
    refine Ex.seg hq 4 (j := 15) (L' := [.ref (p0 + 118), .ref (p1 + 118), .ref (r8 + 118), .int p3]) (S' := [.int (p3 + (1 : Int32)), .ref (p0 + 118)]) (h' := hpS (sD s7 (s7.2.2.2.2.set r8 (.inl (4, n10, .inr (.inr (va_up f11 (p3).toNatClampNeg (some (p1 + 118))))))))) rfl ?_
    obtain ⟨f13, e, hk, k⟩ := k
    refine Ex.pfd hq rfl e hk rfl ?_
    show Ex sc (d + 5) 300 16 [.ref (p0 + 118), .ref (p1 + 118), .ref (r8 + 118), .int p3] [] (hpS (sD s7 ((s7.2.2.2.2.set r8 (.inl (4, n10, .inr (.inr (va_up f11 (p3).toNatClampNeg (some (p1 + 118))))))).set p0 (.inr (13, f13.set 2 (.int (p3 + (1 : Int32)))))))) _
    exact Ex.rt hq rfl rfl ⟨(sD s7 ((s7.2.2.2.2.set r8 (.inl (4, n10, .inr (.inr (va_up f11 (p3).toNatClampNeg (some (p1 + 118))))))).set p0 (.inr (13, f13.set 2 (.int (p3 + (1 : Int32))))))), rfl, rfl, k⟩
end WP
