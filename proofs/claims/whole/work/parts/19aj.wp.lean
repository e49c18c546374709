/-! ===== weakest preconditions, printed by wip/whole/genwp.py ===== -/
section WP
variable {sc : Nat × (Nat → Int32)}
/-- RowAuditor$View.append(I)V -/
def w_113 (p1 : Int32) (s : ST) (K : ST → Prop) : Prop := w_118 p1 s (fun r2 s1 => ((r2 = 0 → K s1) ∧ (¬ (r2 = 0) → (((150 : Int32) ≤ (s1.1 801) → K s1) ∧ (¬ ((150 : Int32) ≤ (s1.1 801)) → (pin (s1.1 801) 150 = true ∧ (pin p1 150 = true ∧ K (sA (sA (sI s1 801 ((s1.1 801) + (1 : Int32))) 11 (upd (s1.2.1 11) ((s1.1 801)).toNatClampNeg p1)) 10 (upd (s1.2.1 10) (p1).toNatClampNeg (s1.1 801))))))))))
theorem q_113 {d : Nat} {K : ST → Prop} (p1 : Int32) (s : ST) (k : w_113 p1 s K) : Rn sc (d + 1) 113 [.ref 8, .int p1] (hpS s) (kV K) := by
  have hq : prog[113]? = some pm113 := rfl
  refine Rn.of (L := [.ref 8, .int p1]) hq rfl rfl ?_
  unfold w_113 at k
  refine Ex.seg hq 2 (j := 2) (L' := [.ref 8, .int p1]) (S' := [.int p1, .ref 8]) (h' := hpS s) rfl ?_
  refine Ex.cl hq rfl rfl ?_
  refine Rn.mono (q_118 (d := d + 0) p1 s k) ?_
  rintro _ _ ⟨r2, s1, rfl, hzr2, rfl, k⟩
  show Ex sc (d + 1) 113 3 [.ref 8, .int p1] [.int r2] (hpS s1) _
  refine Ex.i1 hq rfl (fun c => ?_) (fun c => ?_)
  · have k := k.1 c
    exact Ex.rt hq rfl rfl ⟨s1, rfl, rfl, k⟩
  · have k := k.2 c
    refine Ex.seg hq 3 (j := 7) (L' := [.ref 8, .int p1]) (S' := [.int (150 : Int32), .int (s1.1 801)]) (h' := hpS s1) rfl ?_
    refine Ex.i2 hq rfl (fun c => ?_) (fun c => ?_)
    · have k := k.1 c
      exact Ex.rt hq rfl rfl ⟨s1, rfl, rfl, k⟩
    · have k := k.2 c
      refine Ex.seg hq 5 (j := 13) (L' := [.ref 8, .int p1]) (S' := [.int p1, .int (s1.1 801), .ref 11]) (h' := hpS s1) rfl ?_
      obtain ⟨hin, k⟩ := k
      refine Ex.ias hq rfl rfl hin (h' := hpS (sA s1 11 (upd (s1.2.1 11) ((s1.1 801)).toNatClampNeg p1))) (hset_11 _ _) ?_
      refine Ex.seg hq 5 (j := 19) (L' := [.ref 8, .int p1]) (S' := [.int (s1.1 801), .int p1, .ref 10]) (h' := hpS (sA s1 11 (upd (s1.2.1 11) ((s1.1 801)).toNatClampNeg p1))) rfl ?_
      obtain ⟨hin, k⟩ := k
      refine Ex.ias hq rfl rfl hin (h' := hpS (sA (sA s1 11 (upd (s1.2.1 11) ((s1.1 801)).toNatClampNeg p1)) 10 (upd (s1.2.1 10) (p1).toNatClampNeg (s1.1 801)))) (hset_10 _ _) ?_
      refine Ex.seg hq 6 (j := 26) (L' := [.ref 8, .int p1]) (S' := []) (h' := hpS (sA (sA (sI s1 801 ((s1.1 801) + (1 : Int32))) 11 (upd (s1.2.1 11) ((s1.1 801)).toNatClampNeg p1)) 10 (upd (s1.2.1 10) (p1).toNatClampNeg (s1.1 801)))) rfl ?_
      exact Ex.rt hq rfl rfl ⟨(sA (sA (sI s1 801 ((s1.1 801) + (1 : Int32))) 11 (upd (s1.2.1 11) ((s1.1 801)).toNatClampNeg p1)) 10 (upd (s1.2.1 10) (p1).toNatClampNeg (s1.1 801))), rfl, rfl, k⟩
/-- RowAuditor$View.groupOf(I)I -/
def w_117 (p1 : Int32) (s : ST) (K : Int32 → ST → Prop) : Prop := w_9 p1 (0 : Int32) s (fun r2 s1 => ((r2 = 0 → w_9 p1 (2 : Int32) s1 (fun r4 s3 => K ((r2 * (20 : Int32)) + r4) s3)) ∧ (¬ (r2 = 0) → ((¬ r2 = (1 : Int32) → K (-1 : Int32) s1) ∧ (¬ (¬ r2 = (1 : Int32)) → w_9 p1 (2 : Int32) s1 (fun r6 s5 => K ((r2 * (20 : Int32)) + r6) s5))))))
theorem q_117 {d : Nat} {K : Int32 → ST → Prop} (p1 : Int32) (s : ST) (k : w_117 p1 s K) : Rn sc (d + 1) 117 [.ref 8, .int p1] (hpS s) (kI K) := by
  have hq : prog[117]? = some pm117 := rfl
  refine Rn.of (L := [.ref 8, .int p1, pu]) hq rfl rfl ?_
  unfold w_117 at k
  refine Ex.seg hq 4 (j := 4) (L' := [.ref 8, .int p1, pu]) (S' := [.int (0 : Int32), .int p1, .ref 1]) (h' := hpS s) rfl ?_
  refine Ex.cl hq rfl rfl ?_
  refine Rn.mono (q_9 (d := d + 0) p1 (0 : Int32) s k) ?_
  rintro _ _ ⟨r2, s1, rfl, rfl, k⟩
  show Ex sc (d + 1) 117 5 [.ref 8, .int p1, pu] [.int r2] (hpS s1) _
  refine Ex.seg hq 2 (j := 7) (L' := [.ref 8, .int p1, .int r2]) (S' := [.int r2]) (h' := hpS s1) rfl ?_
  refine Ex.i1 hq rfl (fun c => ?_) (fun c => ?_)
  · have k := k.1 c
    refine Ex.seg hq 7 (j := 18) (L' := [.ref 8, .int p1, .int r2]) (S' := [.int (2 : Int32), .int p1, .ref 1, .int (r2 * (20 : Int32))]) (h' := hpS s1) rfl ?_
    refine Ex.cl hq rfl rfl ?_
    refine Rn.mono (q_9 (d := d + 0) p1 (2 : Int32) s1 k) ?_
    rintro _ _ ⟨r4, s3, rfl, rfl, k⟩
    show Ex sc (d + 1) 117 19 [.ref 8, .int p1, .int r2] [.int r4, .int (r2 * (20 : Int32))] (hpS s3) _
    refine Ex.seg hq 2 (j := 22) (L' := [.ref 8, .int p1, .int r2]) (S' := [.int ((r2 * (20 : Int32)) + r4)]) (h' := hpS s3) rfl ?_
    exact Ex.rt hq rfl rfl ⟨((r2 * (20 : Int32)) + r4), s3, rfl, rfl, k⟩
  · have k := k.2 c
    refine Ex.seg hq 2 (j := 10) (L' := [.ref 8, .int p1, .int r2]) (S' := [.int (1 : Int32), .int r2]) (h' := hpS s1) rfl ?_
    refine Ex.i2 hq rfl (fun c => ?_) (fun c => ?_)
    · have k := k.1 c
      refine Ex.seg hq 1 (j := 22) (L' := [.ref 8, .int p1, .int r2]) (S' := [.int (-1 : Int32)]) (h' := hpS s1) rfl ?_
      exact Ex.rt hq rfl rfl ⟨(-1 : Int32), s1, rfl, rfl, k⟩
    · have k := k.2 c
      refine Ex.seg hq 7 (j := 18) (L' := [.ref 8, .int p1, .int r2]) (S' := [.int (2 : Int32), .int p1, .ref 1, .int (r2 * (20 : Int32))]) (h' := hpS s1) rfl ?_
      refine Ex.cl hq rfl rfl ?_
      refine Rn.mono (q_9 (d := d + 0) p1 (2 : Int32) s1 k) ?_
      rintro _ _ ⟨r6, s5, rfl, rfl, k⟩
      show Ex sc (d + 1) 117 19 [.ref 8, .int p1, .int r2] [.int r6, .int (r2 * (20 : Int32))] (hpS s5) _
      refine Ex.seg hq 2 (j := 22) (L' := [.ref 8, .int p1, .int r2]) (S' := [.int ((r2 * (20 : Int32)) + r6)]) (h' := hpS s5) rfl ?_
      exact Ex.rt hq rfl rfl ⟨((r2 * (20 : Int32)) + r6), s5, rfl, rfl, k⟩
/-- RowAuditor$View.countRow(II)V -/
def w_116 (p1 : Int32) (p2 : Int32) (s : ST) (K : ST → Prop) : Prop := w_9 p1 (6 : Int32) s (fun r2 s1 => w_181 r2 (0 : Int32) (15 : Int32) s1 (fun r4 s3 => ((r4 = 0 → w_117 p1 s3 (fun r6 s5 => w_181 r6 (0 : Int32) ((Int32.ofNat 40) - (1 : Int32)) s5 (fun r8 s7 => ((r8 = 0 → K s7) ∧ (¬ (r8 = 0) → (pin r6 40 = true ∧ w_119 p1 s7 (fun r10 s9 => (pin r6 40 = true ∧ K (sA s9 15 (upd (s9.2.1 15) (r6).toNatClampNeg (((s7.2.1 15) (r6).toNatClampNeg) + (p2 * r10)))))))))))) ∧ (¬ (r4 = 0) → (pin r2 16 = true ∧ (pin r2 16 = true ∧ w_117 p1 (sA s3 14 (upd (s3.2.1 14) (r2).toNatClampNeg (((s3.2.1 14) (r2).toNatClampNeg) + p2))) (fun r12 s11 => w_181 r12 (0 : Int32) ((Int32.ofNat 40) - (1 : Int32)) s11 (fun r14 s13 => ((r14 = 0 → K s13) ∧ (¬ (r14 = 0) → (pin r12 40 = true ∧ w_119 p1 s13 (fun r16 s15 => (pin r12 40 = true ∧ K (sA s15 15 (upd (s15.2.1 15) (r12).toNatClampNeg (((s13.2.1 15) (r12).toNatClampNeg) + (p2 * r16)))))))))))))))))
theorem q_116 {d : Nat} {K : ST → Prop} (p1 : Int32) (p2 : Int32) (s : ST) (k : w_116 p1 p2 s K) : Rn sc (d + 2) 116 [.ref 8, .int p1, .int p2] (hpS s) (kV K) := by
  have hq : prog[116]? = some pm116 := rfl
  refine Rn.of (L := [.ref 8, .int p1, .int p2, pu, pu]) hq rfl rfl ?_
  unfold w_116 at k
  refine Ex.seg hq 4 (j := 4) (L' := [.ref 8, .int p1, .int p2, pu, pu]) (S' := [.int (6 : Int32), .int p1, .ref 1]) (h' := hpS s) rfl ?_
  refine Ex.cl hq rfl rfl ?_
  refine Rn.mono (q_9 (d := d + 1) p1 (6 : Int32) s k) ?_
  rintro _ _ ⟨r2, s1, rfl, rfl, k⟩
  show Ex sc (d + 2) 116 5 [.ref 8, .int p1, .int p2, pu, pu] [.int r2] (hpS s1) _
  refine Ex.seg hq 4 (j := 9) (L' := [.ref 8, .int p1, .int p2, .int r2, pu]) (S' := [.int (15 : Int32), .int (0 : Int32), .int r2]) (h' := hpS s1) rfl ?_
  refine Ex.cl hq rfl rfl ?_
  refine Rn.mono (q_181 (d := d + 1) r2 (0 : Int32) (15 : Int32) s1 k) ?_
  rintro _ _ ⟨r4, s3, rfl, hzr4, rfl, k⟩
  show Ex sc (d + 2) 116 10 [.ref 8, .int p1, .int p2, .int r2, pu] [.int r4] (hpS s3) _
  refine Ex.i1 hq rfl (fun c => ?_) (fun c => ?_)
  · have k := k.1 c
    refine Ex.seg hq 2 (j := 21) (L' := [.ref 8, .int p1, .int p2, .int r2, pu]) (S' := [.int p1, .ref 8]) (h' := hpS s3) rfl ?_
    refine Ex.cl hq rfl rfl ?_
    refine Rn.mono (q_117 (d := d + 0) p1 s3 k) ?_
    rintro _ _ ⟨r6, s5, rfl, rfl, k⟩
    show Ex sc (d + 2) 116 22 [.ref 8, .int p1, .int p2, .int r2, pu] [.int r6] (hpS s5) _
    refine Ex.seg hq 8 (j := 30) (L' := [.ref 8, .int p1, .int p2, .int r2, .int r6]) (S' := [.int ((Int32.ofNat 40) - (1 : Int32)), .int (0 : Int32), .int r6]) (h' := hpS s5) rfl ?_
    refine Ex.cl hq rfl rfl ?_
    refine Rn.mono (q_181 (d := d + 1) r6 (0 : Int32) ((Int32.ofNat 40) - (1 : Int32)) s5 k) ?_
    rintro _ _ ⟨r8, s7, rfl, hzr8, rfl, k⟩
    show Ex sc (d + 2) 116 31 [.ref 8, .int p1, .int p2, .int r2, .int r6] [.int r8] (hpS s7) _
    refine Ex.i1 hq rfl (fun c => ?_) (fun c => ?_)
    · have k := k.1 c
      exact Ex.rt hq rfl rfl ⟨s7, rfl, rfl, k⟩
    · have k := k.2 c
      refine Ex.seg hq 4 (j := 36) (L' := [.ref 8, .int p1, .int p2, .int r2, .int r6]) (S' := [.int r6, .ref 15, .int r6, .ref 15]) (h' := hpS s7) rfl ?_
      obtain ⟨hin, k⟩ := k
      refine Ex.ial hq rfl rfl hin ?_
      refine Ex.seg hq 3 (j := 40) (L' := [.ref 8, .int p1, .int p2, .int r2, .int r6]) (S' := [.int p1, .ref 8, .int p2, .int ((s7.2.1 15) (r6).toNatClampNeg), .int r6, .ref 15]) (h' := hpS s7) rfl ?_
      refine Ex.cl hq rfl rfl ?_
      refine Rn.mono (q_119 (d := d + 1) p1 s7 k) ?_
      rintro _ _ ⟨r10, s9, rfl, rfl, k⟩
      show Ex sc (d + 2) 116 41 [.ref 8, .int p1, .int p2, .int r2, .int r6] [.int r10, .int p2, .int ((s7.2.1 15) (r6).toNatClampNeg), .int r6, .ref 15] (hpS s9) _
      refine Ex.seg hq 2 (j := 43) (L' := [.ref 8, .int p1, .int p2, .int r2, .int r6]) (S' := [.int (((s7.2.1 15) (r6).toNatClampNeg) + (p2 * r10)), .int r6, .ref 15]) (h' := hpS s9) rfl ?_
      obtain ⟨hin, k⟩ := k
      refine Ex.ias hq rfl rfl hin (h' := hpS (sA s9 15 (upd (s9.2.1 15) (r6).toNatClampNeg (((s7.2.1 15) (r6).toNatClampNeg) + (p2 * r10))))) (hset_15 _ _) ?_
      exact Ex.rt hq rfl rfl ⟨(sA s9 15 (upd (s9.2.1 15) (r6).toNatClampNeg (((s7.2.1 15) (r6).toNatClampNeg) + (p2 * r10)))), rfl, rfl, k⟩
  · have k := k.2 c
    refine Ex.seg hq 4 (j := 15) (L' := [.ref 8, .int p1, .int p2, .int r2, pu]) (S' := [.int r2, .ref 14, .int r2, .ref 14]) (h' := hpS s3) rfl ?_
    obtain ⟨hin, k⟩ := k
    refine Ex.ial hq rfl rfl hin ?_
    refine Ex.seg hq 2 (j := 18) (L' := [.ref 8, .int p1, .int p2, .int r2, pu]) (S' := [.int (((s3.2.1 14) (r2).toNatClampNeg) + p2), .int r2, .ref 14]) (h' := hpS s3) rfl ?_
    obtain ⟨hin, k⟩ := k
    refine Ex.ias hq rfl rfl hin (h' := hpS (sA s3 14 (upd (s3.2.1 14) (r2).toNatClampNeg (((s3.2.1 14) (r2).toNatClampNeg) + p2)))) (hset_14 _ _) ?_
    refine Ex.seg hq 2 (j := 21) (L' := [.ref 8, .int p1, .int p2, .int r2, pu]) (S' := [.int p1, .ref 8]) (h' := hpS (sA s3 14 (upd (s3.2.1 14) (r2).toNatClampNeg (((s3.2.1 14) (r2).toNatClampNeg) + p2)))) rfl ?_
    refine Ex.cl hq rfl rfl ?_
    refine Rn.mono (q_117 (d := d + 0) p1 (sA s3 14 (upd (s3.2.1 14) (r2).toNatClampNeg (((s3.2.1 14) (r2).toNatClampNeg) + p2))) k) ?_
    rintro _ _ ⟨r12, s11, rfl, rfl, k⟩
    show Ex sc (d + 2) 116 22 [.ref 8, .int p1, .int p2, .int r2, pu] [.int r12] (hpS s11) _
    refine Ex.seg hq 8 (j := 30) (L' := [.ref 8, .int p1, .int p2, .int r2, .int r12]) (S' := [.int ((Int32.ofNat 40) - (1 : Int32)), .int (0 : Int32), .int r12]) (h' := hpS s11) rfl ?_
    refine Ex.cl hq rfl rfl ?_
    refine Rn.mono (q_181 (d := d + 1) r12 (0 : Int32) ((Int32.ofNat 40) - (1 : Int32)) s11 k) ?_
    rintro _ _ ⟨r14, s13, rfl, hzr14, rfl, k⟩
    show Ex sc (d + 2) 116 31 [.ref 8, .int p1, .int p2, .int r2, .int r12] [.int r14] (hpS s13) _
    refine Ex.i1 hq rfl (fun c => ?_) (fun c => ?_)
    · have k := k.1 c
      exact Ex.rt hq rfl rfl ⟨s13, rfl, rfl, k⟩
    · have k := k.2 c
      refine Ex.seg hq 4 (j := 36) (L' := [.ref 8, .int p1, .int p2, .int r2, .int r12]) (S' := [.int r12, .ref 15, .int r12, .ref 15]) (h' := hpS s13) rfl ?_
      obtain ⟨hin, k⟩ := k
      refine Ex.ial hq rfl rfl hin ?_
      refine Ex.seg hq 3 (j := 40) (L' := [.ref 8, .int p1, .int p2, .int r2, .int r12]) (S' := [.int p1, .ref 8, .int p2, .int ((s13.2.1 15) (r12).toNatClampNeg), .int r12, .ref 15]) (h' := hpS s13) rfl ?_
      refine Ex.cl hq rfl rfl ?_
      refine Rn.mono (q_119 (d := d + 1) p1 s13 k) ?_
      rintro _ _ ⟨r16, s15, rfl, rfl, k⟩
      show Ex sc (d + 2) 116 41 [.ref 8, .int p1, .int p2, .int r2, .int r12] [.int r16, .int p2, .int ((s13.2.1 15) (r12).toNatClampNeg), .int r12, .ref 15] (hpS s15) _
      refine Ex.seg hq 2 (j := 43) (L' := [.ref 8, .int p1, .int p2, .int r2, .int r12]) (S' := [.int (((s13.2.1 15) (r12).toNatClampNeg) + (p2 * r16)), .int r12, .ref 15]) (h' := hpS s15) rfl ?_
      obtain ⟨hin, k⟩ := k
      refine Ex.ias hq rfl rfl hin (h' := hpS (sA s15 15 (upd (s15.2.1 15) (r12).toNatClampNeg (((s13.2.1 15) (r12).toNatClampNeg) + (p2 * r16))))) (hset_15 _ _) ?_
      exact Ex.rt hq rfl rfl ⟨(sA s15 15 (upd (s15.2.1 15) (r12).toNatClampNeg (((s13.2.1 15) (r12).toNatClampNeg) + (p2 * r16)))), rfl, rfl, k⟩
def w_115_L2 : Nat → Int32 → Int32 → Int32 → ST → (Int32 → Int32 → ST → Prop) → (ST → Prop) → Prop
  | 0, _, _, _, _, _, _ => False
  | n + 1, x1, x2, x3, s, X13, K => ((x2 ≤ x3 → X13 x1 x2 s) ∧ (¬ (x2 ≤ x3) → w_123 x3 s (fun r2 s1 => w_116 r2 (1 : Int32) s1 (fun s3 => w_115_L2 n x1 x2 (x3 + (1 : Int32)) s3 X13 K))))
theorem q_115_L2 {d : Nat} {X13 : Int32 → Int32 → ST → Prop} {K : ST → Prop} : ∀ (n : Nat) (x1 : Int32) (x2 : Int32) (x3 : Int32) (s : ST), w_115_L2 n x1 x2 x3 s X13 K → (∀ (y1 : Int32) (y2 : Int32) (s : ST), X13 y1 y2 s → Ex sc (d + 3) 115 13 [.ref 8, .int y1, .int y2, pu, pu, pu, pu] [] (hpS s) (kV K)) → Ex sc (d + 3) 115 2 [.ref 8, .int x1, .int x2, .int x3, pu, pu, pu] [] (hpS s) (kV K) := by
  have hq : prog[115]? = some pm115 := rfl
  intro n
  induction n with
  | zero =>
    intro x1 x2 x3 s k
    exact k.elim
  | succ n ih =>
    intro x1 x2 x3 s k hX13
    rw [w_115_L2] at k
    refine Ex.seg hq 2 (j := 4) (L' := [.ref 8, .int x1, .int x2, .int x3, pu, pu, pu]) (S' := [.int x2, .int x3]) (h' := hpS s) rfl ?_
    refine Ex.i2 hq rfl (fun c => ?_) (fun c => ?_)
    · have k := k.1 c
      refine Ex.fg (L := [.ref 8, .int x1, .int x2, pu, pu, pu, pu]) ⟨Or.inl rfl, ⟨Or.inl rfl, ⟨Or.inl rfl, ⟨Or.inr ⟨rfl, rfl⟩, ⟨Or.inl rfl, ⟨Or.inl rfl, ⟨Or.inl rfl, trivial⟩⟩⟩⟩⟩⟩⟩ ?_
      exact hX13 x1 x2 s k
    · have k := k.2 c
      refine Ex.seg hq 3 (j := 8) (L' := [.ref 8, .int x1, .int x2, .int x3, pu, pu, pu]) (S' := [.int x3, .ref 8, .ref 8]) (h' := hpS s) rfl ?_
      refine Ex.cl hq rfl rfl ?_
      refine Rn.mono (q_123 (d := d + 2) x3 s k) ?_
      rintro _ _ ⟨r2, s1, rfl, rfl, k⟩
      show Ex sc (d + 3) 115 9 [.ref 8, .int x1, .int x2, .int x3, pu, pu, pu] [.int r2, .ref 8] (hpS s1) _
      refine Ex.seg hq 1 (j := 10) (L' := [.ref 8, .int x1, .int x2, .int x3, pu, pu, pu]) (S' := [.int (1 : Int32), .int r2, .ref 8]) (h' := hpS s1) rfl ?_
      refine Ex.cl hq rfl rfl ?_
      refine Rn.mono (q_116 (d := d + 0) r2 (1 : Int32) s1 k) ?_
      rintro _ _ ⟨s3, rfl, rfl, k⟩
      show Ex sc (d + 3) 115 11 [.ref 8, .int x1, .int x2, .int x3, pu, pu, pu] [] (hpS s3) _
      refine Ex.seg hq 2 (j := 2) (L' := [.ref 8, .int x1, .int x2, .int (x3 + (1 : Int32)), pu, pu, pu]) (S' := []) (h' := hpS s3) rfl ?_
      exact ih x1 x2 (x3 + (1 : Int32)) s3 k hX13
def w_115_L15 : Nat → Int32 → Int32 → Int32 → ST → (Int32 → Int32 → ST → Prop) → (ST → Prop) → Prop
  | 0, _, _, _, _, _, _ => False
  | n + 1, x1, x2, x3, s, X72, K => ((x2 ≤ x3 → X72 x1 x2 s) ∧ (¬ (x2 ≤ x3) → w_123 x3 s (fun r7 s6 => w_9 r7 (6 : Int32) s6 (fun r9 s8 => w_117 r7 s8 (fun r11 s10 => w_118 r7 s10 (fun r13 s12 => ((r13 = 0 → w_115_L15 n x1 x2 (x3 + (1 : Int32)) s12 X72 K) ∧ (¬ (r13 = 0) → w_181 r9 (0 : Int32) (15 : Int32) s12 (fun r15 s14 => ((r15 = 0 → (pin r7 150 = true ∧ w_181 r11 (0 : Int32) ((Int32.ofNat 40) - (1 : Int32)) (sA s14 12 (upd (s14.2.1 12) (r7).toNatClampNeg (0 : Int32))) (fun r17 s16 => ((r17 = 0 → (pin r7 150 = true ∧ w_115_L15 n x1 x2 (x3 + (1 : Int32)) (sA s16 13 (upd (s16.2.1 13) (r7).toNatClampNeg (0 : Int32))) X72 K)) ∧ (¬ (r17 = 0) → (pin r11 40 = true ∧ (pin r7 150 = true ∧ w_115_L15 n x1 x2 (x3 + (1 : Int32)) (sA s16 13 (upd (s16.2.1 13) (r7).toNatClampNeg ((s16.2.1 15) (r11).toNatClampNeg))) X72 K))))))) ∧ (¬ (r15 = 0) → (pin r9 16 = true ∧ (pin r7 150 = true ∧ w_181 r11 (0 : Int32) ((Int32.ofNat 40) - (1 : Int32)) (sA s14 12 (upd (s14.2.1 12) (r7).toNatClampNeg ((s14.2.1 14) (r9).toNatClampNeg))) (fun r19 s18 => ((r19 = 0 → (pin r7 150 = true ∧ w_115_L15 n x1 x2 (x3 + (1 : Int32)) (sA s18 13 (upd (s18.2.1 13) (r7).toNatClampNeg (0 : Int32))) X72 K)) ∧ (¬ (r19 = 0) → (pin r11 40 = true ∧ (pin r7 150 = true ∧ w_115_L15 n x1 x2 (x3 + (1 : Int32)) (sA s18 13 (upd (s18.2.1 13) (r7).toNatClampNeg ((s18.2.1 15) (r11).toNatClampNeg))) X72 K))))))))))))))))))
theorem q_115_L15 {d : Nat} {X72 : Int32 → Int32 → ST → Prop} {K : ST → Prop} : ∀ (n : Nat) (x1 : Int32) (x2 : Int32) (x3 : Int32) (s : ST), w_115_L15 n x1 x2 x3 s X72 K → (∀ (y1 : Int32) (y2 : Int32) (s : ST), X72 y1 y2 s → Ex sc (d + 3) 115 72 [.ref 8, .int y1, .int y2, pu, pu, pu, pu] [] (hpS s) (kV K)) → Ex sc (d + 3) 115 15 [.ref 8, .int x1, .int x2, .int x3, pu, pu, pu] [] (hpS s) (kV K) := by
  have hq : prog[115]? = some pm115 := rfl
  intro n
  induction n with
  | zero =>
    intro x1 x2 x3 s k
    exact k.elim
  | succ n ih =>
    intro x1 x2 x3 s k hX72
    rw [w_115_L15] at k
    refine Ex.seg hq 2 (j := 17) (L' := [.ref 8, .int x1, .int x2, .int x3, pu, pu, pu]) (S' := [.int x2, .int x3]) (h' := hpS s) rfl ?_
    refine Ex.i2 hq rfl (fun c => ?_) (fun c => ?_)
    · have k := k.1 c
      refine Ex.fg (L := [.ref 8, .int x1, .int x2, pu, pu, pu, pu]) ⟨Or.inl rfl, ⟨Or.inl rfl, ⟨Or.inl rfl, ⟨Or.inr ⟨rfl, rfl⟩, ⟨Or.inl rfl, ⟨Or.inl rfl, ⟨Or.inl rfl, trivial⟩⟩⟩⟩⟩⟩⟩ ?_
      exact hX72 x1 x2 s k
    · have k := k.2 c
      refine Ex.seg hq 2 (j := 20) (L' := [.ref 8, .int x1, .int x2, .int x3, pu, pu, pu]) (S' := [.int x3, .ref 8]) (h' := hpS s) rfl ?_
      refine Ex.cl hq rfl rfl ?_
      refine Rn.mono (q_123 (d := d + 2) x3 s k) ?_
      rintro _ _ ⟨r7, s6, rfl, rfl, k⟩
      show Ex sc (d + 3) 115 21 [.ref 8, .int x1, .int x2, .int x3, pu, pu, pu] [.int r7] (hpS s6) _
      refine Ex.seg hq 5 (j := 26) (L' := [.ref 8, .int x1, .int x2, .int x3, .int r7, pu, pu]) (S' := [.int (6 : Int32), .int r7, .ref 1]) (h' := hpS s6) rfl ?_
      refine Ex.cl hq rfl rfl ?_
      refine Rn.mono (q_9 (d := d + 2) r7 (6 : Int32) s6 k) ?_
      rintro _ _ ⟨r9, s8, rfl, rfl, k⟩
      show Ex sc (d + 3) 115 27 [.ref 8, .int x1, .int x2, .int x3, .int r7, pu, pu] [.int r9] (hpS s8) _
      refine Ex.seg hq 3 (j := 30) (L' := [.ref 8, .int x1, .int x2, .int x3, .int r7, .int r9, pu]) (S' := [.int r7, .ref 8]) (h' := hpS s8) rfl ?_
      refine Ex.cl hq rfl rfl ?_
      refine Rn.mono (q_117 (d := d + 1) r7 s8 k) ?_
      rintro _ _ ⟨r11, s10, rfl, rfl, k⟩
      show Ex sc (d + 3) 115 31 [.ref 8, .int x1, .int x2, .int x3, .int r7, .int r9, pu] [.int r11] (hpS s10) _
      refine Ex.seg hq 3 (j := 34) (L' := [.ref 8, .int x1, .int x2, .int x3, .int r7, .int r9, .int r11]) (S' := [.int r7, .ref 8]) (h' := hpS s10) rfl ?_
      refine Ex.cl hq rfl rfl ?_
      refine Rn.mono (q_118 (d := d + 2) r7 s10 k) ?_
      rintro _ _ ⟨r13, s12, rfl, hzr13, rfl, k⟩
      show Ex sc (d + 3) 115 35 [.ref 8, .int x1, .int x2, .int x3, .int r7, .int r9, .int r11] [.int r13] (hpS s12) _
      refine Ex.i1 hq rfl (fun c => ?_) (fun c => ?_)
      · have k := k.1 c
        refine Ex.seg hq 2 (j := 15) (L' := [.ref 8, .int x1, .int x2, .int (x3 + (1 : Int32)), .int r7, .int r9, .int r11]) (S' := []) (h' := hpS s12) rfl ?_
        refine Ex.fg (L := [.ref 8, .int x1, .int x2, .int (x3 + (1 : Int32)), pu, pu, pu]) ⟨Or.inl rfl, ⟨Or.inl rfl, ⟨Or.inl rfl, ⟨Or.inl rfl, ⟨Or.inr ⟨rfl, rfl⟩, ⟨Or.inr ⟨rfl, rfl⟩, ⟨Or.inr ⟨rfl, rfl⟩, trivial⟩⟩⟩⟩⟩⟩⟩ ?_
        exact ih x1 x2 (x3 + (1 : Int32)) s12 k hX72
      · have k := k.2 c
        refine Ex.seg hq 6 (j := 42) (L' := [.ref 8, .int x1, .int x2, .int x3, .int r7, .int r9, .int r11]) (S' := [.int (15 : Int32), .int (0 : Int32), .int r9, .int r7, .ref 12]) (h' := hpS s12) rfl ?_
        refine Ex.cl hq rfl rfl ?_
        refine Rn.mono (q_181 (d := d + 2) r9 (0 : Int32) (15 : Int32) s12 k) ?_
        rintro _ _ ⟨r15, s14, rfl, hzr15, rfl, k⟩
        show Ex sc (d + 3) 115 43 [.ref 8, .int x1, .int x2, .int x3, .int r7, .int r9, .int r11] [.int r15, .int r7, .ref 12] (hpS s14) _
        refine Ex.i1 hq rfl (fun c => ?_) (fun c => ?_)
        · have k := k.1 c
          refine Ex.seg hq 1 (j := 50) (L' := [.ref 8, .int x1, .int x2, .int x3, .int r7, .int r9, .int r11]) (S' := [.int (0 : Int32), .int r7, .ref 12]) (h' := hpS s14) rfl ?_
          obtain ⟨hin, k⟩ := k
          refine Ex.ias hq rfl rfl hin (h' := hpS (sA s14 12 (upd (s14.2.1 12) (r7).toNatClampNeg (0 : Int32)))) (hset_12 _ _) ?_
          refine Ex.seg hq 10 (j := 61) (L' := [.ref 8, .int x1, .int x2, .int x3, .int r7, .int r9, .int r11]) (S' := [.int ((Int32.ofNat 40) - (1 : Int32)), .int (0 : Int32), .int r11, .int r7, .ref 13]) (h' := hpS (sA s14 12 (upd (s14.2.1 12) (r7).toNatClampNeg (0 : Int32)))) rfl ?_
          refine Ex.cl hq rfl rfl ?_
          refine Rn.mono (q_181 (d := d + 2) r11 (0 : Int32) ((Int32.ofNat 40) - (1 : Int32)) (sA s14 12 (upd (s14.2.1 12) (r7).toNatClampNeg (0 : Int32))) k) ?_
          rintro _ _ ⟨r17, s16, rfl, hzr17, rfl, k⟩
          show Ex sc (d + 3) 115 62 [.ref 8, .int x1, .int x2, .int x3, .int r7, .int r9, .int r11] [.int r17, .int r7, .ref 13] (hpS s16) _
          refine Ex.i1 hq rfl (fun c => ?_) (fun c => ?_)
          · have k := k.1 c
            refine Ex.seg hq 1 (j := 69) (L' := [.ref 8, .int x1, .int x2, .int x3, .int r7, .int r9, .int r11]) (S' := [.int (0 : Int32), .int r7, .ref 13]) (h' := hpS s16) rfl ?_
            obtain ⟨hin, k⟩ := k
            refine Ex.ias hq rfl rfl hin (h' := hpS (sA s16 13 (upd (s16.2.1 13) (r7).toNatClampNeg (0 : Int32)))) (hset_13 _ _) ?_
            refine Ex.seg hq 2 (j := 15) (L' := [.ref 8, .int x1, .int x2, .int (x3 + (1 : Int32)), .int r7, .int r9, .int r11]) (S' := []) (h' := hpS (sA s16 13 (upd (s16.2.1 13) (r7).toNatClampNeg (0 : Int32)))) rfl ?_
            refine Ex.fg (L := [.ref 8, .int x1, .int x2, .int (x3 + (1 : Int32)), pu, pu, pu]) ⟨Or.inl rfl, ⟨Or.inl rfl, ⟨Or.inl rfl, ⟨Or.inl rfl, ⟨Or.inr ⟨rfl, rfl⟩, ⟨Or.inr ⟨rfl, rfl⟩, ⟨Or.inr ⟨rfl, rfl⟩, trivial⟩⟩⟩⟩⟩⟩⟩ ?_
            exact ih x1 x2 (x3 + (1 : Int32)) (sA s16 13 (upd (s16.2.1 13) (r7).toNatClampNeg (0 : Int32))) k hX72
          · have k := k.2 c
            refine Ex.seg hq 3 (j := 66) (L' := [.ref 8, .int x1, .int x2, .int x3, .int r7, .int r9, .int r11]) (S' := [.int r11, .ref 15, .int r7, .ref 13]) (h' := hpS s16) rfl ?_
            obtain ⟨hin, k⟩ := k
            refine Ex.ial hq rfl rfl hin ?_
            refine Ex.seg hq 1 (j := 69) (L' := [.ref 8, .int x1, .int x2, .int x3, .int r7, .int r9, .int r11]) (S' := [.int ((s16.2.1 15) (r11).toNatClampNeg), .int r7, .ref 13]) (h' := hpS s16) rfl ?_
            obtain ⟨hin, k⟩ := k
            refine Ex.ias hq rfl rfl hin (h' := hpS (sA s16 13 (upd (s16.2.1 13) (r7).toNatClampNeg ((s16.2.1 15) (r11).toNatClampNeg)))) (hset_13 _ _) ?_
            refine Ex.seg hq 2 (j := 15) (L' := [.ref 8, .int x1, .int x2, .int (x3 + (1 : Int32)), .int r7, .int r9, .int r11]) (S' := []) (h' := hpS (sA s16 13 (upd (s16.2.1 13) (r7).toNatClampNeg ((s16.2.1 15) (r11).toNatClampNeg)))) rfl ?_
            refine Ex.fg (L := [.ref 8, .int x1, .int x2, .int (x3 + (1 : Int32)), pu, pu, pu]) ⟨Or.inl rfl, ⟨Or.inl rfl, ⟨Or.inl rfl, ⟨Or.inl rfl, ⟨Or.inr ⟨rfl, rfl⟩, ⟨Or.inr ⟨rfl, rfl⟩, ⟨Or.inr ⟨rfl, rfl⟩, trivial⟩⟩⟩⟩⟩⟩⟩ ?_
            exact ih x1 x2 (x3 + (1 : Int32)) (sA s16 13 (upd (s16.2.1 13) (r7).toNatClampNeg ((s16.2.1 15) (r11).toNatClampNeg))) k hX72
        · have k := k.2 c
          refine Ex.seg hq 3 (j := 47) (L' := [.ref 8, .int x1, .int x2, .int x3, .int r7, .int r9, .int r11]) (S' := [.int r9, .ref 14, .int r7, .ref 12]) (h' := hpS s14) rfl ?_
          obtain ⟨hin, k⟩ := k
          refine Ex.ial hq rfl rfl hin ?_
          refine Ex.seg hq 1 (j := 50) (L' := [.ref 8, .int x1, .int x2, .int x3, .int r7, .int r9, .int r11]) (S' := [.int ((s14.2.1 14) (r9).toNatClampNeg), .int r7, .ref 12]) (h' := hpS s14) rfl ?_
          obtain ⟨hin, k⟩ := k
          refine Ex.ias hq rfl rfl hin (h' := hpS (sA s14 12 (upd (s14.2.1 12) (r7).toNatClampNeg ((s14.2.1 14) (r9).toNatClampNeg)))) (hset_12 _ _) ?_
          refine Ex.seg hq 10 (j := 61) (L' := [.ref 8, .int x1, .int x2, .int x3, .int r7, .int r9, .int r11]) (S' := [.int ((Int32.ofNat 40) - (1 : Int32)), .int (0 : Int32), .int r11, .int r7, .ref 13]) (h' := hpS (sA s14 12 (upd (s14.2.1 12) (r7).toNatClampNeg ((s14.2.1 14) (r9).toNatClampNeg)))) rfl ?_
          refine Ex.cl hq rfl rfl ?_
          refine Rn.mono (q_181 (d := d + 2) r11 (0 : Int32) ((Int32.ofNat 40) - (1 : Int32)) (sA s14 12 (upd (s14.2.1 12) (r7).toNatClampNeg ((s14.2.1 14) (r9).toNatClampNeg))) k) ?_
          rintro _ _ ⟨r19, s18, rfl, hzr19, rfl, k⟩
          show Ex sc (d + 3) 115 62 [.ref 8, .int x1, .int x2, .int x3, .int r7, .int r9, .int r11] [.int r19, .int r7, .ref 13] (hpS s18) _
          refine Ex.i1 hq rfl (fun c => ?_) (fun c => ?_)
          · have k := k.1 c
            refine Ex.seg hq 1 (j := 69) (L' := [.ref 8, .int x1, .int x2, .int x3, .int r7, .int r9, .int r11]) (S' := [.int (0 : Int32), .int r7, .ref 13]) (h' := hpS s18) rfl ?_
            obtain ⟨hin, k⟩ := k
            refine Ex.ias hq rfl rfl hin (h' := hpS (sA s18 13 (upd (s18.2.1 13) (r7).toNatClampNeg (0 : Int32)))) (hset_13 _ _) ?_
            refine Ex.seg hq 2 (j := 15) (L' := [.ref 8, .int x1, .int x2, .int (x3 + (1 : Int32)), .int r7, .int r9, .int r11]) (S' := []) (h' := hpS (sA s18 13 (upd (s18.2.1 13) (r7).toNatClampNeg (0 : Int32)))) rfl ?_
            refine Ex.fg (L := [.ref 8, .int x1, .int x2, .int (x3 + (1 : Int32)), pu, pu, pu]) ⟨Or.inl rfl, ⟨Or.inl rfl, ⟨Or.inl rfl, ⟨Or.inl rfl, ⟨Or.inr ⟨rfl, rfl⟩, ⟨Or.inr ⟨rfl, rfl⟩, ⟨Or.inr ⟨rfl, rfl⟩, trivial⟩⟩⟩⟩⟩⟩⟩ ?_
            exact ih x1 x2 (x3 + (1 : Int32)) (sA s18 13 (upd (s18.2.1 13) (r7).toNatClampNeg (0 : Int32))) k hX72
          · have k := k.2 c
            refine Ex.seg hq 3 (j := 66) (L' := [.ref 8, .int x1, .int x2, .int x3, .int r7, .int r9, .int r11]) (S' := [.int r11, .ref 15, .int r7, .ref 13]) (h' := hpS s18) rfl ?_
            obtain ⟨hin, k⟩ := k
            refine Ex.ial hq rfl rfl hin ?_
            refine Ex.seg hq 1 (j := 69) (L' := [.ref 8, .int x1, .int x2, .int x3, .int r7, .int r9, .int r11]) (S' := [.int ((s18.2.1 15) (r11).toNatClampNeg), .int r7, .ref 13]) (h' := hpS s18) rfl ?_
            obtain ⟨hin, k⟩ := k
            refine Ex.ias hq rfl rfl hin (h' := hpS (sA s18 13 (upd (s18.2.1 13) (r7).toNatClampNeg ((s18.2.1 15) (r11).toNatClampNeg)))) (hset_13 _ _) ?_
            refine Ex.seg hq 2 (j := 15) (L' := [.ref 8, .int x1, .int x2, .int (x3 + (1 : Int32)), .int r7, .int r9, .int r11]) (S' := []) (h' := hpS (sA s18 13 (upd (s18.2.1 13) (r7).toNatClampNeg ((s18.2.1 15) (r11).toNatClampNeg)))) rfl ?_
            refine Ex.fg (L := [.ref 8, .int x1, .int x2, .int (x3 + (1 : Int32)), pu, pu, pu]) ⟨Or.inl rfl, ⟨Or.inl rfl, ⟨Or.inl rfl, ⟨Or.inl rfl, ⟨Or.inr ⟨rfl, rfl⟩, ⟨Or.inr ⟨rfl, rfl⟩, ⟨Or.inr ⟨rfl, rfl⟩, trivial⟩⟩⟩⟩⟩⟩⟩ ?_
            exact ih x1 x2 (x3 + (1 : Int32)) (sA s18 13 (upd (s18.2.1 13) (r7).toNatClampNeg ((s18.2.1 15) (r11).toNatClampNeg))) k hX72
def w_115_L74 : Nat → Int32 → Int32 → ST → (ST → Prop) → (ST → Prop) → Prop
  | 0, _, _, _, _, _ => False
  | n + 1, x2, x3, s, X85, K => ((x2 ≤ x3 → X85  s) ∧ (¬ (x2 ≤ x3) → w_123 x3 s (fun r22 s21 => w_116 r22 (-1 : Int32) s21 (fun s23 => w_115_L74 n x2 (x3 + (1 : Int32)) s23 X85 K))))
theorem q_115_L74 {d : Nat} {X85 : ST → Prop} {K : ST → Prop} : ∀ (n : Nat) (x2 : Int32) (x3 : Int32) (s : ST), w_115_L74 n x2 x3 s X85 K → (∀ (s : ST), X85  s → Ex sc (d + 3) 115 85 [pu, pu, pu, pu, pu, pu, pu] [] (hpS s) (kV K)) → Ex sc (d + 3) 115 74 [.ref 8, pu, .int x2, .int x3, pu, pu, pu] [] (hpS s) (kV K) := by
  have hq : prog[115]? = some pm115 := rfl
  intro n
  induction n with
  | zero =>
    intro x2 x3 s k
    exact k.elim
  | succ n ih =>
    intro x2 x3 s k hX85
    rw [w_115_L74] at k
    refine Ex.seg hq 2 (j := 76) (L' := [.ref 8, pu, .int x2, .int x3, pu, pu, pu]) (S' := [.int x2, .int x3]) (h' := hpS s) rfl ?_
    refine Ex.i2 hq rfl (fun c => ?_) (fun c => ?_)
    · have k := k.1 c
      refine Ex.fg (L := [pu, pu, pu, pu, pu, pu, pu]) ⟨Or.inr ⟨rfl, rfl⟩, ⟨Or.inl rfl, ⟨Or.inr ⟨rfl, rfl⟩, ⟨Or.inr ⟨rfl, rfl⟩, ⟨Or.inl rfl, ⟨Or.inl rfl, ⟨Or.inl rfl, trivial⟩⟩⟩⟩⟩⟩⟩ ?_
      exact hX85  s k
    · have k := k.2 c
      refine Ex.seg hq 3 (j := 80) (L' := [.ref 8, pu, .int x2, .int x3, pu, pu, pu]) (S' := [.int x3, .ref 8, .ref 8]) (h' := hpS s) rfl ?_
      refine Ex.cl hq rfl rfl ?_
      refine Rn.mono (q_123 (d := d + 2) x3 s k) ?_
      rintro _ _ ⟨r22, s21, rfl, rfl, k⟩
      show Ex sc (d + 3) 115 81 [.ref 8, pu, .int x2, .int x3, pu, pu, pu] [.int r22, .ref 8] (hpS s21) _
      refine Ex.seg hq 1 (j := 82) (L' := [.ref 8, pu, .int x2, .int x3, pu, pu, pu]) (S' := [.int (-1 : Int32), .int r22, .ref 8]) (h' := hpS s21) rfl ?_
      refine Ex.cl hq rfl rfl ?_
      refine Rn.mono (q_116 (d := d + 0) r22 (-1 : Int32) s21 k) ?_
      rintro _ _ ⟨s23, rfl, rfl, k⟩
      show Ex sc (d + 3) 115 83 [.ref 8, pu, .int x2, .int x3, pu, pu, pu] [] (hpS s23) _
      refine Ex.seg hq 2 (j := 74) (L' := [.ref 8, pu, .int x2, .int (x3 + (1 : Int32)), pu, pu, pu]) (S' := []) (h' := hpS s23) rfl ?_
      exact ih x2 (x3 + (1 : Int32)) s23 k hX85
/-- RowAuditor$View.countDay(II)V -/
def w_115 (p1 : Int32) (p2 : Int32) (s : ST) (K : ST → Prop) : Prop := (∃ m, w_115_L2 m p1 p2 p1 s (fun y1 y2 s5 => (∃ m, w_115_L15 m y1 y2 y1 s5 (fun y1 y2 s20 => (∃ m, w_115_L74 m y2 y1 s20 (fun s25 => K s25) K)) K)) K)
theorem q_115 {d : Nat} {K : ST → Prop} (p1 : Int32) (p2 : Int32) (s : ST) (k : w_115 p1 p2 s K) : Rn sc (d + 3) 115 [.ref 8, .int p1, .int p2] (hpS s) (kV K) := by
  have hq : prog[115]? = some pm115 := rfl
  refine Rn.of (L := [.ref 8, .int p1, .int p2, pu, pu, pu, pu]) hq rfl rfl ?_
  unfold w_115 at k
  refine Ex.seg hq 2 (j := 2) (L' := [.ref 8, .int p1, .int p2, .int p1, pu, pu, pu]) (S' := []) (h' := hpS s) rfl ?_
  obtain ⟨m, k⟩ := k
  refine q_115_L2 (d := d) m p1 p2 p1 s k ?_
  · intro y1 y2 s5 k
    refine Ex.seg hq 2 (j := 15) (L' := [.ref 8, .int y1, .int y2, .int y1, pu, pu, pu]) (S' := []) (h' := hpS s5) rfl ?_
    obtain ⟨m, k⟩ := k
    refine q_115_L15 (d := d) m y1 y2 y1 s5 k ?_
    · intro y1 y2 s20 k
      refine Ex.seg hq 2 (j := 74) (L' := [.ref 8, .int y1, .int y2, .int y1, pu, pu, pu]) (S' := []) (h' := hpS s20) rfl ?_
      obtain ⟨m, k⟩ := k
      refine Ex.fg (L := [.ref 8, pu, .int y2, .int y1, pu, pu, pu]) ⟨Or.inl rfl, ⟨Or.inr ⟨rfl, rfl⟩, ⟨Or.inl rfl, ⟨Or.inl rfl, ⟨Or.inl rfl, ⟨Or.inl rfl, ⟨Or.inl rfl, trivial⟩⟩⟩⟩⟩⟩⟩ ?_
      refine q_115_L74 (d := d) m y2 y1 s20 k ?_
      · intro s25 k
        exact Ex.rt hq rfl rfl ⟨s25, rfl, rfl, k⟩
/-- RowAuditor$View.dayAt(I)I -/
def w_114 (p1 : Int32) (s : ST) (K : Int32 → ST → Prop) : Prop := w_123 p1 s (fun r2 s1 => w_9 r2 (3 : Int32) s1 (fun r4 s3 => K r4 s3))
theorem q_114 {d : Nat} {K : Int32 → ST → Prop} (p1 : Int32) (s : ST) (k : w_114 p1 s K) : Rn sc (d + 1) 114 [.ref 8, .int p1] (hpS s) (kI K) := by
  have hq : prog[114]? = some pm114 := rfl
  refine Rn.of (L := [.ref 8, .int p1]) hq rfl rfl ?_
  unfold w_114 at k
  refine Ex.seg hq 4 (j := 4) (L' := [.ref 8, .int p1]) (S' := [.int p1, .ref 8, .ref 1]) (h' := hpS s) rfl ?_
  refine Ex.cl hq rfl rfl ?_
  refine Rn.mono (q_123 (d := d + 0) p1 s k) ?_
  rintro _ _ ⟨r2, s1, rfl, rfl, k⟩
  show Ex sc (d + 1) 114 5 [.ref 8, .int p1] [.int r2, .ref 1] (hpS s1) _
  refine Ex.seg hq 1 (j := 6) (L' := [.ref 8, .int p1]) (S' := [.int (3 : Int32), .int r2, .ref 1]) (h' := hpS s1) rfl ?_
  refine Ex.cl hq rfl rfl ?_
  refine Rn.mono (q_9 (d := d + 0) r2 (3 : Int32) s1 k) ?_
  rintro _ _ ⟨r4, s3, rfl, rfl, k⟩
  show Ex sc (d + 1) 114 7 [.ref 8, .int p1] [.int r4] (hpS s3) _
  exact Ex.rt hq rfl rfl ⟨r4, s3, rfl, rfl, k⟩
def w_111_L10 : Nat → Int32 → ST → (ST → Prop) → (ST → Prop) → Prop
  | 0, _, _, _, _ => False
  | n + 1, x2, s, X23, K => (((s.1 102) ≤ x2 → X23  s) ∧ (¬ ((s.1 102) ≤ x2) → w_8 x2 s (fun r4 s3 => w_113 r4 s3 (fun s5 => w_111_L10 n (x2 + (1 : Int32)) s5 X23 K))))
theorem q_111_L10 {d : Nat} {X23 : ST → Prop} {K : ST → Prop} : ∀ (n : Nat) (x2 : Int32) (s : ST), w_111_L10 n x2 s X23 K → (∀ (s : ST), X23  s → Ex sc (d + 4) 111 23 [.ref 8, pu, pu, pu] [] (hpS s) (kV K)) → Ex sc (d + 4) 111 10 [.ref 8, pu, .int x2, pu] [] (hpS s) (kV K) := by
  have hq : prog[111]? = some pm111 := rfl
  intro n
  induction n with
  | zero =>
    intro x2 s k
    exact k.elim
  | succ n ih =>
    intro x2 s k hX23
    rw [w_111_L10] at k
    refine Ex.seg hq 4 (j := 14) (L' := [.ref 8, pu, .int x2, pu]) (S' := [.int (s.1 102), .int x2]) (h' := hpS s) rfl ?_
    refine Ex.i2 hq rfl (fun c => ?_) (fun c => ?_)
    · have k := k.1 c
      refine Ex.fg (L := [.ref 8, pu, pu, pu]) ⟨Or.inl rfl, ⟨Or.inl rfl, ⟨Or.inr ⟨rfl, rfl⟩, ⟨Or.inl rfl, trivial⟩⟩⟩⟩ ?_
      exact hX23  s k
    · have k := k.2 c
      refine Ex.seg hq 4 (j := 19) (L' := [.ref 8, pu, .int x2, pu]) (S' := [.int x2, .ref 1, .ref 8]) (h' := hpS s) rfl ?_
      refine Ex.cl hq rfl rfl ?_
      refine Rn.mono (q_8 (d := d + 3) x2 s k) ?_
      rintro _ _ ⟨r4, s3, rfl, rfl, k⟩
      show Ex sc (d + 4) 111 20 [.ref 8, pu, .int x2, pu] [.int r4, .ref 8] (hpS s3) _
      refine Ex.cl hq rfl rfl ?_
      refine Rn.mono (q_113 (d := d + 2) r4 s3 k) ?_
      rintro _ _ ⟨s5, rfl, rfl, k⟩
      show Ex sc (d + 4) 111 21 [.ref 8, pu, .int x2, pu] [] (hpS s5) _
      refine Ex.seg hq 2 (j := 10) (L' := [.ref 8, pu, .int (x2 + (1 : Int32)), pu]) (S' := []) (h' := hpS s5) rfl ?_
      exact ih (x2 + (1 : Int32)) s5 k hX23
def w_111_L27 : Nat → Int32 → Int32 → ST → (ST → Prop) → (ST → Prop) → Prop
  | 0, _, _, _, _, _ => False
  | n + 1, x2, x3, s, X50, K => (((s.1 801) < x3 → X50  s) ∧ (¬ ((s.1 801) < x3) → ((x3 = (s.1 801) → w_115 x2 x3 s (fun s8 => w_111_L27 n x3 (x3 + (1 : Int32)) s8 X50 K)) ∧ (¬ (x3 = (s.1 801)) → w_114 x3 s (fun r11 s10 => w_114 x2 s10 (fun r13 s12 => ((r11 = r13 → w_111_L27 n x2 (x3 + (1 : Int32)) s12 X50 K) ∧ (¬ (r11 = r13) → w_115 x2 x3 s12 (fun s14 => w_111_L27 n x3 (x3 + (1 : Int32)) s14 X50 K)))))))))
theorem q_111_L27 {d : Nat} {X50 : ST → Prop} {K : ST → Prop} : ∀ (n : Nat) (x2 : Int32) (x3 : Int32) (s : ST), w_111_L27 n x2 x3 s X50 K → (∀ (s : ST), X50  s → Ex sc (d + 4) 111 50 [pu, pu, pu, pu] [] (hpS s) (kV K)) → Ex sc (d + 4) 111 27 [.ref 8, pu, .int x2, .int x3] [] (hpS s) (kV K) := by
  have hq : prog[111]? = some pm111 := rfl
  intro n
  induction n with
  | zero =>
    intro x2 x3 s k
    exact k.elim
  | succ n ih =>
    intro x2 x3 s k hX50
    rw [w_111_L27] at k
    refine Ex.seg hq 3 (j := 30) (L' := [.ref 8, pu, .int x2, .int x3]) (S' := [.int (s.1 801), .int x3]) (h' := hpS s) rfl ?_
    refine Ex.i2 hq rfl (fun c => ?_) (fun c => ?_)
    · have k := k.1 c
      refine Ex.fg (L := [pu, pu, pu, pu]) ⟨Or.inr ⟨rfl, rfl⟩, ⟨Or.inl rfl, ⟨Or.inr ⟨rfl, rfl⟩, ⟨Or.inr ⟨rfl, rfl⟩, trivial⟩⟩⟩⟩ ?_
      exact hX50  s k
    · have k := k.2 c
      refine Ex.seg hq 3 (j := 34) (L' := [.ref 8, pu, .int x2, .int x3]) (S' := [.int (s.1 801), .int x3]) (h' := hpS s) rfl ?_
      refine Ex.i2 hq rfl (fun c => ?_) (fun c => ?_)
      · have k := k.1 c
        refine Ex.seg hq 3 (j := 45) (L' := [.ref 8, pu, .int x2, .int x3]) (S' := [.int x3, .int x2, .ref 8]) (h' := hpS s) rfl ?_
        refine Ex.cl hq rfl rfl ?_
        refine Rn.mono (q_115 (d := d + 0) x2 x3 s k) ?_
        rintro _ _ ⟨s8, rfl, rfl, k⟩
        show Ex sc (d + 4) 111 46 [.ref 8, pu, .int x2, .int x3] [] (hpS s8) _
        refine Ex.seg hq 4 (j := 27) (L' := [.ref 8, pu, .int x3, .int (x3 + (1 : Int32))]) (S' := []) (h' := hpS s8) rfl ?_
        exact ih x3 (x3 + (1 : Int32)) s8 k hX50
      · have k := k.2 c
        refine Ex.seg hq 2 (j := 37) (L' := [.ref 8, pu, .int x2, .int x3]) (S' := [.int x3, .ref 8]) (h' := hpS s) rfl ?_
        refine Ex.cl hq rfl rfl ?_
        refine Rn.mono (q_114 (d := d + 2) x3 s k) ?_
        rintro _ _ ⟨r11, s10, rfl, rfl, k⟩
        show Ex sc (d + 4) 111 38 [.ref 8, pu, .int x2, .int x3] [.int r11] (hpS s10) _
        refine Ex.seg hq 2 (j := 40) (L' := [.ref 8, pu, .int x2, .int x3]) (S' := [.int x2, .ref 8, .int r11]) (h' := hpS s10) rfl ?_
        refine Ex.cl hq rfl rfl ?_
        refine Rn.mono (q_114 (d := d + 2) x2 s10 k) ?_
        rintro _ _ ⟨r13, s12, rfl, rfl, k⟩
        show Ex sc (d + 4) 111 41 [.ref 8, pu, .int x2, .int x3] [.int r13, .int r11] (hpS s12) _
        refine Ex.i2 hq rfl (fun c => ?_) (fun c => ?_)
        · have k := k.1 c
          refine Ex.seg hq 2 (j := 27) (L' := [.ref 8, pu, .int x2, .int (x3 + (1 : Int32))]) (S' := []) (h' := hpS s12) rfl ?_
          exact ih x2 (x3 + (1 : Int32)) s12 k hX50
        · have k := k.2 c
          refine Ex.seg hq 3 (j := 45) (L' := [.ref 8, pu, .int x2, .int x3]) (S' := [.int x3, .int x2, .ref 8]) (h' := hpS s12) rfl ?_
          refine Ex.cl hq rfl rfl ?_
          refine Rn.mono (q_115 (d := d + 0) x2 x3 s12 k) ?_
          rintro _ _ ⟨s14, rfl, rfl, k⟩
          show Ex sc (d + 4) 111 46 [.ref 8, pu, .int x2, .int x3] [] (hpS s14) _
          refine Ex.seg hq 4 (j := 27) (L' := [.ref 8, pu, .int x3, .int (x3 + (1 : Int32))]) (S' := []) (h' := hpS s14) rfl ?_
          exact ih x3 (x3 + (1 : Int32)) s14 k hX50
/-- RowAuditor$View.asOf(I)V -/
def w_111 (p1 : Int32) (s : ST) (K : ST → Prop) : Prop := w_112 (sI s 800 p1) (fun s1 => (∃ m, w_111_L10 m (0 : Int32) (sI s1 801 (0 : Int32)) (fun s7 => (∃ m, w_111_L27 m (0 : Int32) (1 : Int32) s7 (fun s16 => K s16) K)) K))
theorem q_111 {d : Nat} {K : ST → Prop} (p1 : Int32) (s : ST) (k : w_111 p1 s K) : Rn sc (d + 4) 111 [.ref 8, .int p1] (hpS s) (kV K) := by
  have hq : prog[111]? = some pm111 := rfl
  refine Rn.of (L := [.ref 8, .int p1, pu, pu]) hq rfl rfl ?_
  unfold w_111 at k
  refine Ex.seg hq 4 (j := 4) (L' := [.ref 8, .int p1, pu, pu]) (S' := [.ref 8]) (h' := hpS (sI s 800 p1)) rfl ?_
  refine Ex.cl hq rfl rfl ?_
  refine Rn.mono (q_112 (d := d + 2) (sI s 800 p1) k) ?_
  rintro _ _ ⟨s1, rfl, rfl, k⟩
  show Ex sc (d + 4) 111 5 [.ref 8, .int p1, pu, pu] [] (hpS s1) _
  refine Ex.seg hq 5 (j := 10) (L' := [.ref 8, .int p1, .int (0 : Int32), pu]) (S' := []) (h' := hpS (sI s1 801 (0 : Int32))) rfl ?_
  obtain ⟨m, k⟩ := k
  refine Ex.fg (L := [.ref 8, pu, .int (0 : Int32), pu]) ⟨Or.inl rfl, ⟨Or.inr ⟨rfl, rfl⟩, ⟨Or.inl rfl, ⟨Or.inl rfl, trivial⟩⟩⟩⟩ ?_
  refine q_111_L10 (d := d) m (0 : Int32) (sI s1 801 (0 : Int32)) k ?_
  · intro s7 k
    refine Ex.seg hq 4 (j := 27) (L' := [.ref 8, pu, .int (0 : Int32), .int (1 : Int32)]) (S' := []) (h' := hpS s7) rfl ?_
    obtain ⟨m, k⟩ := k
    refine q_111_L27 (d := d) m (0 : Int32) (1 : Int32) s7 k ?_
    · intro s16 k
      exact Ex.rt hq rfl rfl ⟨s16, rfl, rfl, k⟩
def w_124_L4 : Nat → Int32 → Int32 → ST → (Int32 → ST → Prop) → (Int32 → ST → Prop) → Prop
  | 0, _, _, _, _, _ => False
  | n + 1, x1, x2, s, X18, K => (((s.1 801) ≤ x2 → X18 x1 s) ∧ (¬ ((s.1 801) ≤ x2) → w_123 x2 s (fun r2 s1 => w_119 r2 s1 (fun r4 s3 => w_124_L4 n (x1 + r4) (x2 + (1 : Int32)) s3 X18 K))))
theorem q_124_L4 {d : Nat} {X18 : Int32 → ST → Prop} {K : Int32 → ST → Prop} : ∀ (n : Nat) (x1 : Int32) (x2 : Int32) (s : ST), w_124_L4 n x1 x2 s X18 K → (∀ (y1 : Int32) (s : ST), X18 y1 s → Ex sc (d + 1) 124 18 [pu, .int y1, pu] [] (hpS s) (kI K)) → Ex sc (d + 1) 124 4 [.ref 8, .int x1, .int x2] [] (hpS s) (kI K) := by
  have hq : prog[124]? = some pm124 := rfl
  intro n
  induction n with
  | zero =>
    intro x1 x2 s k
    exact k.elim
  | succ n ih =>
    intro x1 x2 s k hX18
    rw [w_124_L4] at k
    refine Ex.seg hq 3 (j := 7) (L' := [.ref 8, .int x1, .int x2]) (S' := [.int (s.1 801), .int x2]) (h' := hpS s) rfl ?_
    refine Ex.i2 hq rfl (fun c => ?_) (fun c => ?_)
    · have k := k.1 c
      refine Ex.fg (L := [pu, .int x1, pu]) ⟨Or.inr ⟨rfl, rfl⟩, ⟨Or.inl rfl, ⟨Or.inr ⟨rfl, rfl⟩, trivial⟩⟩⟩ ?_
      exact hX18 x1 s k
    · have k := k.2 c
      refine Ex.seg hq 4 (j := 12) (L' := [.ref 8, .int x1, .int x2]) (S' := [.int x2, .ref 8, .ref 8, .int x1]) (h' := hpS s) rfl ?_
      refine Ex.cl hq rfl rfl ?_
      refine Rn.mono (q_123 (d := d + 0) x2 s k) ?_
      rintro _ _ ⟨r2, s1, rfl, rfl, k⟩
      show Ex sc (d + 1) 124 13 [.ref 8, .int x1, .int x2] [.int r2, .ref 8, .int x1] (hpS s1) _
      refine Ex.cl hq rfl rfl ?_
      refine Rn.mono (q_119 (d := d + 0) r2 s1 k) ?_
      rintro _ _ ⟨r4, s3, rfl, rfl, k⟩
      show Ex sc (d + 1) 124 14 [.ref 8, .int x1, .int x2] [.int r4, .int x1] (hpS s3) _
      refine Ex.seg hq 4 (j := 4) (L' := [.ref 8, .int (x1 + r4), .int (x2 + (1 : Int32))]) (S' := []) (h' := hpS s3) rfl ?_
      exact ih (x1 + r4) (x2 + (1 : Int32)) s3 k hX18
/-- RowAuditor$View.total()I -/
def w_124  (s : ST) (K : Int32 → ST → Prop) : Prop := (∃ m, w_124_L4 m (0 : Int32) (0 : Int32) s (fun y1 s5 => K y1 s5) K)
theorem q_124 {d : Nat} {K : Int32 → ST → Prop}  (s : ST) (k : w_124  s K) : Rn sc (d + 1) 124 [.ref 8] (hpS s) (kI K) := by
  have hq : prog[124]? = some pm124 := rfl
  refine Rn.of (L := [.ref 8, pu, pu]) hq rfl rfl ?_
  unfold w_124 at k
  refine Ex.seg hq 4 (j := 4) (L' := [.ref 8, .int (0 : Int32), .int (0 : Int32)]) (S' := []) (h' := hpS s) rfl ?_
  obtain ⟨m, k⟩ := k
  refine q_124_L4 (d := d) m (0 : Int32) (0 : Int32) s k ?_
  · intro y1 s5 k
    refine Ex.seg hq 1 (j := 19) (L' := [pu, .int y1, pu]) (S' := [.int y1]) (h' := hpS s5) rfl ?_
    exact Ex.rt hq rfl rfl ⟨y1, s5, rfl, rfl, k⟩
def w_125_L4 : Nat → Int64 → Int64 → Int32 → ST → (Int64 → Int64 → ST → Prop) → (Int64 → Int64 → Int32 → ST → Prop) → (Int32 → ST → Prop) → Prop
  | 0, _, _, _, _, _, _, _ => False
  | n + 1, x1, x3, x5, s, X27, X21, K => (((s.1 801) ≤ x5 → X27 x1 x3 s) ∧ (¬ ((s.1 801) ≤ x5) → w_123 x5 s (fun r2 s1 => w_119 r2 s1 (fun r4 s3 => ((0 ≤ (lg_cmp x1 (x3 + ((r4).toInt64))) → w_125_L4 n x1 (x3 + ((r4).toInt64)) (x5 + (1 : Int32)) s3 X27 X21 K) ∧ (¬ (0 ≤ (lg_cmp x1 (x3 + ((r4).toInt64)))) → X21 x1 (x3 + ((r4).toInt64)) x5 s3))))))
theorem q_125_L4 {d : Nat} {X27 : Int64 → Int64 → ST → Prop} {X21 : Int64 → Int64 → Int32 → ST → Prop} {K : Int32 → ST → Prop} : ∀ (n : Nat) (x1 : Int64) (x3 : Int64) (x5 : Int32) (s : ST), w_125_L4 n x1 x3 x5 s X27 X21 K → (∀ (y1 : Int64) (y3 : Int64) (s : ST), X27 y1 y3 s → Ex sc (d + 1) 125 27 [pu, .long y1, pu, .long y3, pu, pu] [] (hpS s) (kI K)) → (∀ (y1 : Int64) (y3 : Int64) (y5 : Int32) (s : ST), X21 y1 y3 y5 s → Ex sc (d + 1) 125 21 [.ref 8, .long y1, pu, .long y3, pu, .int y5] [] (hpS s) (kI K)) → Ex sc (d + 1) 125 4 [.ref 8, .long x1, pu, .long x3, pu, .int x5] [] (hpS s) (kI K) := by
  have hq : prog[125]? = some pm125 := rfl
  intro n
  induction n with
  | zero =>
    intro x1 x3 x5 s k
    exact k.elim
  | succ n ih =>
    intro x1 x3 x5 s k hX27 hX21
    rw [w_125_L4] at k
    refine Ex.seg hq 3 (j := 7) (L' := [.ref 8, .long x1, pu, .long x3, pu, .int x5]) (S' := [.int (s.1 801), .int x5]) (h' := hpS s) rfl ?_
    refine Ex.i2 hq rfl (fun c => ?_) (fun c => ?_)
    · have k := k.1 c
      refine Ex.fg (L := [pu, .long x1, pu, .long x3, pu, pu]) ⟨Or.inr ⟨rfl, rfl⟩, ⟨Or.inl rfl, ⟨Or.inl rfl, ⟨Or.inl rfl, ⟨Or.inl rfl, ⟨Or.inr ⟨rfl, rfl⟩, trivial⟩⟩⟩⟩⟩⟩ ?_
      exact hX27 x1 x3 s k
    · have k := k.2 c
      refine Ex.seg hq 4 (j := 12) (L' := [.ref 8, .long x1, pu, .long x3, pu, .int x5]) (S' := [.int x5, .ref 8, .ref 8, .long x3]) (h' := hpS s) rfl ?_
      refine Ex.cl hq rfl rfl ?_
      refine Rn.mono (q_123 (d := d + 0) x5 s k) ?_
      rintro _ _ ⟨r2, s1, rfl, rfl, k⟩
      show Ex sc (d + 1) 125 13 [.ref 8, .long x1, pu, .long x3, pu, .int x5] [.int r2, .ref 8, .long x3] (hpS s1) _
      refine Ex.cl hq rfl rfl ?_
      refine Rn.mono (q_119 (d := d + 0) r2 s1 k) ?_
      rintro _ _ ⟨r4, s3, rfl, rfl, k⟩
      show Ex sc (d + 1) 125 14 [.ref 8, .long x1, pu, .long x3, pu, .int x5] [.int r4, .long x3] (hpS s3) _
      refine Ex.seg hq 6 (j := 20) (L' := [.ref 8, .long x1, pu, .long (x3 + ((r4).toInt64)), pu, .int x5]) (S' := [.int (lg_cmp x1 (x3 + ((r4).toInt64)))]) (h' := hpS s3) rfl ?_
      refine Ex.i1 hq rfl (fun c => ?_) (fun c => ?_)
      · have k := k.1 c
        refine Ex.seg hq 2 (j := 4) (L' := [.ref 8, .long x1, pu, .long (x3 + ((r4).toInt64)), pu, .int (x5 + (1 : Int32))]) (S' := []) (h' := hpS s3) rfl ?_
        exact ih x1 (x3 + ((r4).toInt64)) (x5 + (1 : Int32)) s3 k hX27 hX21
      · have k := k.2 c
        exact hX21 x1 (x3 + ((r4).toInt64)) x5 s3 k
/-- RowAuditor$View.rowAtCoin(J)I -/
def w_125 (p1 : Int64) (s : ST) (K : Int32 → ST → Prop) : Prop := (∃ m, w_125_L4 m p1 (0 : Int64) (0 : Int32) s (fun y1 y3 s5 => K (-1 : Int32) s5) (fun y1 y3 y5 s6 => w_123 y5 s6 (fun r8 s7 => K r8 s7)) K)
theorem q_125 {d : Nat} {K : Int32 → ST → Prop} (p1 : Int64) (s : ST) (k : w_125 p1 s K) : Rn sc (d + 1) 125 [.ref 8, .long p1] (hpS s) (kI K) := by
  have hq : prog[125]? = some pm125 := rfl
  refine Rn.of (L := [.ref 8, .long p1, pu, pu, pu, pu]) hq rfl rfl ?_
  unfold w_125 at k
  refine Ex.seg hq 4 (j := 4) (L' := [.ref 8, .long p1, pu, .long (0 : Int64), pu, .int (0 : Int32)]) (S' := []) (h' := hpS s) rfl ?_
  obtain ⟨m, k⟩ := k
  refine q_125_L4 (d := d) m p1 (0 : Int64) (0 : Int32) s k ?_ ?_
  · intro y1 y3 s5 k
    refine Ex.seg hq 1 (j := 28) (L' := [pu, .long y1, pu, .long y3, pu, pu]) (S' := [.int (-1 : Int32)]) (h' := hpS s5) rfl ?_
    exact Ex.rt hq rfl rfl ⟨(-1 : Int32), s5, rfl, rfl, k⟩
  · intro y1 y3 y5 s6 k
    refine Ex.seg hq 2 (j := 23) (L' := [.ref 8, .long y1, pu, .long y3, pu, .int y5]) (S' := [.int y5, .ref 8]) (h' := hpS s6) rfl ?_
    refine Ex.cl hq rfl rfl ?_
    refine Rn.mono (q_123 (d := d + 0) y5 s6 k) ?_
    rintro _ _ ⟨r8, s7, rfl, rfl, k⟩
    show Ex sc (d + 1) 125 24 [.ref 8, .long y1, pu, .long y3, pu, .int y5] [.int r8] (hpS s7) _
    exact Ex.rt hq rfl rfl ⟨r8, s7, rfl, rfl, k⟩
/-- RowAuditor$Books.<init>()V -/
def w_0 (p0 : Nat) (s : ST) (K : ST → Prop) : Prop := (¬ (10 : Int32) < 0 ∧ ((10 : Int32)).toNatClampNeg ≤ 100000 ∧ (∃ f1, pob (s.2.2.2.2 ++ [(Sum.inl (0, ((10 : Int32)).toNatClampNeg, .inl (fun _ => 0)) : PC)]) p0 0 = some f1 ∧ 4 < f1.length ∧ (¬ (1650 : Int32) < 0 ∧ ((1650 : Int32)).toNatClampNeg ≤ 100000 ∧ (∃ f2, pob (((s.2.2.2.2 ++ [(Sum.inl (0, ((10 : Int32)).toNatClampNeg, .inl (fun _ => 0)) : PC)]).set p0 (.inr (0, f1.set 4 (.ref (s.2.2.2.2.length + 118))))) ++ [(Sum.inl (0, ((1650 : Int32)).toNatClampNeg, .inl (fun _ => 0)) : PC)]) p0 0 = some f2 ∧ 5 < f2.length ∧ (¬ (150 : Int32) < 0 ∧ ((150 : Int32)).toNatClampNeg ≤ 100000 ∧ (∃ f3, pob (((((s.2.2.2.2 ++ [(Sum.inl (0, ((10 : Int32)).toNatClampNeg, .inl (fun _ => 0)) : PC)]).set p0 (.inr (0, f1.set 4 (.ref (s.2.2.2.2.length + 118))))) ++ [(Sum.inl (0, ((1650 : Int32)).toNatClampNeg, .inl (fun _ => 0)) : PC)]).set p0 (.inr (0, f2.set 5 (.ref (((s.2.2.2.2 ++ [(Sum.inl (0, ((10 : Int32)).toNatClampNeg, .inl (fun _ => 0)) : PC)]).set p0 (.inr (0, f1.set 4 (.ref (s.2.2.2.2.length + 118))))).length + 118))))) ++ [(Sum.inl (0, ((150 : Int32)).toNatClampNeg, .inl (fun _ => 0)) : PC)]) p0 0 = some f3 ∧ 6 < f3.length ∧ (¬ (100 : Int32) < 0 ∧ ((100 : Int32)).toNatClampNeg ≤ 100000 ∧ (∃ f4, pob (((((((s.2.2.2.2 ++ [(Sum.inl (0, ((10 : Int32)).toNatClampNeg, .inl (fun _ => 0)) : PC)]).set p0 (.inr (0, f1.set 4 (.ref (s.2.2.2.2.length + 118))))) ++ [(Sum.inl (0, ((1650 : Int32)).toNatClampNeg, .inl (fun _ => 0)) : PC)]).set p0 (.inr (0, f2.set 5 (.ref (((s.2.2.2.2 ++ [(Sum.inl (0, ((10 : Int32)).toNatClampNeg, .inl (fun _ => 0)) : PC)]).set p0 (.inr (0, f1.set 4 (.ref (s.2.2.2.2.length + 118))))).length + 118))))) ++ [(Sum.inl (0, ((150 : Int32)).toNatClampNeg, .inl (fun _ => 0)) : PC)]).set p0 (.inr (0, f3.set 6 (.ref (((((s.2.2.2.2 ++ [(Sum.inl (0, ((10 : Int32)).toNatClampNeg, .inl (fun _ => 0)) : PC)]).set p0 (.inr (0, f1.set 4 (.ref (s.2.2.2.2.length + 118))))) ++ [(Sum.inl (0, ((1650 : Int32)).toNatClampNeg, .inl (fun _ => 0)) : PC)]).set p0 (.inr (0, f2.set 5 (.ref (((s.2.2.2.2 ++ [(Sum.inl (0, ((10 : Int32)).toNatClampNeg, .inl (fun _ => 0)) : PC)]).set p0 (.inr (0, f1.set 4 (.ref (s.2.2.2.2.length + 118))))).length + 118))))).length + 118))))) ++ [(Sum.inl (0, ((100 : Int32)).toNatClampNeg, .inl (fun _ => 0)) : PC)]) p0 0 = some f4 ∧ 7 < f4.length ∧ (¬ (100 : Int32) < 0 ∧ ((100 : Int32)).toNatClampNeg ≤ 100000 ∧ (∃ f5, pob (((((((((s.2.2.2.2 ++ [(Sum.inl (0, ((10 : Int32)).toNatClampNeg, .inl (fun _ => 0)) : PC)]).set p0 (.inr (0, f1.set 4 (.ref (s.2.2.2.2.length + 118))))) ++ [(Sum.inl (0, ((1650 : Int32)).toNatClampNeg, .inl (fun _ => 0)) : PC)]).set p0 (.inr (0, f2.set 5 (.ref (((s.2.2.2.2 ++ [(Sum.inl (0, ((10 : Int32)).toNatClampNeg, .inl (fun _ => 0)) : PC)]).set p0 (.inr (0, f1.set 4 (.ref (s.2.2.2.2.length + 118))))).length + 118))))) ++ [(Sum.inl (0, ((150 : Int32)).toNatClampNeg, .inl (fun _ => 0)) : PC)]).set p0 (.inr (0, f3.set 6 (.ref (((((s.2.2.2.2 ++ [(Sum.inl (0, ((10 : Int32)).toNatClampNeg, .inl (fun _ => 0)) : PC)]).set p0 (.inr (0, f1.set 4 (.ref (s.2.2.2.2.length + 118))))) ++ [(Sum.inl (0, ((1650 : Int32)).toNatClampNeg, .inl (fun _ => 0)) : PC)]).set p0 (.inr (0, f2.set 5 (.ref (((s.2.2.2.2 ++ [(Sum.inl (0, ((10 : Int32)).toNatClampNeg, .inl (fun _ => 0)) : PC)]).set p0 (.inr (0, f1.set 4 (.ref (s.2.2.2.2.length + 118))))).length + 118))))).length + 118))))) ++ [(Sum.inl (0, ((100 : Int32)).toNatClampNeg, .inl (fun _ => 0)) : PC)]).set p0 (.inr (0, f4.set 7 (.ref (((((((s.2.2.2.2 ++ [(Sum.inl (0, ((10 : Int32)).toNatClampNeg, .inl (fun _ => 0)) : PC)]).set p0 (.inr (0, f1.set 4 (.ref (s.2.2.2.2.length + 118))))) ++ [(Sum.inl (0, ((1650 : Int32)).toNatClampNeg, .inl (fun _ => 0)) : PC)]).set p0 (.inr (0, f2.set 5 (.ref (((s.2.2.2.2 ++ [(Sum.inl (0, ((10 : Int32)).toNatClampNeg, .inl (fun _ => 0)) : PC)]).set p0 (.inr (0, f1.set 4 (.ref (s.2.2.2.2.length + 118))))).length + 118))))) ++ [(Sum.inl (0, ((150 : Int32)).toNatClampNeg, .inl (fun _ => 0)) : PC)]).set p0 (.inr (0, f3.set 6 (.ref (((((s.2.2.2.2 ++ [(Sum.inl (0, ((10 : Int32)).toNatClampNeg, .inl (fun _ => 0)) : PC)]).set p0 (.inr (0, f1.set 4 (.ref (s.2.2.2.2.length + 118))))) ++ [(Sum.inl (0, ((1650 : Int32)).toNatClampNeg, .inl (fun _ => 0)) : PC)]).set p0 (.inr (0, f2.set 5 (.ref (((s.2.2.2.2 ++ [(Sum.inl (0, ((10 : Int32)).toNatClampNeg, .inl (fun _ => 0)) : PC)]).set p0 (.inr (0, f1.set 4 (.ref (s.2.2.2.2.length + 118))))).length + 118))))).length + 118))))).length + 118))))) ++ [(Sum.inl (0, ((100 : Int32)).toNatClampNeg, .inl (fun _ => 0)) : PC)]) p0 0 = some f5 ∧ 8 < f5.length ∧ (¬ (100 : Int32) < 0 ∧ ((100 : Int32)).toNatClampNeg ≤ 100000 ∧ (∃ f6, pob (((((((((((s.2.2.2.2 ++ [(Sum.inl (0, ((10 : Int32)).toNatClampNeg, .inl (fun _ => 0)) : PC)]).set p0 (.inr (0, f1.set 4 (.ref (s.2.2.2.2.length + 118))))) ++ [(Sum.inl (0, ((1650 : Int32)).toNatClampNeg, .inl (fun _ => 0)) : PC)]).set p0 (.inr (0, f2.set 5 (.ref (((s.2.2.2.2 ++ [(Sum.inl (0, ((10 : Int32)).toNatClampNeg, .inl (fun _ => 0)) : PC)]).set p0 (.inr (0, f1.set 4 (.ref (s.2.2.2.2.length + 118))))).length + 118))))) ++ [(Sum.inl (0, ((150 : Int32)).toNatClampNeg, .inl (fun _ => 0)) : PC)]).set p0 (.inr (0, f3.set 6 (.ref (((((s.2.2.2.2 ++ [(Sum.inl (0, ((10 : Int32)).toNatClampNeg, .inl (fun _ => 0)) : PC)]).set p0 (.inr (0, f1.set 4 (.ref (s.2.2.2.2.length + 118))))) ++ [(Sum.inl (0, ((1650 : Int32)).toNatClampNeg, .inl (fun _ => 0)) : PC)]).set p0 (.inr (0, f2.set 5 (.ref (((s.2.2.2.2 ++ [(Sum.inl (0, ((10 : Int32)).toNatClampNeg, .inl (fun _ => 0)) : PC)]).set p0 (.inr (0, f1.set 4 (.ref (s.2.2.2.2.length + 118))))).length + 118))))).length + 118))))) ++ [(Sum.inl (0, ((100 : Int32)).toNatClampNeg, .inl (fun _ => 0)) : PC)]).set p0 (.inr (0, f4.set 7 (.ref (((((((s.2.2.2.2 ++ [(Sum.inl (0, ((10 : Int32)).toNatClampNeg, .inl (fun _ => 0)) : PC)]).set p0 (.inr (0, f1.set 4 (.ref (s.2.2.2.2.length + 118))))) ++ [(Sum.inl (0, ((1650 : Int32)).toNatClampNeg, .inl (fun _ => 0)) : PC)]).set p0 (.inr (0, f2.set 5 (.ref (((s.2.2.2.2 ++ [(Sum.inl (0, ((10 : Int32)).toNatClampNeg, .inl (fun _ => 0)) : PC)]).set p0 (.inr (0, f1.set 4 (.ref (s.2.2.2.2.length + 118))))).length + 118))))) ++ [(Sum.inl (0, ((150 : Int32)).toNatClampNeg, .inl (fun _ => 0)) : PC)]).set p0 (.inr (0, f3.set 6 (.ref (((((s.2.2.2.2 ++ [(Sum.inl (0, ((10 : Int32)).toNatClampNeg, .inl (fun _ => 0)) : PC)]).set p0 (.inr (0, f1.set 4 (.ref (s.2.2.2.2.length + 118))))) ++ [(Sum.inl (0, ((1650 : Int32)).toNatClampNeg, .inl (fun _ => 0)) : PC)]).set p0 (.inr (0, f2.set 5 (.ref (((s.2.2.2.2 ++ [(Sum.inl (0, ((10 : Int32)).toNatClampNeg, .inl (fun _ => 0)) : PC)]).set p0 (.inr (0, f1.set 4 (.ref (s.2.2.2.2.length + 118))))).length + 118))))).length + 118))))).length + 118))))) ++ [(Sum.inl (0, ((100 : Int32)).toNatClampNeg, .inl (fun _ => 0)) : PC)]).set p0 (.inr (0, f5.set 8 (.ref (((((((((s.2.2.2.2 ++ [(Sum.inl (0, ((10 : Int32)).toNatClampNeg, .inl (fun _ => 0)) : PC)]).set p0 (.inr (0, f1.set 4 (.ref (s.2.2.2.2.length + 118))))) ++ [(Sum.inl (0, ((1650 : Int32)).toNatClampNeg, .inl (fun _ => 0)) : PC)]).set p0 (.inr (0, f2.set 5 (.ref (((s.2.2.2.2 ++ [(Sum.inl (0, ((10 : Int32)).toNatClampNeg, .inl (fun _ => 0)) : PC)]).set p0 (.inr (0, f1.set 4 (.ref (s.2.2.2.2.length + 118))))).length + 118))))) ++ [(Sum.inl (0, ((150 : Int32)).toNatClampNeg, .inl (fun _ => 0)) : PC)]).set p0 (.inr (0, f3.set 6 (.ref (((((s.2.2.2.2 ++ [(Sum.inl (0, ((10 : Int32)).toNatClampNeg, .inl (fun _ => 0)) : PC)]).set p0 (.inr (0, f1.set 4 (.ref (s.2.2.2.2.length + 118))))) ++ [(Sum.inl (0, ((1650 : Int32)).toNatClampNeg, .inl (fun _ => 0)) : PC)]).set p0 (.inr (0, f2.set 5 (.ref (((s.2.2.2.2 ++ [(Sum.inl (0, ((10 : Int32)).toNatClampNeg, .inl (fun _ => 0)) : PC)]).set p0 (.inr (0, f1.set 4 (.ref (s.2.2.2.2.length + 118))))).length + 118))))).length + 118))))) ++ [(Sum.inl (0, ((100 : Int32)).toNatClampNeg, .inl (fun _ => 0)) : PC)]).set p0 (.inr (0, f4.set 7 (.ref (((((((s.2.2.2.2 ++ [(Sum.inl (0, ((10 : Int32)).toNatClampNeg, .inl (fun _ => 0)) : PC)]).set p0 (.inr (0, f1.set 4 (.ref (s.2.2.2.2.length + 118))))) ++ [(Sum.inl (0, ((1650 : Int32)).toNatClampNeg, .inl (fun _ => 0)) : PC)]).set p0 (.inr (0, f2.set 5 (.ref (((s.2.2.2.2 ++ [(Sum.inl (0, ((10 : Int32)).toNatClampNeg, .inl (fun _ => 0)) : PC)]).set p0 (.inr (0, f1.set 4 (.ref (s.2.2.2.2.length + 118))))).length + 118))))) ++ [(Sum.inl (0, ((150 : Int32)).toNatClampNeg, .inl (fun _ => 0)) : PC)]).set p0 (.inr (0, f3.set 6 (.ref (((((s.2.2.2.2 ++ [(Sum.inl (0, ((10 : Int32)).toNatClampNeg, .inl (fun _ => 0)) : PC)]).set p0 (.inr (0, f1.set 4 (.ref (s.2.2.2.2.length + 118))))) ++ [(Sum.inl (0, ((1650 : Int32)).toNatClampNeg, .inl (fun _ => 0)) : PC)]).set p0 (.inr (0, f2.set 5 (.ref (((s.2.2.2.2 ++ [(Sum.inl (0, ((10 : Int32)).toNatClampNeg, .inl (fun _ => 0)) : PC)]).set p0 (.inr (0, f1.set 4 (.ref (s.2.2.2.2.length + 118))))).length + 118))))).length + 118))))).length + 118))))).length + 118))))) ++ [(Sum.inl (0, ((100 : Int32)).toNatClampNeg, .inl (fun _ => 0)) : PC)]) p0 0 = some f6 ∧ 9 < f6.length ∧ K (sD s ((((((((((((s.2.2.2.2 ++ [(Sum.inl (0, ((10 : Int32)).toNatClampNeg, .inl (fun _ => 0)) : PC)]).set p0 (.inr (0, f1.set 4 (.ref (s.2.2.2.2.length + 118))))) ++ [(Sum.inl (0, ((1650 : Int32)).toNatClampNeg, .inl (fun _ => 0)) : PC)]).set p0 (.inr (0, f2.set 5 (.ref (((s.2.2.2.2 ++ [(Sum.inl (0, ((10 : Int32)).toNatClampNeg, .inl (fun _ => 0)) : PC)]).set p0 (.inr (0, f1.set 4 (.ref (s.2.2.2.2.length + 118))))).length + 118))))) ++ [(Sum.inl (0, ((150 : Int32)).toNatClampNeg, .inl (fun _ => 0)) : PC)]).set p0 (.inr (0, f3.set 6 (.ref (((((s.2.2.2.2 ++ [(Sum.inl (0, ((10 : Int32)).toNatClampNeg, .inl (fun _ => 0)) : PC)]).set p0 (.inr (0, f1.set 4 (.ref (s.2.2.2.2.length + 118))))) ++ [(Sum.inl (0, ((1650 : Int32)).toNatClampNeg, .inl (fun _ => 0)) : PC)]).set p0 (.inr (0, f2.set 5 (.ref (((s.2.2.2.2 ++ [(Sum.inl (0, ((10 : Int32)).toNatClampNeg, .inl (fun _ => 0)) : PC)]).set p0 (.inr (0, f1.set 4 (.ref (s.2.2.2.2.length + 118))))).length + 118))))).length + 118))))) ++ [(Sum.inl (0, ((100 : Int32)).toNatClampNeg, .inl (fun _ => 0)) : PC)]).set p0 (.inr (0, f4.set 7 (.ref (((((((s.2.2.2.2 ++ [(Sum.inl (0, ((10 : Int32)).toNatClampNeg, .inl (fun _ => 0)) : PC)]).set p0 (.inr (0, f1.set 4 (.ref (s.2.2.2.2.length + 118))))) ++ [(Sum.inl (0, ((1650 : Int32)).toNatClampNeg, .inl (fun _ => 0)) : PC)]).set p0 (.inr (0, f2.set 5 (.ref (((s.2.2.2.2 ++ [(Sum.inl (0, ((10 : Int32)).toNatClampNeg, .inl (fun _ => 0)) : PC)]).set p0 (.inr (0, f1.set 4 (.ref (s.2.2.2.2.length + 118))))).length + 118))))) ++ [(Sum.inl (0, ((150 : Int32)).toNatClampNeg, .inl (fun _ => 0)) : PC)]).set p0 (.inr (0, f3.set 6 (.ref (((((s.2.2.2.2 ++ [(Sum.inl (0, ((10 : Int32)).toNatClampNeg, .inl (fun _ => 0)) : PC)]).set p0 (.inr (0, f1.set 4 (.ref (s.2.2.2.2.length + 118))))) ++ [(Sum.inl (0, ((1650 : Int32)).toNatClampNeg, .inl (fun _ => 0)) : PC)]).set p0 (.inr (0, f2.set 5 (.ref (((s.2.2.2.2 ++ [(Sum.inl (0, ((10 : Int32)).toNatClampNeg, .inl (fun _ => 0)) : PC)]).set p0 (.inr (0, f1.set 4 (.ref (s.2.2.2.2.length + 118))))).length + 118))))).length + 118))))).length + 118))))) ++ [(Sum.inl (0, ((100 : Int32)).toNatClampNeg, .inl (fun _ => 0)) : PC)]).set p0 (.inr (0, f5.set 8 (.ref (((((((((s.2.2.2.2 ++ [(Sum.inl (0, ((10 : Int32)).toNatClampNeg, .inl (fun _ => 0)) : PC)]).set p0 (.inr (0, f1.set 4 (.ref (s.2.2.2.2.length + 118))))) ++ [(Sum.inl (0, ((1650 : Int32)).toNatClampNeg, .inl (fun _ => 0)) : PC)]).set p0 (.inr (0, f2.set 5 (.ref (((s.2.2.2.2 ++ [(Sum.inl (0, ((10 : Int32)).toNatClampNeg, .inl (fun _ => 0)) : PC)]).set p0 (.inr (0, f1.set 4 (.ref (s.2.2.2.2.length + 118))))).length + 118))))) ++ [(Sum.inl (0, ((150 : Int32)).toNatClampNeg, .inl (fun _ => 0)) : PC)]).set p0 (.inr (0, f3.set 6 (.ref (((((s.2.2.2.2 ++ [(Sum.inl (0, ((10 : Int32)).toNatClampNeg, .inl (fun _ => 0)) : PC)]).set p0 (.inr (0, f1.set 4 (.ref (s.2.2.2.2.length + 118))))) ++ [(Sum.inl (0, ((1650 : Int32)).toNatClampNeg, .inl (fun _ => 0)) : PC)]).set p0 (.inr (0, f2.set 5 (.ref (((s.2.2.2.2 ++ [(Sum.inl (0, ((10 : Int32)).toNatClampNeg, .inl (fun _ => 0)) : PC)]).set p0 (.inr (0, f1.set 4 (.ref (s.2.2.2.2.length + 118))))).length + 118))))).length + 118))))) ++ [(Sum.inl (0, ((100 : Int32)).toNatClampNeg, .inl (fun _ => 0)) : PC)]).set p0 (.inr (0, f4.set 7 (.ref (((((((s.2.2.2.2 ++ [(Sum.inl (0, ((10 : Int32)).toNatClampNeg, .inl (fun _ => 0)) : PC)]).set p0 (.inr (0, f1.set 4 (.ref (s.2.2.2.2.length + 118))))) ++ [(Sum.inl (0, ((1650 : Int32)).toNatClampNeg, .inl (fun _ => 0)) : PC)]).set p0 (.inr (0, f2.set 5 (.ref (((s.2.2.2.2 ++ [(Sum.inl (0, ((10 : Int32)).toNatClampNeg, .inl (fun _ => 0)) : PC)]).set p0 (.inr (0, f1.set 4 (.ref (s.2.2.2.2.length + 118))))).length + 118))))) ++ [(Sum.inl (0, ((150 : Int32)).toNatClampNeg, .inl (fun _ => 0)) : PC)]).set p0 (.inr (0, f3.set 6 (.ref (((((s.2.2.2.2 ++ [(Sum.inl (0, ((10 : Int32)).toNatClampNeg, .inl (fun _ => 0)) : PC)]).set p0 (.inr (0, f1.set 4 (.ref (s.2.2.2.2.length + 118))))) ++ [(Sum.inl (0, ((1650 : Int32)).toNatClampNeg, .inl (fun _ => 0)) : PC)]).set p0 (.inr (0, f2.set 5 (.ref (((s.2.2.2.2 ++ [(Sum.inl (0, ((10 : Int32)).toNatClampNeg, .inl (fun _ => 0)) : PC)]).set p0 (.inr (0, f1.set 4 (.ref (s.2.2.2.2.length + 118))))).length + 118))))).length + 118))))).length + 118))))).length + 118))))) ++ [(Sum.inl (0, ((100 : Int32)).toNatClampNeg, .inl (fun _ => 0)) : PC)]).set p0 (.inr (0, f6.set 9 (.ref (((((((((((s.2.2.2.2 ++ [(Sum.inl (0, ((10 : Int32)).toNatClampNeg, .inl (fun _ => 0)) : PC)]).set p0 (.inr (0, f1.set 4 (.ref (s.2.2.2.2.length + 118))))) ++ [(Sum.inl (0, ((1650 : Int32)).toNatClampNeg, .inl (fun _ => 0)) : PC)]).set p0 (.inr (0, f2.set 5 (.ref (((s.2.2.2.2 ++ [(Sum.inl (0, ((10 : Int32)).toNatClampNeg, .inl (fun _ => 0)) : PC)]).set p0 (.inr (0, f1.set 4 (.ref (s.2.2.2.2.length + 118))))).length + 118))))) ++ [(Sum.inl (0, ((150 : Int32)).toNatClampNeg, .inl (fun _ => 0)) : PC)]).set p0 (.inr (0, f3.set 6 (.ref (((((s.2.2.2.2 ++ [(Sum.inl (0, ((10 : Int32)).toNatClampNeg, .inl (fun _ => 0)) : PC)]).set p0 (.inr (0, f1.set 4 (.ref (s.2.2.2.2.length + 118))))) ++ [(Sum.inl (0, ((1650 : Int32)).toNatClampNeg, .inl (fun _ => 0)) : PC)]).set p0 (.inr (0, f2.set 5 (.ref (((s.2.2.2.2 ++ [(Sum.inl (0, ((10 : Int32)).toNatClampNeg, .inl (fun _ => 0)) : PC)]).set p0 (.inr (0, f1.set 4 (.ref (s.2.2.2.2.length + 118))))).length + 118))))).length + 118))))) ++ [(Sum.inl (0, ((100 : Int32)).toNatClampNeg, .inl (fun _ => 0)) : PC)]).set p0 (.inr (0, f4.set 7 (.ref (((((((s.2.2.2.2 ++ [(Sum.inl (0, ((10 : Int32)).toNatClampNeg, .inl (fun _ => 0)) : PC)]).set p0 (.inr (0, f1.set 4 (.ref (s.2.2.2.2.length + 118))))) ++ [(Sum.inl (0, ((1650 : Int32)).toNatClampNeg, .inl (fun _ => 0)) : PC)]).set p0 (.inr (0, f2.set 5 (.ref (((s.2.2.2.2 ++ [(Sum.inl (0, ((10 : Int32)).toNatClampNeg, .inl (fun _ => 0)) : PC)]).set p0 (.inr (0, f1.set 4 (.ref (s.2.2.2.2.length + 118))))).length + 118))))) ++ [(Sum.inl (0, ((150 : Int32)).toNatClampNeg, .inl (fun _ => 0)) : PC)]).set p0 (.inr (0, f3.set 6 (.ref (((((s.2.2.2.2 ++ [(Sum.inl (0, ((10 : Int32)).toNatClampNeg, .inl (fun _ => 0)) : PC)]).set p0 (.inr (0, f1.set 4 (.ref (s.2.2.2.2.length + 118))))) ++ [(Sum.inl (0, ((1650 : Int32)).toNatClampNeg, .inl (fun _ => 0)) : PC)]).set p0 (.inr (0, f2.set 5 (.ref (((s.2.2.2.2 ++ [(Sum.inl (0, ((10 : Int32)).toNatClampNeg, .inl (fun _ => 0)) : PC)]).set p0 (.inr (0, f1.set 4 (.ref (s.2.2.2.2.length + 118))))).length + 118))))).length + 118))))).length + 118))))) ++ [(Sum.inl (0, ((100 : Int32)).toNatClampNeg, .inl (fun _ => 0)) : PC)]).set p0 (.inr (0, f5.set 8 (.ref (((((((((s.2.2.2.2 ++ [(Sum.inl (0, ((10 : Int32)).toNatClampNeg, .inl (fun _ => 0)) : PC)]).set p0 (.inr (0, f1.set 4 (.ref (s.2.2.2.2.length + 118))))) ++ [(Sum.inl (0, ((1650 : Int32)).toNatClampNeg, .inl (fun _ => 0)) : PC)]).set p0 (.inr (0, f2.set 5 (.ref (((s.2.2.2.2 ++ [(Sum.inl (0, ((10 : Int32)).toNatClampNeg, .inl (fun _ => 0)) : PC)]).set p0 (.inr (0, f1.set 4 (.ref (s.2.2.2.2.length + 118))))).length + 118))))) ++ [(Sum.inl (0, ((150 : Int32)).toNatClampNeg, .inl (fun _ => 0)) : PC)]).set p0 (.inr (0, f3.set 6 (.ref (((((s.2.2.2.2 ++ [(Sum.inl (0, ((10 : Int32)).toNatClampNeg, .inl (fun _ => 0)) : PC)]).set p0 (.inr (0, f1.set 4 (.ref (s.2.2.2.2.length + 118))))) ++ [(Sum.inl (0, ((1650 : Int32)).toNatClampNeg, .inl (fun _ => 0)) : PC)]).set p0 (.inr (0, f2.set 5 (.ref (((s.2.2.2.2 ++ [(Sum.inl (0, ((10 : Int32)).toNatClampNeg, .inl (fun _ => 0)) : PC)]).set p0 (.inr (0, f1.set 4 (.ref (s.2.2.2.2.length + 118))))).length + 118))))).length + 118))))) ++ [(Sum.inl (0, ((100 : Int32)).toNatClampNeg, .inl (fun _ => 0)) : PC)]).set p0 (.inr (0, f4.set 7 (.ref (((((((s.2.2.2.2 ++ [(Sum.inl (0, ((10 : Int32)).toNatClampNeg, .inl (fun _ => 0)) : PC)]).set p0 (.inr (0, f1.set 4 (.ref (s.2.2.2.2.length + 118))))) ++ [(Sum.inl (0, ((1650 : Int32)).toNatClampNeg, .inl (fun _ => 0)) : PC)]).set p0 (.inr (0, f2.set 5 (.ref (((s.2.2.2.2 ++ [(Sum.inl (0, ((10 : Int32)).toNatClampNeg, .inl (fun _ => 0)) : PC)]).set p0 (.inr (0, f1.set 4 (.ref (s.2.2.2.2.length + 118))))).length + 118))))) ++ [(Sum.inl (0, ((150 : Int32)).toNatClampNeg, .inl (fun _ => 0)) : PC)]).set p0 (.inr (0, f3.set 6 (.ref (((((s.2.2.2.2 ++ [(Sum.inl (0, ((10 : Int32)).toNatClampNeg, .inl (fun _ => 0)) : PC)]).set p0 (.inr (0, f1.set 4 (.ref (s.2.2.2.2.length + 118))))) ++ [(Sum.inl (0, ((1650 : Int32)).toNatClampNeg, .inl (fun _ => 0)) : PC)]).set p0 (.inr (0, f2.set 5 (.ref (((s.2.2.2.2 ++ [(Sum.inl (0, ((10 : Int32)).toNatClampNeg, .inl (fun _ => 0)) : PC)]).set p0 (.inr (0, f1.set 4 (.ref (s.2.2.2.2.length + 118))))).length + 118))))).length + 118))))).length + 118))))).length + 118))))).length + 118))))))))))))))))))
theorem q_0 {d : Nat} {K : ST → Prop} (p0 : Nat) (s : ST) (k : w_0 p0 s K) : Rn sc (d + 1) 0 [.ref (p0 + 118)] (hpS s) (kV K) := by
  have hq : prog[0]? = some pm0 := rfl
  refine Rn.of (L := [.ref (p0 + 118)]) hq rfl rfl ?_
  unfold w_0 at k
  refine Ex.seg hq 4 (j := 4) (L' := [.ref (p0 + 118)]) (S' := [.int (10 : Int32), .ref (p0 + 118)]) (h' := hpS s) rfl ?_
  obtain ⟨h0, h1, k⟩ := k
  refine Ex.nad hq rfl h0 h1 ?_
  show Ex sc (d + 1) 0 5 [.ref (p0 + 118)] [.ref (s.2.2.2.2.length + 118), .ref (p0 + 118)] (hpS (sD s (s.2.2.2.2 ++ [(Sum.inl (0, ((10 : Int32)).toNatClampNeg, .inl (fun _ => 0)) : PC)]))) _
  obtain ⟨f1, e, hk, k⟩ := k
  refine Ex.pfd hq rfl e hk rfl ?_
  show Ex sc (d + 1) 0 6 [.ref (p0 + 118)] [] (hpS (sD s ((s.2.2.2.2 ++ [(Sum.inl (0, ((10 : Int32)).toNatClampNeg, .inl (fun _ => 0)) : PC)]).set p0 (.inr (0, f1.set 4 (.ref (s.2.2.2.2.length + 118))))))) _
  refine Ex.seg hq 2 (j := 8) (L' := [.ref (p0 + 118)]) (S' := [.int (1650 : Int32), .ref (p0 + 118)]) (h' := hpS (sD s ((s.2.2.2.2 ++ [(Sum.inl (0, ((10 : Int32)).toNatClampNeg, .inl (fun _ => 0)) : PC)]).set p0 (.inr (0, f1.set 4 (.ref (s.2.2.2.2.length + 118))))))) rfl ?_
  obtain ⟨h0, h1, k⟩ := k
  refine Ex.nad hq rfl h0 h1 ?_
  show Ex sc (d + 1) 0 9 [.ref (p0 + 118)] [.ref (((s.2.2.2.2 ++ [(Sum.inl (0, ((10 : Int32)).toNatClampNeg, .inl (fun _ => 0)) : PC)]).set p0 (.inr (0, f1.set 4 (.ref (s.2.2.2.2.length + 118))))).length + 118), .ref (p0 + 118)] (hpS (sD s (((s.2.2.2.2 ++ [(Sum.inl (0, ((10 : Int32)).toNatClampNeg, .inl (fun _ => 0)) : PC)]).set p0 (.inr (0, f1.set 4 (.ref (s.2.2.2.2.length + 118))))) ++ [(Sum.inl (0, ((1650 : Int32)).toNatClampNeg, .inl (fun _ => 0)) : PC)]))) _
  obtain ⟨f2, e, hk, k⟩ := k
  refine Ex.pfd hq rfl e hk rfl ?_
  show Ex sc (d + 1) 0 10 [.ref (p0 + 118)] [] (hpS (sD s ((((s.2.2.2.2 ++ [(Sum.inl (0, ((10 : Int32)).toNatClampNeg, .inl (fun _ => 0)) : PC)]).set p0 (.inr (0, f1.set 4 (.ref (s.2.2.2.2.length + 118))))) ++ [(Sum.inl (0, ((1650 : Int32)).toNatClampNeg, .inl (fun _ => 0)) : PC)]).set p0 (.inr (0, f2.set 5 (.ref (((s.2.2.2.2 ++ [(Sum.inl (0, ((10 : Int32)).toNatClampNeg, .inl (fun _ => 0)) : PC)]).set p0 (.inr (0, f1.set 4 (.ref (s.2.2.2.2.length + 118))))).length + 118))))))) _
  refine Ex.seg hq 2 (j := 12) (L' := [.ref (p0 + 118)]) (S' := [.int (150 : Int32), .ref (p0 + 118)]) (h' := hpS (sD s ((((s.2.2.2.2 ++ [(Sum.inl (0, ((10 : Int32)).toNatClampNeg, .inl (fun _ => 0)) : PC)]).set p0 (.inr (0, f1.set 4 (.ref (s.2.2.2.2.length + 118))))) ++ [(Sum.inl (0, ((1650 : Int32)).toNatClampNeg, .inl (fun _ => 0)) : PC)]).set p0 (.inr (0, f2.set 5 (.ref (((s.2.2.2.2 ++ [(Sum.inl (0, ((10 : Int32)).toNatClampNeg, .inl (fun _ => 0)) : PC)]).set p0 (.inr (0, f1.set 4 (.ref (s.2.2.2.2.length + 118))))).length + 118))))))) rfl ?_
  obtain ⟨h0, h1, k⟩ := k
  refine Ex.nad hq rfl h0 h1 ?_
  show Ex sc (d + 1) 0 13 [.ref (p0 + 118)] [.ref (((((s.2.2.2.2 ++ [(Sum.inl (0, ((10 : Int32)).toNatClampNeg, .inl (fun _ => 0)) : PC)]).set p0 (.inr (0, f1.set 4 (.ref (s.2.2.2.2.length + 118))))) ++ [(Sum.inl (0, ((1650 : Int32)).toNatClampNeg, .inl (fun _ => 0)) : PC)]).set p0 (.inr (0, f2.set 5 (.ref (((s.2.2.2.2 ++ [(Sum.inl (0, ((10 : Int32)).toNatClampNeg, .inl (fun _ => 0)) : PC)]).set p0 (.inr (0, f1.set 4 (.ref (s.2.2.2.2.length + 118))))).length + 118))))).length + 118), .ref (p0 + 118)] (hpS (sD s (((((s.2.2.2.2 ++ [(Sum.inl (0, ((10 : Int32)).toNatClampNeg, .inl (fun _ => 0)) : PC)]).set p0 (.inr (0, f1.set 4 (.ref (s.2.2.2.2.length + 118))))) ++ [(Sum.inl (0, ((1650 : Int32)).toNatClampNeg, .inl (fun _ => 0)) : PC)]).set p0 (.inr (0, f2.set 5 (.ref (((s.2.2.2.2 ++ [(Sum.inl (0, ((10 : Int32)).toNatClampNeg, .inl (fun _ => 0)) : PC)]).set p0 (.inr (0, f1.set 4 (.ref (s.2.2.2.2.length + 118))))).length + 118))))) ++ [(Sum.inl (0, ((150 : Int32)).toNatClampNeg, .inl (fun _ => 0)) : PC)]))) _
  obtain ⟨f3, e, hk, k⟩ := k
  refine Ex.pfd hq rfl e hk rfl ?_
  show Ex sc (d + 1) 0 14 [.ref (p0 + 118)] [] (hpS (sD s ((((((s.2.2.2.2 ++ [(Sum.inl (0, ((10 : Int32)).toNatClampNeg, .inl (fun _ => 0)) : PC)]).set p0 (.inr (0, f1.set 4 (.ref (s.2.2.2.2.length + 118))))) ++ [(Sum.inl (0, ((1650 : Int32)).toNatClampNeg, .inl (fun _ => 0)) : PC)]).set p0 (.inr (0, f2.set 5 (.ref (((s.2.2.2.2 ++ [(Sum.inl (0, ((10 : Int32)).toNatClampNeg, .inl (fun _ => 0)) : PC)]).set p0 (.inr (0, f1.set 4 (.ref (s.2.2.2.2.length + 118))))).length + 118))))) ++ [(Sum.inl (0, ((150 : Int32)).toNatClampNeg, .inl (fun _ => 0)) : PC)]).set p0 (.inr (0, f3.set 6 (.ref (((((s.2.2.2.2 ++ [(Sum.inl (0, ((10 : Int32)).toNatClampNeg, .inl (fun _ => 0)) : PC)]).set p0 (.inr (0, f1.set 4 (.ref (s.2.2.2.2.length + 118))))) ++ [(Sum.inl (0, ((1650 : Int32)).toNatClampNeg, .inl (fun _ => 0)) : PC)]).set p0 (.inr (0, f2.set 5 (.ref (((s.2.2.2.2 ++ [(Sum.inl (0, ((10 : Int32)).toNatClampNeg, .inl (fun _ => 0)) : PC)]).set p0 (.inr (0, f1.set 4 (.ref (s.2.2.2.2.length + 118))))).length + 118))))).length + 118))))))) _
  refine Ex.seg hq 2 (j := 16) (L' := [.ref (p0 + 118)]) (S' := [.int (100 : Int32), .ref (p0 + 118)]) (h' := hpS (sD s ((((((s.2.2.2.2 ++ [(Sum.inl (0, ((10 : Int32)).toNatClampNeg, .inl (fun _ => 0)) : PC)]).set p0 (.inr (0, f1.set 4 (.ref (s.2.2.2.2.length + 118))))) ++ [(Sum.inl (0, ((1650 : Int32)).toNatClampNeg, .inl (fun _ => 0)) : PC)]).set p0 (.inr (0, f2.set 5 (.ref (((s.2.2.2.2 ++ [(Sum.inl (0, ((10 : Int32)).toNatClampNeg, .inl (fun _ => 0)) : PC)]).set p0 (.inr (0, f1.set 4 (.ref (s.2.2.2.2.length + 118))))).length + 118))))) ++ [(Sum.inl (0, ((150 : Int32)).toNatClampNeg, .inl (fun _ => 0)) : PC)]).set p0 (.inr (0, f3.set 6 (.ref (((((s.2.2.2.2 ++ [(Sum.inl (0, ((10 : Int32)).toNatClampNeg, .inl (fun _ => 0)) : PC)]).set p0 (.inr (0, f1.set 4 (.ref (s.2.2.2.2.length + 118))))) ++ [(Sum.inl (0, ((1650 : Int32)).toNatClampNeg, .inl (fun _ => 0)) : PC)]).set p0 (.inr (0, f2.set 5 (.ref (((s.2.2.2.2 ++ [(Sum.inl (0, ((10 : Int32)).toNatClampNeg, .inl (fun _ => 0)) : PC)]).set p0 (.inr (0, f1.set 4 (.ref (s.2.2.2.2.length + 118))))).length + 118))))).length + 118))))))) rfl ?_
  obtain ⟨h0, h1, k⟩ := k
  refine Ex.nad hq rfl h0 h1 ?_
  show Ex sc (d + 1) 0 17 [.ref (p0 + 118)] [.ref (((((((s.2.2.2.2 ++ [(Sum.inl (0, ((10 : Int32)).toNatClampNeg, .inl (fun _ => 0)) : PC)]).set p0 (.inr (0, f1.set 4 (.ref (s.2.2.2.2.length + 118))))) ++ [(Sum.inl (0, ((1650 : Int32)).toNatClampNeg, .inl (fun _ => 0)) : PC)]).set p0 (.inr (0, f2.set 5 (.ref (((s.2.2.2.2 ++ [(Sum.inl (0, ((10 : Int32)).toNatClampNeg, .inl (fun _ => 0)) : PC)]).set p0 (.inr (0, f1.set 4 (.ref (s.2.2.2.2.length + 118))))).length + 118))))) ++ [(Sum.inl (0, ((150 : Int32)).toNatClampNeg, .inl (fun _ => 0)) : PC)]).set p0 (.inr (0, f3.set 6 (.ref (((((s.2.2.2.2 ++ [(Sum.inl (0, ((10 : Int32)).toNatClampNeg, .inl (fun _ => 0)) : PC)]).set p0 (.inr (0, f1.set 4 (.ref (s.2.2.2.2.length + 118))))) ++ [(Sum.inl (0, ((1650 : Int32)).toNatClampNeg, .inl (fun _ => 0)) : PC)]).set p0 (.inr (0, f2.set 5 (.ref (((s.2.2.2.2 ++ [(Sum.inl (0, ((10 : Int32)).toNatClampNeg, .inl (fun _ => 0)) : PC)]).set p0 (.inr (0, f1.set 4 (.ref (s.2.2.2.2.length + 118))))).length + 118))))).length + 118))))).length + 118), .ref (p0 + 118)] (hpS (sD s (((((((s.2.2.2.2 ++ [(Sum.inl (0, ((10 : Int32)).toNatClampNeg, .inl (fun _ => 0)) : PC)]).set p0 (.inr (0, f1.set 4 (.ref (s.2.2.2.2.length + 118))))) ++ [(Sum.inl (0, ((1650 : Int32)).toNatClampNeg, .inl (fun _ => 0)) : PC)]).set p0 (.inr (0, f2.set 5 (.ref (((s.2.2.2.2 ++ [(Sum.inl (0, ((10 : Int32)).toNatClampNeg, .inl (fun _ => 0)) : PC)]).set p0 (.inr (0, f1.set 4 (.ref (s.2.2.2.2.length + 118))))).length + 118))))) ++ [(Sum.inl (0, ((150 : Int32)).toNatClampNeg, .inl (fun _ => 0)) : PC)]).set p0 (.inr (0, f3.set 6 (.ref (((((s.2.2.2.2 ++ [(Sum.inl (0, ((10 : Int32)).toNatClampNeg, .inl (fun _ => 0)) : PC)]).set p0 (.inr (0, f1.set 4 (.ref (s.2.2.2.2.length + 118))))) ++ [(Sum.inl (0, ((1650 : Int32)).toNatClampNeg, .inl (fun _ => 0)) : PC)]).set p0 (.inr (0, f2.set 5 (.ref (((s.2.2.2.2 ++ [(Sum.inl (0, ((10 : Int32)).toNatClampNeg, .inl (fun _ => 0)) : PC)]).set p0 (.inr (0, f1.set 4 (.ref (s.2.2.2.2.length + 118))))).length + 118))))).length + 118))))) ++ [(Sum.inl (0, ((100 : Int32)).toNatClampNeg, .inl (fun _ => 0)) : PC)]))) _
  obtain ⟨f4, e, hk, k⟩ := k
  refine Ex.pfd hq rfl e hk rfl ?_
  show Ex sc (d + 1) 0 18 [.ref (p0 + 118)] [] (hpS (sD s ((((((((s.2.2.2.2 ++ [(Sum.inl (0, ((10 : Int32)).toNatClampNeg, .inl (fun _ => 0)) : PC)]).set p0 (.inr (0, f1.set 4 (.ref (s.2.2.2.2.length + 118))))) ++ [(Sum.inl (0, ((1650 : Int32)).toNatClampNeg, .inl (fun _ => 0)) : PC)]).set p0 (.inr (0, f2.set 5 (.ref (((s.2.2.2.2 ++ [(Sum.inl (0, ((10 : Int32)).toNatClampNeg, .inl (fun _ => 0)) : PC)]).set p0 (.inr (0, f1.set 4 (.ref (s.2.2.2.2.length + 118))))).length + 118))))) ++ [(Sum.inl (0, ((150 : Int32)).toNatClampNeg, .inl (fun _ => 0)) : PC)]).set p0 (.inr (0, f3.set 6 (.ref (((((s.2.2.2.2 ++ [(Sum.inl (0, ((10 : Int32)).toNatClampNeg, .inl (fun _ => 0)) : PC)]).set p0 (.inr (0, f1.set 4 (.ref (s.2.2.2.2.length + 118))))) ++ [(Sum.inl (0, ((1650 : Int32)).toNatClampNeg, .inl (fun _ => 0)) : PC)]).set p0 (.inr (0, f2.set 5 (.ref (((s.2.2.2.2 ++ [(Sum.inl (0, ((10 : Int32)).toNatClampNeg, .inl (fun _ => 0)) : PC)]).set p0 (.inr (0, f1.set 4 (.ref (s.2.2.2.2.length + 118))))).length + 118))))).length + 118))))) ++ [(Sum.inl (0, ((100 : Int32)).toNatClampNeg, .inl (fun _ => 0)) : PC)]).set p0 (.inr (0, f4.set 7 (.ref (((((((s.2.2.2.2 ++ [(Sum.inl (0, ((10 : Int32)).toNatClampNeg, .inl (fun _ => 0)) : PC)]).set p0 (.inr (0, f1.set 4 (.ref (s.2.2.2.2.length + 118))))) ++ [(Sum.inl (0, ((1650 : Int32)).toNatClampNeg, .inl (fun _ => 0)) : PC)]).set p0 (.inr (0, f2.set 5 (.ref (((s.2.2.2.2 ++ [(Sum.inl (0, ((10 : Int32)).toNatClampNeg, .inl (fun _ => 0)) : PC)]).set p0 (.inr (0, f1.set 4 (.ref (s.2.2.2.2.length + 118))))).length + 118))))) ++ [(Sum.inl (0, ((150 : Int32)).toNatClampNeg, .inl (fun _ => 0)) : PC)]).set p0 (.inr (0, f3.set 6 (.ref (((((s.2.2.2.2 ++ [(Sum.inl (0, ((10 : Int32)).toNatClampNeg, .inl (fun _ => 0)) : PC)]).set p0 (.inr (0, f1.set 4 (.ref (s.2.2.2.2.length + 118))))) ++ [(Sum.inl (0, ((1650 : Int32)).toNatClampNeg, .inl (fun _ => 0)) : PC)]).set p0 (.inr (0, f2.set 5 (.ref (((s.2.2.2.2 ++ [(Sum.inl (0, ((10 : Int32)).toNatClampNeg, .inl (fun _ => 0)) : PC)]).set p0 (.inr (0, f1.set 4 (.ref (s.2.2.2.2.length + 118))))).length + 118))))).length + 118))))).length + 118))))))) _
  refine Ex.seg hq 2 (j := 20) (L' := [.ref (p0 + 118)]) (S' := [.int (100 : Int32), .ref (p0 + 118)]) (h' := hpS (sD s ((((((((s.2.2.2.2 ++ [(Sum.inl (0, ((10 : Int32)).toNatClampNeg, .inl (fun _ => 0)) : PC)]).set p0 (.inr (0, f1.set 4 (.ref (s.2.2.2.2.length + 118))))) ++ [(Sum.inl (0, ((1650 : Int32)).toNatClampNeg, .inl (fun _ => 0)) : PC)]).set p0 (.inr (0, f2.set 5 (.ref (((s.2.2.2.2 ++ [(Sum.inl (0, ((10 : Int32)).toNatClampNeg, .inl (fun _ => 0)) : PC)]).set p0 (.inr (0, f1.set 4 (.ref (s.2.2.2.2.length + 118))))).length + 118))))) ++ [(Sum.inl (0, ((150 : Int32)).toNatClampNeg, .inl (fun _ => 0)) : PC)]).set p0 (.inr (0, f3.set 6 (.ref (((((s.2.2.2.2 ++ [(Sum.inl (0, ((10 : Int32)).toNatClampNeg, .inl (fun _ => 0)) : PC)]).set p0 (.inr (0, f1.set 4 (.ref (s.2.2.2.2.length + 118))))) ++ [(Sum.inl (0, ((1650 : Int32)).toNatClampNeg, .inl (fun _ => 0)) : PC)]).set p0 (.inr (0, f2.set 5 (.ref (((s.2.2.2.2 ++ [(Sum.inl (0, ((10 : Int32)).toNatClampNeg, .inl (fun _ => 0)) : PC)]).set p0 (.inr (0, f1.set 4 (.ref (s.2.2.2.2.length + 118))))).length + 118))))).length + 118))))) ++ [(Sum.inl (0, ((100 : Int32)).toNatClampNeg, .inl (fun _ => 0)) : PC)]).set p0 (.inr (0, f4.set 7 (.ref (((((((s.2.2.2.2 ++ [(Sum.inl (0, ((10 : Int32)).toNatClampNeg, .inl (fun _ => 0)) : PC)]).set p0 (.inr (0, f1.set 4 (.ref (s.2.2.2.2.length + 118))))) ++ [(Sum.inl (0, ((1650 : Int32)).toNatClampNeg, .inl (fun _ => 0)) : PC)]).set p0 (.inr (0, f2.set 5 (.ref (((s.2.2.2.2 ++ [(Sum.inl (0, ((10 : Int32)).toNatClampNeg, .inl (fun _ => 0)) : PC)]).set p0 (.inr (0, f1.set 4 (.ref (s.2.2.2.2.length + 118))))).length + 118))))) ++ [(Sum.inl (0, ((150 : Int32)).toNatClampNeg, .inl (fun _ => 0)) : PC)]).set p0 (.inr (0, f3.set 6 (.ref (((((s.2.2.2.2 ++ [(Sum.inl (0, ((10 : Int32)).toNatClampNeg, .inl (fun _ => 0)) : PC)]).set p0 (.inr (0, f1.set 4 (.ref (s.2.2.2.2.length + 118))))) ++ [(Sum.inl (0, ((1650 : Int32)).toNatClampNeg, .inl (fun _ => 0)) : PC)]).set p0 (.inr (0, f2.set 5 (.ref (((s.2.2.2.2 ++ [(Sum.inl (0, ((10 : Int32)).toNatClampNeg, .inl (fun _ => 0)) : PC)]).set p0 (.inr (0, f1.set 4 (.ref (s.2.2.2.2.length + 118))))).length + 118))))).length + 118))))).length + 118))))))) rfl ?_
  obtain ⟨h0, h1, k⟩ := k
  refine Ex.nad hq rfl h0 h1 ?_
  show Ex sc (d + 1) 0 21 [.ref (p0 + 118)] [.ref (((((((((s.2.2.2.2 ++ [(Sum.inl (0, ((10 : Int32)).toNatClampNeg, .inl (fun _ => 0)) : PC)]).set p0 (.inr (0, f1.set 4 (.ref (s.2.2.2.2.length + 118))))) ++ [(Sum.inl (0, ((1650 : Int32)).toNatClampNeg, .inl (fun _ => 0)) : PC)]).set p0 (.inr (0, f2.set 5 (.ref (((s.2.2.2.2 ++ [(Sum.inl (0, ((10 : Int32)).toNatClampNeg, .inl (fun _ => 0)) : PC)]).set p0 (.inr (0, f1.set 4 (.ref (s.2.2.2.2.length + 118))))).length + 118))))) ++ [(Sum.inl (0, ((150 : Int32)).toNatClampNeg, .inl (fun _ => 0)) : PC)]).set p0 (.inr (0, f3.set 6 (.ref (((((s.2.2.2.2 ++ [(Sum.inl (0, ((10 : Int32)).toNatClampNeg, .inl (fun _ => 0)) : PC)]).set p0 (.inr (0, f1.set 4 (.ref (s.2.2.2.2.length + 118))))) ++ [(Sum.inl (0, ((1650 : Int32)).toNatClampNeg, .inl (fun _ => 0)) : PC)]).set p0 (.inr (0, f2.set 5 (.ref (((s.2.2.2.2 ++ [(Sum.inl (0, ((10 : Int32)).toNatClampNeg, .inl (fun _ => 0)) : PC)]).set p0 (.inr (0, f1.set 4 (.ref (s.2.2.2.2.length + 118))))).length + 118))))).length + 118))))) ++ [(Sum.inl (0, ((100 : Int32)).toNatClampNeg, .inl (fun _ => 0)) : PC)]).set p0 (.inr (0, f4.set 7 (.ref (((((((s.2.2.2.2 ++ [(Sum.inl (0, ((10 : Int32)).toNatClampNeg, .inl (fun _ => 0)) : PC)]).set p0 (.inr (0, f1.set 4 (.ref (s.2.2.2.2.length + 118))))) ++ [(Sum.inl (0, ((1650 : Int32)).toNatClampNeg, .inl (fun _ => 0)) : PC)]).set p0 (.inr (0, f2.set 5 (.ref (((s.2.2.2.2 ++ [(Sum.inl (0, ((10 : Int32)).toNatClampNeg, .inl (fun _ => 0)) : PC)]).set p0 (.inr (0, f1.set 4 (.ref (s.2.2.2.2.length + 118))))).length + 118))))) ++ [(Sum.inl (0, ((150 : Int32)).toNatClampNeg, .inl (fun _ => 0)) : PC)]).set p0 (.inr (0, f3.set 6 (.ref (((((s.2.2.2.2 ++ [(Sum.inl (0, ((10 : Int32)).toNatClampNeg, .inl (fun _ => 0)) : PC)]).set p0 (.inr (0, f1.set 4 (.ref (s.2.2.2.2.length + 118))))) ++ [(Sum.inl (0, ((1650 : Int32)).toNatClampNeg, .inl (fun _ => 0)) : PC)]).set p0 (.inr (0, f2.set 5 (.ref (((s.2.2.2.2 ++ [(Sum.inl (0, ((10 : Int32)).toNatClampNeg, .inl (fun _ => 0)) : PC)]).set p0 (.inr (0, f1.set 4 (.ref (s.2.2.2.2.length + 118))))).length + 118))))).length + 118))))).length + 118))))).length + 118), .ref (p0 + 118)] (hpS (sD s (((((((((s.2.2.2.2 ++ [(Sum.inl (0, ((10 : Int32)).toNatClampNeg, .inl (fun _ => 0)) : PC)]).set p0 (.inr (0, f1.set 4 (.ref (s.2.2.2.2.length + 118))))) ++ [(Sum.inl (0, ((1650 : Int32)).toNatClampNeg, .inl (fun _ => 0)) : PC)]).set p0 (.inr (0, f2.set 5 (.ref (((s.2.2.2.2 ++ [(Sum.inl (0, ((10 : Int32)).toNatClampNeg, .inl (fun _ => 0)) : PC)]).set p0 (.inr (0, f1.set 4 (.ref (s.2.2.2.2.length + 118))))).length + 118))))) ++ [(Sum.inl (0, ((150 : Int32)).toNatClampNeg, .inl (fun _ => 0)) : PC)]).set p0 (.inr (0, f3.set 6 (.ref (((((s.2.2.2.2 ++ [(Sum.inl (0, ((10 : Int32)).toNatClampNeg, .inl (fun _ => 0)) : PC)]).set p0 (.inr (0, f1.set 4 (.ref (s.2.2.2.2.length + 118))))) ++ [(Sum.inl (0, ((1650 : Int32)).toNatClampNeg, .inl (fun _ => 0)) : PC)]).set p0 (.inr (0, f2.set 5 (.ref (((s.2.2.2.2 ++ [(Sum.inl (0, ((10 : Int32)).toNatClampNeg, .inl (fun _ => 0)) : PC)]).set p0 (.inr (0, f1.set 4 (.ref (s.2.2.2.2.length + 118))))).length + 118))))).length + 118))))) ++ [(Sum.inl (0, ((100 : Int32)).toNatClampNeg, .inl (fun _ => 0)) : PC)]).set p0 (.inr (0, f4.set 7 (.ref (((((((s.2.2.2.2 ++ [(Sum.inl (0, ((10 : Int32)).toNatClampNeg, .inl (fun _ => 0)) : PC)]).set p0 (.inr (0, f1.set 4 (.ref (s.2.2.2.2.length + 118))))) ++ [(Sum.inl (0, ((1650 : Int32)).toNatClampNeg, .inl (fun _ => 0)) : PC)]).set p0 (.inr (0, f2.set 5 (.ref (((s.2.2.2.2 ++ [(Sum.inl (0, ((10 : Int32)).toNatClampNeg, .inl (fun _ => 0)) : PC)]).set p0 (.inr (0, f1.set 4 (.ref (s.2.2.2.2.length + 118))))).length + 118))))) ++ [(Sum.inl (0, ((150 : Int32)).toNatClampNeg, .inl (fun _ => 0)) : PC)]).set p0 (.inr (0, f3.set 6 (.ref (((((s.2.2.2.2 ++ [(Sum.inl (0, ((10 : Int32)).toNatClampNeg, .inl (fun _ => 0)) : PC)]).set p0 (.inr (0, f1.set 4 (.ref (s.2.2.2.2.length + 118))))) ++ [(Sum.inl (0, ((1650 : Int32)).toNatClampNeg, .inl (fun _ => 0)) : PC)]).set p0 (.inr (0, f2.set 5 (.ref (((s.2.2.2.2 ++ [(Sum.inl (0, ((10 : Int32)).toNatClampNeg, .inl (fun _ => 0)) : PC)]).set p0 (.inr (0, f1.set 4 (.ref (s.2.2.2.2.length + 118))))).length + 118))))).length + 118))))).length + 118))))) ++ [(Sum.inl (0, ((100 : Int32)).toNatClampNeg, .inl (fun _ => 0)) : PC)]))) _
  obtain ⟨f5, e, hk, k⟩ := k
  refine Ex.pfd hq rfl e hk rfl ?_
  show Ex sc (d + 1) 0 22 [.ref (p0 + 118)] [] (hpS (sD s ((((((((((s.2.2.2.2 ++ [(Sum.inl (0, ((10 : Int32)).toNatClampNeg, .inl (fun _ => 0)) : PC)]).set p0 (.inr (0, f1.set 4 (.ref (s.2.2.2.2.length + 118))))) ++ [(Sum.inl (0, ((1650 : Int32)).toNatClampNeg, .inl (fun _ => 0)) : PC)]).set p0 (.inr (0, f2.set 5 (.ref (((s.2.2.2.2 ++ [(Sum.inl (0, ((10 : Int32)).toNatClampNeg, .inl (fun _ => 0)) : PC)]).set p0 (.inr (0, f1.set 4 (.ref (s.2.2.2.2.length + 118))))).length + 118))))) ++ [(Sum.inl (0, ((150 : Int32)).toNatClampNeg, .inl (fun _ => 0)) : PC)]).set p0 (.inr (0, f3.set 6 (.ref (((((s.2.2.2.2 ++ [(Sum.inl (0, ((10 : Int32)).toNatClampNeg, .inl (fun _ => 0)) : PC)]).set p0 (.inr (0, f1.set 4 (.ref (s.2.2.2.2.length + 118))))) ++ [(Sum.inl (0, ((1650 : Int32)).toNatClampNeg, .inl (fun _ => 0)) : PC)]).set p0 (.inr (0, f2.set 5 (.ref (((s.2.2.2.2 ++ [(Sum.inl (0, ((10 : Int32)).toNatClampNeg, .inl (fun _ => 0)) : PC)]).set p0 (.inr (0, f1.set 4 (.ref (s.2.2.2.2.length + 118))))).length + 118))))).length + 118))))) ++ [(Sum.inl (0, ((100 : Int32)).toNatClampNeg, .inl (fun _ => 0)) : PC)]).set p0 (.inr (0, f4.set 7 (.ref (((((((s.2.2.2.2 ++ [(Sum.inl (0, ((10 : Int32)).toNatClampNeg, .inl (fun _ => 0)) : PC)]).set p0 (.inr (0, f1.set 4 (.ref (s.2.2.2.2.length + 118))))) ++ [(Sum.inl (0, ((1650 : Int32)).toNatClampNeg, .inl (fun _ => 0)) : PC)]).set p0 (.inr (0, f2.set 5 (.ref (((s.2.2.2.2 ++ [(Sum.inl (0, ((10 : Int32)).toNatClampNeg, .inl (fun _ => 0)) : PC)]).set p0 (.inr (0, f1.set 4 (.ref (s.2.2.2.2.length + 118))))).length + 118))))) ++ [(Sum.inl (0, ((150 : Int32)).toNatClampNeg, .inl (fun _ => 0)) : PC)]).set p0 (.inr (0, f3.set 6 (.ref (((((s.2.2.2.2 ++ [(Sum.inl (0, ((10 : Int32)).toNatClampNeg, .inl (fun _ => 0)) : PC)]).set p0 (.inr (0, f1.set 4 (.ref (s.2.2.2.2.length + 118))))) ++ [(Sum.inl (0, ((1650 : Int32)).toNatClampNeg, .inl (fun _ => 0)) : PC)]).set p0 (.inr (0, f2.set 5 (.ref (((s.2.2.2.2 ++ [(Sum.inl (0, ((10 : Int32)).toNatClampNeg, .inl (fun _ => 0)) : PC)]).set p0 (.inr (0, f1.set 4 (.ref (s.2.2.2.2.length + 118))))).length + 118))))).length + 118))))).length + 118))))) ++ [(Sum.inl (0, ((100 : Int32)).toNatClampNeg, .inl (fun _ => 0)) : PC)]).set p0 (.inr (0, f5.set 8 (.ref (((((((((s.2.2.2.2 ++ [(Sum.inl (0, ((10 : Int32)).toNatClampNeg, .inl (fun _ => 0)) : PC)]).set p0 (.inr (0, f1.set 4 (.ref (s.2.2.2.2.length + 118))))) ++ [(Sum.inl (0, ((1650 : Int32)).toNatClampNeg, .inl (fun _ => 0)) : PC)]).set p0 (.inr (0, f2.set 5 (.ref (((s.2.2.2.2 ++ [(Sum.inl (0, ((10 : Int32)).toNatClampNeg, .inl (fun _ => 0)) : PC)]).set p0 (.inr (0, f1.set 4 (.ref (s.2.2.2.2.length + 118))))).length + 118))))) ++ [(Sum.inl (0, ((150 : Int32)).toNatClampNeg, .inl (fun _ => 0)) : PC)]).set p0 (.inr (0, f3.set 6 (.ref (((((s.2.2.2.2 ++ [(Sum.inl (0, ((10 : Int32)).toNatClampNeg, .inl (fun _ => 0)) : PC)]).set p0 (.inr (0, f1.set 4 (.ref (s.2.2.2.2.length + 118))))) ++ [(Sum.inl (0, ((1650 : Int32)).toNatClampNeg, .inl (fun _ => 0)) : PC)]).set p0 (.inr (0, f2.set 5 (.ref (((s.2.2.2.2 ++ [(Sum.inl (0, ((10 : Int32)).toNatClampNeg, .inl (fun _ => 0)) : PC)]).set p0 (.inr (0, f1.set 4 (.ref (s.2.2.2.2.length + 118))))).length + 118))))).length + 118))))) ++ [(Sum.inl (0, ((100 : Int32)).toNatClampNeg, .inl (fun _ => 0)) : PC)]).set p0 (.inr (0, f4.set 7 (.ref (((((((s.2.2.2.2 ++ [(Sum.inl (0, ((10 : Int32)).toNatClampNeg, .inl (fun _ => 0)) : PC)]).set p0 (.inr (0, f1.set 4 (.ref (s.2.2.2.2.length + 118))))) ++ [(Sum.inl (0, ((1650 : Int32)).toNatClampNeg, .inl (fun _ => 0)) : PC)]).set p0 (.inr (0, f2.set 5 (.ref (((s.2.2.2.2 ++ [(Sum.inl (0, ((10 : Int32)).toNatClampNeg, .inl (fun _ => 0)) : PC)]).set p0 (.inr (0, f1.set 4 (.ref (s.2.2.2.2.length + 118))))).length + 118))))) ++ [(Sum.inl (0, ((150 : Int32)).toNatClampNeg, .inl (fun _ => 0)) : PC)]).set p0 (.inr (0, f3.set 6 (.ref (((((s.2.2.2.2 ++ [(Sum.inl (0, ((10 : Int32)).toNatClampNeg, .inl (fun _ => 0)) : PC)]).set p0 (.inr (0, f1.set 4 (.ref (s.2.2.2.2.length + 118))))) ++ [(Sum.inl (0, ((1650 : Int32)).toNatClampNeg, .inl (fun _ => 0)) : PC)]).set p0 (.inr (0, f2.set 5 (.ref (((s.2.2.2.2 ++ [(Sum.inl (0, ((10 : Int32)).toNatClampNeg, .inl (fun _ => 0)) : PC)]).set p0 (.inr (0, f1.set 4 (.ref (s.2.2.2.2.length + 118))))).length + 118))))).length + 118))))).length + 118))))).length + 118))))))) _
  refine Ex.seg hq 2 (j := 24) (L' := [.ref (p0 + 118)]) (S' := [.int (100 : Int32), .ref (p0 + 118)]) (h' := hpS (sD s ((((((((((s.2.2.2.2 ++ [(Sum.inl (0, ((10 : Int32)).toNatClampNeg, .inl (fun _ => 0)) : PC)]).set p0 (.inr (0, f1.set 4 (.ref (s.2.2.2.2.length + 118))))) ++ [(Sum.inl (0, ((1650 : Int32)).toNatClampNeg, .inl (fun _ => 0)) : PC)]).set p0 (.inr (0, f2.set 5 (.ref (((s.2.2.2.2 ++ [(Sum.inl (0, ((10 : Int32)).toNatClampNeg, .inl (fun _ => 0)) : PC)]).set p0 (.inr (0, f1.set 4 (.ref (s.2.2.2.2.length + 118))))).length + 118))))) ++ [(Sum.inl (0, ((150 : Int32)).toNatClampNeg, .inl (fun _ => 0)) : PC)]).set p0 (.inr (0, f3.set 6 (.ref (((((s.2.2.2.2 ++ [(Sum.inl (0, ((10 : Int32)).toNatClampNeg, .inl (fun _ => 0)) : PC)]).set p0 (.inr (0, f1.set 4 (.ref (s.2.2.2.2.length + 118))))) ++ [(Sum.inl (0, ((1650 : Int32)).toNatClampNeg, .inl (fun _ => 0)) : PC)]).set p0 (.inr (0, f2.set 5 (.ref (((s.2.2.2.2 ++ [(Sum.inl (0, ((10 : Int32)).toNatClampNeg, .inl (fun _ => 0)) : PC)]).set p0 (.inr (0, f1.set 4 (.ref (s.2.2.2.2.length + 118))))).length + 118))))).length + 118))))) ++ [(Sum.inl (0, ((100 : Int32)).toNatClampNeg, .inl (fun _ => 0)) : PC)]).set p0 (.inr (0, f4.set 7 (.ref (((((((s.2.2.2.2 ++ [(Sum.inl (0, ((10 : Int32)).toNatClampNeg, .inl (fun _ => 0)) : PC)]).set p0 (.inr (0, f1.set 4 (.ref (s.2.2.2.2.length + 118))))) ++ [(Sum.inl (0, ((1650 : Int32)).toNatClampNeg, .inl (fun _ => 0)) : PC)]).set p0 (.inr (0, f2.set 5 (.ref (((s.2.2.2.2 ++ [(Sum.inl (0, ((10 : Int32)).toNatClampNeg, .inl (fun _ => 0)) : PC)]).set p0 (.inr (0, f1.set 4 (.ref (s.2.2.2.2.length + 118))))).length + 118))))) ++ [(Sum.inl (0, ((150 : Int32)).toNatClampNeg, .inl (fun _ => 0)) : PC)]).set p0 (.inr (0, f3.set 6 (.ref (((((s.2.2.2.2 ++ [(Sum.inl (0, ((10 : Int32)).toNatClampNeg, .inl (fun _ => 0)) : PC)]).set p0 (.inr (0, f1.set 4 (.ref (s.2.2.2.2.length + 118))))) ++ [(Sum.inl (0, ((1650 : Int32)).toNatClampNeg, .inl (fun _ => 0)) : PC)]).set p0 (.inr (0, f2.set 5 (.ref (((s.2.2.2.2 ++ [(Sum.inl (0, ((10 : Int32)).toNatClampNeg, .inl (fun _ => 0)) : PC)]).set p0 (.inr (0, f1.set 4 (.ref (s.2.2.2.2.length + 118))))).length + 118))))).length + 118))))).length + 118))))) ++ [(Sum.inl (0, ((100 : Int32)).toNatClampNeg, .inl (fun _ => 0)) : PC)]).set p0 (.inr (0, f5.set 8 (.ref (((((((((s.2.2.2.2 ++ [(Sum.inl (0, ((10 : Int32)).toNatClampNeg, .inl (fun _ => 0)) : PC)]).set p0 (.inr (0, f1.set 4 (.ref (s.2.2.2.2.length + 118))))) ++ [(Sum.inl (0, ((1650 : Int32)).toNatClampNeg, .inl (fun _ => 0)) : PC)]).set p0 (.inr (0, f2.set 5 (.ref (((s.2.2.2.2 ++ [(Sum.inl (0, ((10 : Int32)).toNatClampNeg, .inl (fun _ => 0)) : PC)]).set p0 (.inr (0, f1.set 4 (.ref (s.2.2.2.2.length + 118))))).length + 118))))) ++ [(Sum.inl (0, ((150 : Int32)).toNatClampNeg, .inl (fun _ => 0)) : PC)]).set p0 (.inr (0, f3.set 6 (.ref (((((s.2.2.2.2 ++ [(Sum.inl (0, ((10 : Int32)).toNatClampNeg, .inl (fun _ => 0)) : PC)]).set p0 (.inr (0, f1.set 4 (.ref (s.2.2.2.2.length + 118))))) ++ [(Sum.inl (0, ((1650 : Int32)).toNatClampNeg, .inl (fun _ => 0)) : PC)]).set p0 (.inr (0, f2.set 5 (.ref (((s.2.2.2.2 ++ [(Sum.inl (0, ((10 : Int32)).toNatClampNeg, .inl (fun _ => 0)) : PC)]).set p0 (.inr (0, f1.set 4 (.ref (s.2.2.2.2.length + 118))))).length + 118))))).length + 118))))) ++ [(Sum.inl (0, ((100 : Int32)).toNatClampNeg, .inl (fun _ => 0)) : PC)]).set p0 (.inr (0, f4.set 7 (.ref (((((((s.2.2.2.2 ++ [(Sum.inl (0, ((10 : Int32)).toNatClampNeg, .inl (fun _ => 0)) : PC)]).set p0 (.inr (0, f1.set 4 (.ref (s.2.2.2.2.length + 118))))) ++ [(Sum.inl (0, ((1650 : Int32)).toNatClampNeg, .inl (fun _ => 0)) : PC)]).set p0 (.inr (0, f2.set 5 (.ref (((s.2.2.2.2 ++ [(Sum.inl (0, ((10 : Int32)).toNatClampNeg, .inl (fun _ => 0)) : PC)]).set p0 (.inr (0, f1.set 4 (.ref (s.2.2.2.2.length + 118))))).length + 118))))) ++ [(Sum.inl (0, ((150 : Int32)).toNatClampNeg, .inl (fun _ => 0)) : PC)]).set p0 (.inr (0, f3.set 6 (.ref (((((s.2.2.2.2 ++ [(Sum.inl (0, ((10 : Int32)).toNatClampNeg, .inl (fun _ => 0)) : PC)]).set p0 (.inr (0, f1.set 4 (.ref (s.2.2.2.2.length + 118))))) ++ [(Sum.inl (0, ((1650 : Int32)).toNatClampNeg, .inl (fun _ => 0)) : PC)]).set p0 (.inr (0, f2.set 5 (.ref (((s.2.2.2.2 ++ [(Sum.inl (0, ((10 : Int32)).toNatClampNeg, .inl (fun _ => 0)) : PC)]).set p0 (.inr (0, f1.set 4 (.ref (s.2.2.2.2.length + 118))))).length + 118))))).length + 118))))).length + 118))))).length + 118))))))) rfl ?_
  obtain ⟨h0, h1, k⟩ := k
  refine Ex.nad hq rfl h0 h1 ?_
  show Ex sc (d + 1) 0 25 [.ref (p0 + 118)] [.ref (((((((((((s.2.2.2.2 ++ [(Sum.inl (0, ((10 : Int32)).toNatClampNeg, .inl (fun _ => 0)) : PC)]).set p0 (.inr (0, f1.set 4 (.ref (s.2.2.2.2.length + 118))))) ++ [(Sum.inl (0, ((1650 : Int32)).toNatClampNeg, .inl (fun _ => 0)) : PC)]).set p0 (.inr (0, f2.set 5 (.ref (((s.2.2.2.2 ++ [(Sum.inl (0, ((10 : Int32)).toNatClampNeg, .inl (fun _ => 0)) : PC)]).set p0 (.inr (0, f1.set 4 (.ref (s.2.2.2.2.length + 118))))).length + 118))))) ++ [(Sum.inl (0, ((150 : Int32)).toNatClampNeg, .inl (fun _ => 0)) : PC)]).set p0 (.inr (0, f3.set 6 (.ref (((((s.2.2.2.2 ++ [(Sum.inl (0, ((10 : Int32)).toNatClampNeg, .inl (fun _ => 0)) : PC)]).set p0 (.inr (0, f1.set 4 (.ref (s.2.2.2.2.length + 118))))) ++ [(Sum.inl (0, ((1650 : Int32)).toNatClampNeg, .inl (fun _ => 0)) : PC)]).set p0 (.inr (0, f2.set 5 (.ref (((s.2.2.2.2 ++ [(Sum.inl (0, ((10 : Int32)).toNatClampNeg, .inl (fun _ => 0)) : PC)]).set p0 (.inr (0, f1.set 4 (.ref (s.2.2.2.2.length + 118))))).length + 118))))).length + 118))))) ++ [(Sum.inl (0, ((100 : Int32)).toNatClampNeg, .inl (fun _ => 0)) : PC)]).set p0 (.inr (0, f4.set 7 (.ref (((((((s.2.2.2.2 ++ [(Sum.inl (0, ((10 : Int32)).toNatClampNeg, .inl (fun _ => 0)) : PC)]).set p0 (.inr (0, f1.set 4 (.ref (s.2.2.2.2.length + 118))))) ++ [(Sum.inl (0, ((1650 : Int32)).toNatClampNeg, .inl (fun _ => 0)) : PC)]).set p0 (.inr (0, f2.set 5 (.ref (((s.2.2.2.2 ++ [(Sum.inl (0, ((10 : Int32)).toNatClampNeg, .inl (fun _ => 0)) : PC)]).set p0 (.inr (0, f1.set 4 (.ref (s.2.2.2.2.length + 118))))).length + 118))))) ++ [(Sum.inl (0, ((150 : Int32)).toNatClampNeg, .inl (fun _ => 0)) : PC)]).set p0 (.inr (0, f3.set 6 (.ref (((((s.2.2.2.2 ++ [(Sum.inl (0, ((10 : Int32)).toNatClampNeg, .inl (fun _ => 0)) : PC)]).set p0 (.inr (0, f1.set 4 (.ref (s.2.2.2.2.length + 118))))) ++ [(Sum.inl (0, ((1650 : Int32)).toNatClampNeg, .inl (fun _ => 0)) : PC)]).set p0 (.inr (0, f2.set 5 (.ref (((s.2.2.2.2 ++ [(Sum.inl (0, ((10 : Int32)).toNatClampNeg, .inl (fun _ => 0)) : PC)]).set p0 (.inr (0, f1.set 4 (.ref (s.2.2.2.2.length + 118))))).length + 118))))).length + 118))))).length + 118))))) ++ [(Sum.inl (0, ((100 : Int32)).toNatClampNeg, .inl (fun _ => 0)) : PC)]).set p0 (.inr (0, f5.set 8 (.ref (((((((((s.2.2.2.2 ++ [(Sum.inl (0, ((10 : Int32)).toNatClampNeg, .inl (fun _ => 0)) : PC)]).set p0 (.inr (0, f1.set 4 (.ref (s.2.2.2.2.length + 118))))) ++ [(Sum.inl (0, ((1650 : Int32)).toNatClampNeg, .inl (fun _ => 0)) : PC)]).set p0 (.inr (0, f2.set 5 (.ref (((s.2.2.2.2 ++ [(Sum.inl (0, ((10 : Int32)).toNatClampNeg, .inl (fun _ => 0)) : PC)]).set p0 (.inr (0, f1.set 4 (.ref (s.2.2.2.2.length + 118))))).length + 118))))) ++ [(Sum.inl (0, ((150 : Int32)).toNatClampNeg, .inl (fun _ => 0)) : PC)]).set p0 (.inr (0, f3.set 6 (.ref (((((s.2.2.2.2 ++ [(Sum.inl (0, ((10 : Int32)).toNatClampNeg, .inl (fun _ => 0)) : PC)]).set p0 (.inr (0, f1.set 4 (.ref (s.2.2.2.2.length + 118))))) ++ [(Sum.inl (0, ((1650 : Int32)).toNatClampNeg, .inl (fun _ => 0)) : PC)]).set p0 (.inr (0, f2.set 5 (.ref (((s.2.2.2.2 ++ [(Sum.inl (0, ((10 : Int32)).toNatClampNeg, .inl (fun _ => 0)) : PC)]).set p0 (.inr (0, f1.set 4 (.ref (s.2.2.2.2.length + 118))))).length + 118))))).length + 118))))) ++ [(Sum.inl (0, ((100 : Int32)).toNatClampNeg, .inl (fun _ => 0)) : PC)]).set p0 (.inr (0, f4.set 7 (.ref (((((((s.2.2.2.2 ++ [(Sum.inl (0, ((10 : Int32)).toNatClampNeg, .inl (fun _ => 0)) : PC)]).set p0 (.inr (0, f1.set 4 (.ref (s.2.2.2.2.length + 118))))) ++ [(Sum.inl (0, ((1650 : Int32)).toNatClampNeg, .inl (fun _ => 0)) : PC)]).set p0 (.inr (0, f2.set 5 (.ref (((s.2.2.2.2 ++ [(Sum.inl (0, ((10 : Int32)).toNatClampNeg, .inl (fun _ => 0)) : PC)]).set p0 (.inr (0, f1.set 4 (.ref (s.2.2.2.2.length + 118))))).length + 118))))) ++ [(Sum.inl (0, ((150 : Int32)).toNatClampNeg, .inl (fun _ => 0)) : PC)]).set p0 (.inr (0, f3.set 6 (.ref (((((s.2.2.2.2 ++ [(Sum.inl (0, ((10 : Int32)).toNatClampNeg, .inl (fun _ => 0)) : PC)]).set p0 (.inr (0, f1.set 4 (.ref (s.2.2.2.2.length + 118))))) ++ [(Sum.inl (0, ((1650 : Int32)).toNatClampNeg, .inl (fun _ => 0)) : PC)]).set p0 (.inr (0, f2.set 5 (.ref (((s.2.2.2.2 ++ [(Sum.inl (0, ((10 : Int32)).toNatClampNeg, .inl (fun _ => 0)) : PC)]).set p0 (.inr (0, f1.set 4 (.ref (s.2.2.2.2.length + 118))))).length + 118))))).length + 118))))).length + 118))))).length + 118))))).length + 118), .ref (p0 + 118)] (hpS (sD s (((((((((((s.2.2.2.2 ++ [(Sum.inl (0, ((10 : Int32)).toNatClampNeg, .inl (fun _ => 0)) : PC)]).set p0 (.inr (0, f1.set 4 (.ref (s.2.2.2.2.length + 118))))) ++ [(Sum.inl (0, ((1650 : Int32)).toNatClampNeg, .inl (fun _ => 0)) : PC)]).set p0 (.inr (0, f2.set 5 (.ref (((s.2.2.2.2 ++ [(Sum.inl (0, ((10 : Int32)).toNatClampNeg, .inl (fun _ => 0)) : PC)]).set p0 (.inr (0, f1.set 4 (.ref (s.2.2.2.2.length + 118))))).length + 118))))) ++ [(Sum.inl (0, ((150 : Int32)).toNatClampNeg, .inl (fun _ => 0)) : PC)]).set p0 (.inr (0, f3.set 6 (.ref (((((s.2.2.2.2 ++ [(Sum.inl (0, ((10 : Int32)).toNatClampNeg, .inl (fun _ => 0)) : PC)]).set p0 (.inr (0, f1.set 4 (.ref (s.2.2.2.2.length + 118))))) ++ [(Sum.inl (0, ((1650 : Int32)).toNatClampNeg, .inl (fun _ => 0)) : PC)]).set p0 (.inr (0, f2.set 5 (.ref (((s.2.2.2.2 ++ [(Sum.inl (0, ((10 : Int32)).toNatClampNeg, .inl (fun _ => 0)) : PC)]).set p0 (.inr (0, f1.set 4 (.ref (s.2.2.2.2.length + 118))))).length + 118))))).length + 118))))) ++ [(Sum.inl (0, ((100 : Int32)).toNatClampNeg, .inl (fun _ => 0)) : PC)]).set p0 (.inr (0, f4.set 7 (.ref (((((((s.2.2.2.2 ++ [(Sum.inl (0, ((10 : Int32)).toNatClampNeg, .inl (fun _ => 0)) : PC)]).set p0 (.inr (0, f1.set 4 (.ref (s.2.2.2.2.length + 118))))) ++ [(Sum.inl (0, ((1650 : Int32)).toNatClampNeg, .inl (fun _ => 0)) : PC)]).set p0 (.inr (0, f2.set 5 (.ref (((s.2.2.2.2 ++ [(Sum.inl (0, ((10 : Int32)).toNatClampNeg, .inl (fun _ => 0)) : PC)]).set p0 (.inr (0, f1.set 4 (.ref (s.2.2.2.2.length + 118))))).length + 118))))) ++ [(Sum.inl (0, ((150 : Int32)).toNatClampNeg, .inl (fun _ => 0)) : PC)]).set p0 (.inr (0, f3.set 6 (.ref (((((s.2.2.2.2 ++ [(Sum.inl (0, ((10 : Int32)).toNatClampNeg, .inl (fun _ => 0)) : PC)]).set p0 (.inr (0, f1.set 4 (.ref (s.2.2.2.2.length + 118))))) ++ [(Sum.inl (0, ((1650 : Int32)).toNatClampNeg, .inl (fun _ => 0)) : PC)]).set p0 (.inr (0, f2.set 5 (.ref (((s.2.2.2.2 ++ [(Sum.inl (0, ((10 : Int32)).toNatClampNeg, .inl (fun _ => 0)) : PC)]).set p0 (.inr (0, f1.set 4 (.ref (s.2.2.2.2.length + 118))))).length + 118))))).length + 118))))).length + 118))))) ++ [(Sum.inl (0, ((100 : Int32)).toNatClampNeg, .inl (fun _ => 0)) : PC)]).set p0 (.inr (0, f5.set 8 (.ref (((((((((s.2.2.2.2 ++ [(Sum.inl (0, ((10 : Int32)).toNatClampNeg, .inl (fun _ => 0)) : PC)]).set p0 (.inr (0, f1.set 4 (.ref (s.2.2.2.2.length + 118))))) ++ [(Sum.inl (0, ((1650 : Int32)).toNatClampNeg, .inl (fun _ => 0)) : PC)]).set p0 (.inr (0, f2.set 5 (.ref (((s.2.2.2.2 ++ [(Sum.inl (0, ((10 : Int32)).toNatClampNeg, .inl (fun _ => 0)) : PC)]).set p0 (.inr (0, f1.set 4 (.ref (s.2.2.2.2.length + 118))))).length + 118))))) ++ [(Sum.inl (0, ((150 : Int32)).toNatClampNeg, .inl (fun _ => 0)) : PC)]).set p0 (.inr (0, f3.set 6 (.ref (((((s.2.2.2.2 ++ [(Sum.inl (0, ((10 : Int32)).toNatClampNeg, .inl (fun _ => 0)) : PC)]).set p0 (.inr (0, f1.set 4 (.ref (s.2.2.2.2.length + 118))))) ++ [(Sum.inl (0, ((1650 : Int32)).toNatClampNeg, .inl (fun _ => 0)) : PC)]).set p0 (.inr (0, f2.set 5 (.ref (((s.2.2.2.2 ++ [(Sum.inl (0, ((10 : Int32)).toNatClampNeg, .inl (fun _ => 0)) : PC)]).set p0 (.inr (0, f1.set 4 (.ref (s.2.2.2.2.length + 118))))).length + 118))))).length + 118))))) ++ [(Sum.inl (0, ((100 : Int32)).toNatClampNeg, .inl (fun _ => 0)) : PC)]).set p0 (.inr (0, f4.set 7 (.ref (((((((s.2.2.2.2 ++ [(Sum.inl (0, ((10 : Int32)).toNatClampNeg, .inl (fun _ => 0)) : PC)]).set p0 (.inr (0, f1.set 4 (.ref (s.2.2.2.2.length + 118))))) ++ [(Sum.inl (0, ((1650 : Int32)).toNatClampNeg, .inl (fun _ => 0)) : PC)]).set p0 (.inr (0, f2.set 5 (.ref (((s.2.2.2.2 ++ [(Sum.inl (0, ((10 : Int32)).toNatClampNeg, .inl (fun _ => 0)) : PC)]).set p0 (.inr (0, f1.set 4 (.ref (s.2.2.2.2.length + 118))))).length + 118))))) ++ [(Sum.inl (0, ((150 : Int32)).toNatClampNeg, .inl (fun _ => 0)) : PC)]).set p0 (.inr (0, f3.set 6 (.ref (((((s.2.2.2.2 ++ [(Sum.inl (0, ((10 : Int32)).toNatClampNeg, .inl (fun _ => 0)) : PC)]).set p0 (.inr (0, f1.set 4 (.ref (s.2.2.2.2.length + 118))))) ++ [(Sum.inl (0, ((1650 : Int32)).toNatClampNeg, .inl (fun _ => 0)) : PC)]).set p0 (.inr (0, f2.set 5 (.ref (((s.2.2.2.2 ++ [(Sum.inl (0, ((10 : Int32)).toNatClampNeg, .inl (fun _ => 0)) : PC)]).set p0 (.inr (0, f1.set 4 (.ref (s.2.2.2.2.length + 118))))).length + 118))))).length + 118))))).length + 118))))).length + 118))))) ++ [(Sum.inl (0, ((100 : Int32)).toNatClampNeg, .inl (fun _ => 0)) : PC)]))) _
  obtain ⟨f6, e, hk, k⟩ := k
  refine Ex.pfd hq rfl e hk rfl ?_
  show Ex sc (d + 1) 0 26 [.ref (p0 + 118)] [] (hpS (sD s ((((((((((((s.2.2.2.2 ++ [(Sum.inl (0, ((10 : Int32)).toNatClampNeg, .inl (fun _ => 0)) : PC)]).set p0 (.inr (0, f1.set 4 (.ref (s.2.2.2.2.length + 118))))) ++ [(Sum.inl (0, ((1650 : Int32)).toNatClampNeg, .inl (fun _ => 0)) : PC)]).set p0 (.inr (0, f2.set 5 (.ref (((s.2.2.2.2 ++ [(Sum.inl (0, ((10 : Int32)).toNatClampNeg, .inl (fun _ => 0)) : PC)]).set p0 (.inr (0, f1.set 4 (.ref (s.2.2.2.2.length + 118))))).length + 118))))) ++ [(Sum.inl (0, ((150 : Int32)).toNatClampNeg, .inl (fun _ => 0)) : PC)]).set p0 (.inr (0, f3.set 6 (.ref (((((s.2.2.2.2 ++ [(Sum.inl (0, ((10 : Int32)).toNatClampNeg, .inl (fun _ => 0)) : PC)]).set p0 (.inr (0, f1.set 4 (.ref (s.2.2.2.2.length + 118))))) ++ [(Sum.inl (0, ((1650 : Int32)).toNatClampNeg, .inl (fun _ => 0)) : PC)]).set p0 (.inr (0, f2.set 5 (.ref (((s.2.2.2.2 ++ [(Sum.inl (0, ((10 : Int32)).toNatClampNeg, .inl (fun _ => 0)) : PC)]).set p0 (.inr (0, f1.set 4 (.ref (s.2.2.2.2.length + 118))))).length + 118))))).length + 118))))) ++ [(Sum.inl (0, ((100 : Int32)).toNatClampNeg, .inl (fun _ => 0)) : PC)]).set p0 (.inr (0, f4.set 7 (.ref (((((((s.2.2.2.2 ++ [(Sum.inl (0, ((10 : Int32)).toNatClampNeg, .inl (fun _ => 0)) : PC)]).set p0 (.inr (0, f1.set 4 (.ref (s.2.2.2.2.length + 118))))) ++ [(Sum.inl (0, ((1650 : Int32)).toNatClampNeg, .inl (fun _ => 0)) : PC)]).set p0 (.inr (0, f2.set 5 (.ref (((s.2.2.2.2 ++ [(Sum.inl (0, ((10 : Int32)).toNatClampNeg, .inl (fun _ => 0)) : PC)]).set p0 (.inr (0, f1.set 4 (.ref (s.2.2.2.2.length + 118))))).length + 118))))) ++ [(Sum.inl (0, ((150 : Int32)).toNatClampNeg, .inl (fun _ => 0)) : PC)]).set p0 (.inr (0, f3.set 6 (.ref (((((s.2.2.2.2 ++ [(Sum.inl (0, ((10 : Int32)).toNatClampNeg, .inl (fun _ => 0)) : PC)]).set p0 (.inr (0, f1.set 4 (.ref (s.2.2.2.2.length + 118))))) ++ [(Sum.inl (0, ((1650 : Int32)).toNatClampNeg, .inl (fun _ => 0)) : PC)]).set p0 (.inr (0, f2.set 5 (.ref (((s.2.2.2.2 ++ [(Sum.inl (0, ((10 : Int32)).toNatClampNeg, .inl (fun _ => 0)) : PC)]).set p0 (.inr (0, f1.set 4 (.ref (s.2.2.2.2.length + 118))))).length + 118))))).length + 118))))).length + 118))))) ++ [(Sum.inl (0, ((100 : Int32)).toNatClampNeg, .inl (fun _ => 0)) : PC)]).set p0 (.inr (0, f5.set 8 (.ref (((((((((s.2.2.2.2 ++ [(Sum.inl (0, ((10 : Int32)).toNatClampNeg, .inl (fun _ => 0)) : PC)]).set p0 (.inr (0, f1.set 4 (.ref (s.2.2.2.2.length + 118))))) ++ [(Sum.inl (0, ((1650 : Int32)).toNatClampNeg, .inl (fun _ => 0)) : PC)]).set p0 (.inr (0, f2.set 5 (.ref (((s.2.2.2.2 ++ [(Sum.inl (0, ((10 : Int32)).toNatClampNeg, .inl (fun _ => 0)) : PC)]).set p0 (.inr (0, f1.set 4 (.ref (s.2.2.2.2.length + 118))))).length + 118))))) ++ [(Sum.inl (0, ((150 : Int32)).toNatClampNeg, .inl (fun _ => 0)) : PC)]).set p0 (.inr (0, f3.set 6 (.ref (((((s.2.2.2.2 ++ [(Sum.inl (0, ((10 : Int32)).toNatClampNeg, .inl (fun _ => 0)) : PC)]).set p0 (.inr (0, f1.set 4 (.ref (s.2.2.2.2.length + 118))))) ++ [(Sum.inl (0, ((1650 : Int32)).toNatClampNeg, .inl (fun _ => 0)) : PC)]).set p0 (.inr (0, f2.set 5 (.ref (((s.2.2.2.2 ++ [(Sum.inl (0, ((10 : Int32)).toNatClampNeg, .inl (fun _ => 0)) : PC)]).set p0 (.inr (0, f1.set 4 (.ref (s.2.2.2.2.length + 118))))).length + 118))))).length + 118))))) ++ [(Sum.inl (0, ((100 : Int32)).toNatClampNeg, .inl (fun _ => 0)) : PC)]).set p0 (.inr (0, f4.set 7 (.ref (((((((s.2.2.2.2 ++ [(Sum.inl (0, ((10 : Int32)).toNatClampNeg, .inl (fun _ => 0)) : PC)]).set p0 (.inr (0, f1.set 4 (.ref (s.2.2.2.2.length + 118))))) ++ [(Sum.inl (0, ((1650 : Int32)).toNatClampNeg, .inl (fun _ => 0)) : PC)]).set p0 (.inr (0, f2.set 5 (.ref (((s.2.2.2.2 ++ [(Sum.inl (0, ((10 : Int32)).toNatClampNeg, .inl (fun _ => 0)) : PC)]).set p0 (.inr (0, f1.set 4 (.ref (s.2.2.2.2.length + 118))))).length + 118))))) ++ [(Sum.inl (0, ((150 : Int32)).toNatClampNeg, .inl (fun _ => 0)) : PC)]).set p0 (.inr (0, f3.set 6 (.ref (((((s.2.2.2.2 ++ [(Sum.inl (0, ((10 : Int32)).toNatClampNeg, .inl (fun _ => 0)) : PC)]).set p0 (.inr (0, f1.set 4 (.ref (s.2.2.2.2.length + 118))))) ++ [(Sum.inl (0, ((1650 : Int32)).toNatClampNeg, .inl (fun _ => 0)) : PC)]).set p0 (.inr (0, f2.set 5 (.ref (((s.2.2.2.2 ++ [(Sum.inl (0, ((10 : Int32)).toNatClampNeg, .inl (fun _ => 0)) : PC)]).set p0 (.inr (0, f1.set 4 (.ref (s.2.2.2.2.length + 118))))).length + 118))))).length + 118))))).length + 118))))).length + 118))))) ++ [(Sum.inl (0, ((100 : Int32)).toNatClampNeg, .inl (fun _ => 0)) : PC)]).set p0 (.inr (0, f6.set 9 (.ref (((((((((((s.2.2.2.2 ++ [(Sum.inl (0, ((10 : Int32)).toNatClampNeg, .inl (fun _ => 0)) : PC)]).set p0 (.inr (0, f1.set 4 (.ref (s.2.2.2.2.length + 118))))) ++ [(Sum.inl (0, ((1650 : Int32)).toNatClampNeg, .inl (fun _ => 0)) : PC)]).set p0 (.inr (0, f2.set 5 (.ref (((s.2.2.2.2 ++ [(Sum.inl (0, ((10 : Int32)).toNatClampNeg, .inl (fun _ => 0)) : PC)]).set p0 (.inr (0, f1.set 4 (.ref (s.2.2.2.2.length + 118))))).length + 118))))) ++ [(Sum.inl (0, ((150 : Int32)).toNatClampNeg, .inl (fun _ => 0)) : PC)]).set p0 (.inr (0, f3.set 6 (.ref (((((s.2.2.2.2 ++ [(Sum.inl (0, ((10 : Int32)).toNatClampNeg, .inl (fun _ => 0)) : PC)]).set p0 (.inr (0, f1.set 4 (.ref (s.2.2.2.2.length + 118))))) ++ [(Sum.inl (0, ((1650 : Int32)).toNatClampNeg, .inl (fun _ => 0)) : PC)]).set p0 (.inr (0, f2.set 5 (.ref (((s.2.2.2.2 ++ [(Sum.inl (0, ((10 : Int32)).toNatClampNeg, .inl (fun _ => 0)) : PC)]).set p0 (.inr (0, f1.set 4 (.ref (s.2.2.2.2.length + 118))))).length + 118))))).length + 118))))) ++ [(Sum.inl (0, ((100 : Int32)).toNatClampNeg, .inl (fun _ => 0)) : PC)]).set p0 (.inr (0, f4.set 7 (.ref (((((((s.2.2.2.2 ++ [(Sum.inl (0, ((10 : Int32)).toNatClampNeg, .inl (fun _ => 0)) : PC)]).set p0 (.inr (0, f1.set 4 (.ref (s.2.2.2.2.length + 118))))) ++ [(Sum.inl (0, ((1650 : Int32)).toNatClampNeg, .inl (fun _ => 0)) : PC)]).set p0 (.inr (0, f2.set 5 (.ref (((s.2.2.2.2 ++ [(Sum.inl (0, ((10 : Int32)).toNatClampNeg, .inl (fun _ => 0)) : PC)]).set p0 (.inr (0, f1.set 4 (.ref (s.2.2.2.2.length + 118))))).length + 118))))) ++ [(Sum.inl (0, ((150 : Int32)).toNatClampNeg, .inl (fun _ => 0)) : PC)]).set p0 (.inr (0, f3.set 6 (.ref (((((s.2.2.2.2 ++ [(Sum.inl (0, ((10 : Int32)).toNatClampNeg, .inl (fun _ => 0)) : PC)]).set p0 (.inr (0, f1.set 4 (.ref (s.2.2.2.2.length + 118))))) ++ [(Sum.inl (0, ((1650 : Int32)).toNatClampNeg, .inl (fun _ => 0)) : PC)]).set p0 (.inr (0, f2.set 5 (.ref (((s.2.2.2.2 ++ [(Sum.inl (0, ((10 : Int32)).toNatClampNeg, .inl (fun _ => 0)) : PC)]).set p0 (.inr (0, f1.set 4 (.ref (s.2.2.2.2.length + 118))))).length + 118))))).length + 118))))).length + 118))))) ++ [(Sum.inl (0, ((100 : Int32)).toNatClampNeg, .inl (fun _ => 0)) : PC)]).set p0 (.inr (0, f5.set 8 (.ref (((((((((s.2.2.2.2 ++ [(Sum.inl (0, ((10 : Int32)).toNatClampNeg, .inl (fun _ => 0)) : PC)]).set p0 (.inr (0, f1.set 4 (.ref (s.2.2.2.2.length + 118))))) ++ [(Sum.inl (0, ((1650 : Int32)).toNatClampNeg, .inl (fun _ => 0)) : PC)]).set p0 (.inr (0, f2.set 5 (.ref (((s.2.2.2.2 ++ [(Sum.inl (0, ((10 : Int32)).toNatClampNeg, .inl (fun _ => 0)) : PC)]).set p0 (.inr (0, f1.set 4 (.ref (s.2.2.2.2.length + 118))))).length + 118))))) ++ [(Sum.inl (0, ((150 : Int32)).toNatClampNeg, .inl (fun _ => 0)) : PC)]).set p0 (.inr (0, f3.set 6 (.ref (((((s.2.2.2.2 ++ [(Sum.inl (0, ((10 : Int32)).toNatClampNeg, .inl (fun _ => 0)) : PC)]).set p0 (.inr (0, f1.set 4 (.ref (s.2.2.2.2.length + 118))))) ++ [(Sum.inl (0, ((1650 : Int32)).toNatClampNeg, .inl (fun _ => 0)) : PC)]).set p0 (.inr (0, f2.set 5 (.ref (((s.2.2.2.2 ++ [(Sum.inl (0, ((10 : Int32)).toNatClampNeg, .inl (fun _ => 0)) : PC)]).set p0 (.inr (0, f1.set 4 (.ref (s.2.2.2.2.length + 118))))).length + 118))))).length + 118))))) ++ [(Sum.inl (0, ((100 : Int32)).toNatClampNeg, .inl (fun _ => 0)) : PC)]).set p0 (.inr (0, f4.set 7 (.ref (((((((s.2.2.2.2 ++ [(Sum.inl (0, ((10 : Int32)).toNatClampNeg, .inl (fun _ => 0)) : PC)]).set p0 (.inr (0, f1.set 4 (.ref (s.2.2.2.2.length + 118))))) ++ [(Sum.inl (0, ((1650 : Int32)).toNatClampNeg, .inl (fun _ => 0)) : PC)]).set p0 (.inr (0, f2.set 5 (.ref (((s.2.2.2.2 ++ [(Sum.inl (0, ((10 : Int32)).toNatClampNeg, .inl (fun _ => 0)) : PC)]).set p0 (.inr (0, f1.set 4 (.ref (s.2.2.2.2.length + 118))))).length + 118))))) ++ [(Sum.inl (0, ((150 : Int32)).toNatClampNeg, .inl (fun _ => 0)) : PC)]).set p0 (.inr (0, f3.set 6 (.ref (((((s.2.2.2.2 ++ [(Sum.inl (0, ((10 : Int32)).toNatClampNeg, .inl (fun _ => 0)) : PC)]).set p0 (.inr (0, f1.set 4 (.ref (s.2.2.2.2.length + 118))))) ++ [(Sum.inl (0, ((1650 : Int32)).toNatClampNeg, .inl (fun _ => 0)) : PC)]).set p0 (.inr (0, f2.set 5 (.ref (((s.2.2.2.2 ++ [(Sum.inl (0, ((10 : Int32)).toNatClampNeg, .inl (fun _ => 0)) : PC)]).set p0 (.inr (0, f1.set 4 (.ref (s.2.2.2.2.length + 118))))).length + 118))))).length + 118))))).length + 118))))).length + 118))))).length + 118))))))) _
  exact Ex.rt hq rfl rfl ⟨(sD s ((((((((((((s.2.2.2.2 ++ [(Sum.inl (0, ((10 : Int32)).toNatClampNeg, .inl (fun _ => 0)) : PC)]).set p0 (.inr (0, f1.set 4 (.ref (s.2.2.2.2.length + 118))))) ++ [(Sum.inl (0, ((1650 : Int32)).toNatClampNeg, .inl (fun _ => 0)) : PC)]).set p0 (.inr (0, f2.set 5 (.ref (((s.2.2.2.2 ++ [(Sum.inl (0, ((10 : Int32)).toNatClampNeg, .inl (fun _ => 0)) : PC)]).set p0 (.inr (0, f1.set 4 (.ref (s.2.2.2.2.length + 118))))).length + 118))))) ++ [(Sum.inl (0, ((150 : Int32)).toNatClampNeg, .inl (fun _ => 0)) : PC)]).set p0 (.inr (0, f3.set 6 (.ref (((((s.2.2.2.2 ++ [(Sum.inl (0, ((10 : Int32)).toNatClampNeg, .inl (fun _ => 0)) : PC)]).set p0 (.inr (0, f1.set 4 (.ref (s.2.2.2.2.length + 118))))) ++ [(Sum.inl (0, ((1650 : Int32)).toNatClampNeg, .inl (fun _ => 0)) : PC)]).set p0 (.inr (0, f2.set 5 (.ref (((s.2.2.2.2 ++ [(Sum.inl (0, ((10 : Int32)).toNatClampNeg, .inl (fun _ => 0)) : PC)]).set p0 (.inr (0, f1.set 4 (.ref (s.2.2.2.2.length + 118))))).length + 118))))).length + 118))))) ++ [(Sum.inl (0, ((100 : Int32)).toNatClampNeg, .inl (fun _ => 0)) : PC)]).set p0 (.inr (0, f4.set 7 (.ref (((((((s.2.2.2.2 ++ [(Sum.inl (0, ((10 : Int32)).toNatClampNeg, .inl (fun _ => 0)) : PC)]).set p0 (.inr (0, f1.set 4 (.ref (s.2.2.2.2.length + 118))))) ++ [(Sum.inl (0, ((1650 : Int32)).toNatClampNeg, .inl (fun _ => 0)) : PC)]).set p0 (.inr (0, f2.set 5 (.ref (((s.2.2.2.2 ++ [(Sum.inl (0, ((10 : Int32)).toNatClampNeg, .inl (fun _ => 0)) : PC)]).set p0 (.inr (0, f1.set 4 (.ref (s.2.2.2.2.length + 118))))).length + 118))))) ++ [(Sum.inl (0, ((150 : Int32)).toNatClampNeg, .inl (fun _ => 0)) : PC)]).set p0 (.inr (0, f3.set 6 (.ref (((((s.2.2.2.2 ++ [(Sum.inl (0, ((10 : Int32)).toNatClampNeg, .inl (fun _ => 0)) : PC)]).set p0 (.inr (0, f1.set 4 (.ref (s.2.2.2.2.length + 118))))) ++ [(Sum.inl (0, ((1650 : Int32)).toNatClampNeg, .inl (fun _ => 0)) : PC)]).set p0 (.inr (0, f2.set 5 (.ref (((s.2.2.2.2 ++ [(Sum.inl (0, ((10 : Int32)).toNatClampNeg, .inl (fun _ => 0)) : PC)]).set p0 (.inr (0, f1.set 4 (.ref (s.2.2.2.2.length + 118))))).length + 118))))).length + 118))))).length + 118))))) ++ [(Sum.inl (0, ((100 : Int32)).toNatClampNeg, .inl (fun _ => 0)) : PC)]).set p0 (.inr (0, f5.set 8 (.ref (((((((((s.2.2.2.2 ++ [(Sum.inl (0, ((10 : Int32)).toNatClampNeg, .inl (fun _ => 0)) : PC)]).set p0 (.inr (0, f1.set 4 (.ref (s.2.2.2.2.length + 118))))) ++ [(Sum.inl (0, ((1650 : Int32)).toNatClampNeg, .inl (fun _ => 0)) : PC)]).set p0 (.inr (0, f2.set 5 (.ref (((s.2.2.2.2 ++ [(Sum.inl (0, ((10 : Int32)).toNatClampNeg, .inl (fun _ => 0)) : PC)]).set p0 (.inr (0, f1.set 4 (.ref (s.2.2.2.2.length + 118))))).length + 118))))) ++ [(Sum.inl (0, ((150 : Int32)).toNatClampNeg, .inl (fun _ => 0)) : PC)]).set p0 (.inr (0, f3.set 6 (.ref (((((s.2.2.2.2 ++ [(Sum.inl (0, ((10 : Int32)).toNatClampNeg, .inl (fun _ => 0)) : PC)]).set p0 (.inr (0, f1.set 4 (.ref (s.2.2.2.2.length + 118))))) ++ [(Sum.inl (0, ((1650 : Int32)).toNatClampNeg, .inl (fun _ => 0)) : PC)]).set p0 (.inr (0, f2.set 5 (.ref (((s.2.2.2.2 ++ [(Sum.inl (0, ((10 : Int32)).toNatClampNeg, .inl (fun _ => 0)) : PC)]).set p0 (.inr (0, f1.set 4 (.ref (s.2.2.2.2.length + 118))))).length + 118))))).length + 118))))) ++ [(Sum.inl (0, ((100 : Int32)).toNatClampNeg, .inl (fun _ => 0)) : PC)]).set p0 (.inr (0, f4.set 7 (.ref (((((((s.2.2.2.2 ++ [(Sum.inl (0, ((10 : Int32)).toNatClampNeg, .inl (fun _ => 0)) : PC)]).set p0 (.inr (0, f1.set 4 (.ref (s.2.2.2.2.length + 118))))) ++ [(Sum.inl (0, ((1650 : Int32)).toNatClampNeg, .inl (fun _ => 0)) : PC)]).set p0 (.inr (0, f2.set 5 (.ref (((s.2.2.2.2 ++ [(Sum.inl (0, ((10 : Int32)).toNatClampNeg, .inl (fun _ => 0)) : PC)]).set p0 (.inr (0, f1.set 4 (.ref (s.2.2.2.2.length + 118))))).length + 118))))) ++ [(Sum.inl (0, ((150 : Int32)).toNatClampNeg, .inl (fun _ => 0)) : PC)]).set p0 (.inr (0, f3.set 6 (.ref (((((s.2.2.2.2 ++ [(Sum.inl (0, ((10 : Int32)).toNatClampNeg, .inl (fun _ => 0)) : PC)]).set p0 (.inr (0, f1.set 4 (.ref (s.2.2.2.2.length + 118))))) ++ [(Sum.inl (0, ((1650 : Int32)).toNatClampNeg, .inl (fun _ => 0)) : PC)]).set p0 (.inr (0, f2.set 5 (.ref (((s.2.2.2.2 ++ [(Sum.inl (0, ((10 : Int32)).toNatClampNeg, .inl (fun _ => 0)) : PC)]).set p0 (.inr (0, f1.set 4 (.ref (s.2.2.2.2.length + 118))))).length + 118))))).length + 118))))).length + 118))))).length + 118))))) ++ [(Sum.inl (0, ((100 : Int32)).toNatClampNeg, .inl (fun _ => 0)) : PC)]).set p0 (.inr (0, f6.set 9 (.ref (((((((((((s.2.2.2.2 ++ [(Sum.inl (0, ((10 : Int32)).toNatClampNeg, .inl (fun _ => 0)) : PC)]).set p0 (.inr (0, f1.set 4 (.ref (s.2.2.2.2.length + 118))))) ++ [(Sum.inl (0, ((1650 : Int32)).toNatClampNeg, .inl (fun _ => 0)) : PC)]).set p0 (.inr (0, f2.set 5 (.ref (((s.2.2.2.2 ++ [(Sum.inl (0, ((10 : Int32)).toNatClampNeg, .inl (fun _ => 0)) : PC)]).set p0 (.inr (0, f1.set 4 (.ref (s.2.2.2.2.length + 118))))).length + 118))))) ++ [(Sum.inl (0, ((150 : Int32)).toNatClampNeg, .inl (fun _ => 0)) : PC)]).set p0 (.inr (0, f3.set 6 (.ref (((((s.2.2.2.2 ++ [(Sum.inl (0, ((10 : Int32)).toNatClampNeg, .inl (fun _ => 0)) : PC)]).set p0 (.inr (0, f1.set 4 (.ref (s.2.2.2.2.length + 118))))) ++ [(Sum.inl (0, ((1650 : Int32)).toNatClampNeg, .inl (fun _ => 0)) : PC)]).set p0 (.inr (0, f2.set 5 (.ref (((s.2.2.2.2 ++ [(Sum.inl (0, ((10 : Int32)).toNatClampNeg, .inl (fun _ => 0)) : PC)]).set p0 (.inr (0, f1.set 4 (.ref (s.2.2.2.2.length + 118))))).length + 118))))).length + 118))))) ++ [(Sum.inl (0, ((100 : Int32)).toNatClampNeg, .inl (fun _ => 0)) : PC)]).set p0 (.inr (0, f4.set 7 (.ref (((((((s.2.2.2.2 ++ [(Sum.inl (0, ((10 : Int32)).toNatClampNeg, .inl (fun _ => 0)) : PC)]).set p0 (.inr (0, f1.set 4 (.ref (s.2.2.2.2.length + 118))))) ++ [(Sum.inl (0, ((1650 : Int32)).toNatClampNeg, .inl (fun _ => 0)) : PC)]).set p0 (.inr (0, f2.set 5 (.ref (((s.2.2.2.2 ++ [(Sum.inl (0, ((10 : Int32)).toNatClampNeg, .inl (fun _ => 0)) : PC)]).set p0 (.inr (0, f1.set 4 (.ref (s.2.2.2.2.length + 118))))).length + 118))))) ++ [(Sum.inl (0, ((150 : Int32)).toNatClampNeg, .inl (fun _ => 0)) : PC)]).set p0 (.inr (0, f3.set 6 (.ref (((((s.2.2.2.2 ++ [(Sum.inl (0, ((10 : Int32)).toNatClampNeg, .inl (fun _ => 0)) : PC)]).set p0 (.inr (0, f1.set 4 (.ref (s.2.2.2.2.length + 118))))) ++ [(Sum.inl (0, ((1650 : Int32)).toNatClampNeg, .inl (fun _ => 0)) : PC)]).set p0 (.inr (0, f2.set 5 (.ref (((s.2.2.2.2 ++ [(Sum.inl (0, ((10 : Int32)).toNatClampNeg, .inl (fun _ => 0)) : PC)]).set p0 (.inr (0, f1.set 4 (.ref (s.2.2.2.2.length + 118))))).length + 118))))).length + 118))))).length + 118))))) ++ [(Sum.inl (0, ((100 : Int32)).toNatClampNeg, .inl (fun _ => 0)) : PC)]).set p0 (.inr (0, f5.set 8 (.ref (((((((((s.2.2.2.2 ++ [(Sum.inl (0, ((10 : Int32)).toNatClampNeg, .inl (fun _ => 0)) : PC)]).set p0 (.inr (0, f1.set 4 (.ref (s.2.2.2.2.length + 118))))) ++ [(Sum.inl (0, ((1650 : Int32)).toNatClampNeg, .inl (fun _ => 0)) : PC)]).set p0 (.inr (0, f2.set 5 (.ref (((s.2.2.2.2 ++ [(Sum.inl (0, ((10 : Int32)).toNatClampNeg, .inl (fun _ => 0)) : PC)]).set p0 (.inr (0, f1.set 4 (.ref (s.2.2.2.2.length + 118))))).length + 118))))) ++ [(Sum.inl (0, ((150 : Int32)).toNatClampNeg, .inl (fun _ => 0)) : PC)]).set p0 (.inr (0, f3.set 6 (.ref (((((s.2.2.2.2 ++ [(Sum.inl (0, ((10 : Int32)).toNatClampNeg, .inl (fun _ => 0)) : PC)]).set p0 (.inr (0, f1.set 4 (.ref (s.2.2.2.2.length + 118))))) ++ [(Sum.inl (0, ((1650 : Int32)).toNatClampNeg, .inl (fun _ => 0)) : PC)]).set p0 (.inr (0, f2.set 5 (.ref (((s.2.2.2.2 ++ [(Sum.inl (0, ((10 : Int32)).toNatClampNeg, .inl (fun _ => 0)) : PC)]).set p0 (.inr (0, f1.set 4 (.ref (s.2.2.2.2.length + 118))))).length + 118))))).length + 118))))) ++ [(Sum.inl (0, ((100 : Int32)).toNatClampNeg, .inl (fun _ => 0)) : PC)]).set p0 (.inr (0, f4.set 7 (.ref (((((((s.2.2.2.2 ++ [(Sum.inl (0, ((10 : Int32)).toNatClampNeg, .inl (fun _ => 0)) : PC)]).set p0 (.inr (0, f1.set 4 (.ref (s.2.2.2.2.length + 118))))) ++ [(Sum.inl (0, ((1650 : Int32)).toNatClampNeg, .inl (fun _ => 0)) : PC)]).set p0 (.inr (0, f2.set 5 (.ref (((s.2.2.2.2 ++ [(Sum.inl (0, ((10 : Int32)).toNatClampNeg, .inl (fun _ => 0)) : PC)]).set p0 (.inr (0, f1.set 4 (.ref (s.2.2.2.2.length + 118))))).length + 118))))) ++ [(Sum.inl (0, ((150 : Int32)).toNatClampNeg, .inl (fun _ => 0)) : PC)]).set p0 (.inr (0, f3.set 6 (.ref (((((s.2.2.2.2 ++ [(Sum.inl (0, ((10 : Int32)).toNatClampNeg, .inl (fun _ => 0)) : PC)]).set p0 (.inr (0, f1.set 4 (.ref (s.2.2.2.2.length + 118))))) ++ [(Sum.inl (0, ((1650 : Int32)).toNatClampNeg, .inl (fun _ => 0)) : PC)]).set p0 (.inr (0, f2.set 5 (.ref (((s.2.2.2.2 ++ [(Sum.inl (0, ((10 : Int32)).toNatClampNeg, .inl (fun _ => 0)) : PC)]).set p0 (.inr (0, f1.set 4 (.ref (s.2.2.2.2.length + 118))))).length + 118))))).length + 118))))).length + 118))))).length + 118))))).length + 118)))))), rfl, rfl, k⟩
end WP
