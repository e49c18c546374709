/-! ===== weakest preconditions, printed by wip/whole/genwp.py ===== -/
section WP
variable {sc : Nat × (Nat → Int32)}
/-- java/util/ArrayList.grow()[Ljava/lang/Object; -/
def w_296_R20  (s : ST) (K : Nat → ST → Prop) : Prop := w_295_R20 ((s.1 2002) + (1 : Int32)) s (fun r2 s1 => K r2 s1)
theorem q_296_R20 {d : Nat} {K : Nat → ST → Prop}  (s : ST) (k : w_296_R20  s K) : Rn sc (d + 4) 296 [.ref 20] (hpS s) (kA K) := by
  have hq : prog[296]? = some pm296 := rfl
  refine Rn.of (L := [.ref 20]) hq rfl rfl ?_
  unfold w_296_R20 at k
  refine Ex.seg hq 5 (j := 5) (L' := [.ref 20]) (S' := [.int ((s.1 2002) + (1 : Int32)), .ref 20]) (h' := hpS s) rfl ?_
  refine Ex.cl hq rfl rfl ?_
  refine Rn.mono (q_295_R20 (d := d + 0) ((s.1 2002) + (1 : Int32)) s k) ?_
  rintro _ _ ⟨r2, s1, rfl, rfl, k⟩
  show Ex sc (d + 4) 296 6 [.ref 20] [.ref (r2 + 118)] (hpS s1) _
  exact Ex.rt hq rfl rfl ⟨r2, s1, rfl, rfl, k⟩
/-- java/util/ArrayList.add(Ljava/lang/Object;[Ljava/lang/Object;I)V -/
def w_300_R20_F1 (p1 : Nat) (p3 : Int32) (s : ST) (K : ST → Prop) : Prop := ((¬ p3 = (0 : Int32) → False) ∧ (¬ (¬ p3 = (0 : Int32)) → w_296_R20 s (fun r2 s1 => (∃ (n3 : Nat) (f4 : Nat → Option Nat) (o5 : Nat × List Value), prowR s1.2.2.2.2 r2 = some (n3, f4) ∧ pin p3 n3 = true ∧ s1.2.2.2.2[p1]? = some (.inr o5) ∧ K (sD (sI s1 2002 (p3 + (1 : Int32))) (s1.2.2.2.2.set r2 (.inl (4, n3, .inr (.inr (va_up f4 (p3).toNatClampNeg (some (p1 + 118))))))))))))
theorem q_300_R20_F1 {d : Nat} {K : ST → Prop} (p1 : Nat) (p3 : Int32) (s : ST) (k : w_300_R20_F1 p1 p3 s K) : Rn sc (d + 5) 300 [.ref 20, .ref (p1 + 118), .float 1, .int p3] (hpS s) (kV K) := by
  have hq : prog[300]? = some pm300 := rfl
  refine Rn.of (L := [.ref 20, .ref (p1 + 118), .float 1, .int p3]) hq rfl rfl ?_
  unfold w_300_R20_F1 at k
  refine Ex.seg hq 3 (j := 3) (L' := [.ref 20, .ref (p1 + 118), .float 1, .int p3]) (S' := [.int (0 : Int32), .int p3]) (h' := hpS s) rfl ?_
  refine Ex.i2 hq rfl (fun c => ?_) (fun c => ?_)
  · have k := k.1 c
    refine Ex.seg hq 3 (j := 10) (L' := [.ref 20, .ref (p1 + 118), .float 1, .int p3]) (S' := [.ref (p1 + 118), .int p3, .float 1]) (h' := hpS s) rfl ?_
    exact k.elim
  · have k := k.2 c
    refine Ex.seg hq 1 (j := 5) (L' := [.ref 20, .ref (p1 + 118), .float 1, .int p3]) (S' := [.ref 20]) (h' := hpS s) rfl ?_
    refine Ex.cl hq rfl rfl ?_
    refine Rn.mono (q_296_R20 (d := d + 0) s k) ?_
    rintro _ _ ⟨r2, s1, rfl, rfl, k⟩
    show Ex sc (d + 5) 300 6 [.ref 20, .ref (p1 + 118), .float 1, .int p3] [.ref (r2 + 118)] (hpS s1) _
    refine Ex.seg hq 4 (j := 10) (L' := [.ref 20, .ref (p1 + 118), .ref (r2 + 118), .int p3]) (S' := [.ref (p1 + 118), .int p3, .ref (r2 + 118)]) (h' := hpS s1) rfl ?_
    obtain ⟨n3, f4, o5, e, hin, hy, k⟩ := k
    refine Ex.asd hq rfl e hin hy ?_
    show Ex sc (d + 5) 300 11 [.ref 20, .ref (p1 + 118), .ref (r2 + 118), .int p3] [] (hpS (sD s1 (s1.2.2.2.2.set r2 (.inl (4, n3, .inr (.inr (va_up f4 (p3).toNatClampNeg (some (p1 + 118))))))))) _
    refine Ex.seg hq 5 (j := 16) (L' := [.ref 20, .ref (p1 + 118), .ref (r2 + 118), .int p3]) (S' := []) (h' := hpS (sD (sI s1 2002 (p3 + (1 : Int32))) (s1.2.2.2.2.set r2 (.inl (4, n3, .inr (.inr (va_up f4 (p3).toNatClampNeg (some (p1 + 118))))))))) rfl ?_
    exact Ex.rt hq rfl rfl ⟨(sD (sI s1 2002 (p3 + (1 : Int32))) (s1.2.2.2.2.set r2 (.inl (4, n3, .inr (.inr (va_up f4 (p3).toNatClampNeg (some (p1 + 118)))))))), rfl, rfl, k⟩
/-- java/util/ArrayList.add(Ljava/lang/Object;[Ljava/lang/Object;I)V -/
def w_300_R20 (p1 : Nat) (p2 : Nat) (p3 : Int32) (s : ST) (K : ST → Prop) : Prop := (∃ n1 f2, prowR s.2.2.2.2 p2 = some (n1, f2) ∧ ((¬ p3 = (Int32.ofNat n1) → (∃ (n3 : Nat) (f4 : Nat → Option Nat) (o5 : Nat × List Value), prowR s.2.2.2.2 p2 = some (n3, f4) ∧ pin p3 n3 = true ∧ s.2.2.2.2[p1]? = some (.inr o5) ∧ K (sD (sI s 2002 (p3 + (1 : Int32))) (s.2.2.2.2.set p2 (.inl (4, n3, .inr (.inr (va_up f4 (p3).toNatClampNeg (some (p1 + 118)))))))))) ∧ (¬ (¬ p3 = (Int32.ofNat n1)) → w_296_R20 s (fun r7 s6 => (∃ (n8 : Nat) (f9 : Nat → Option Nat) (o10 : Nat × List Value), prowR s6.2.2.2.2 r7 = some (n8, f9) ∧ pin p3 n8 = true ∧ s6.2.2.2.2[p1]? = some (.inr o10) ∧ K (sD (sI s6 2002 (p3 + (1 : Int32))) (s6.2.2.2.2.set r7 (.inl (4, n8, .inr (.inr (va_up f9 (p3).toNatClampNeg (some (p1 + 118)))))))))))))
theorem q_300_R20 {d : Nat} {K : ST → Prop} (p1 : Nat) (p2 : Nat) (p3 : Int32) (s : ST) (k : w_300_R20 p1 p2 p3 s K) : Rn sc (d + 5) 300 [.ref 20, .ref (p1 + 118), .ref (p2 + 118), .int p3] (hpS s) (kV K) := by
  have hq : prog[300]? = some pm300 := rfl
  refine Rn.of (L := [.ref 20, .ref (p1 + 118), .ref (p2 + 118), .int p3]) hq rfl rfl ?_
  unfold w_300_R20 at k
  refine Ex.seg hq 2 (j := 2) (L' := [.ref 20, .ref (p1 + 118), .ref (p2 + 118), .int p3]) (S' := [.ref (p2 + 118), .int p3]) (h' := hpS s) rfl ?_
  obtain ⟨n1, f2, e, k⟩ := k
  refine Ex.lnR hq rfl e ?_
  refine Ex.i2 hq rfl (fun c => ?_) (fun c => ?_)
  · have k := k.1 c
    refine Ex.seg hq 3 (j := 10) (L' := [.ref 20, .ref (p1 + 118), .ref (p2 + 118), .int p3]) (S' := [.ref (p1 + 118), .int p3, .ref (p2 + 118)]) (h' := hpS s) rfl ?_
    obtain ⟨n3, f4, o5, e, hin, hy, k⟩ := k
    refine Ex.asd hq rfl e hin hy ?_
    show Ex sc (d + 5) 300 11 [.ref 20, .ref (p1 + 118), .ref (p2 + 118), .int p3] [] (hpS (sD s (s.2.2.2.2.set p2 (.inl (4, n3, .inr (.inr (va_up f4 (p3).toNatClampNeg (some (p1 + 118))))))))) _
    refine Ex.seg hq 5 (j := 16) (L' := [.ref 20, .ref (p1 + 118), .ref (p2 + 118), .int p3]) (S' := []) (h' := hpS (sD (sI s 2002 (p3 + (1 : Int32))) (s.2.2.2.2.set p2 (.inl (4, n3, .inr (.inr (va_up f4 (p3).toNatClampNeg (some (p1 + 118))))))))) rfl ?_
    exact Ex.rt hq rfl rfl ⟨(sD (sI s 2002 (p3 + (1 : Int32))) (s.2.2.2.2.set p2 (.inl (4, n3, .inr (.inr (va_up f4 (p3).toNatClampNeg (some (p1 + 118)))))))), rfl, rfl, k⟩
  · have k := k.2 c
    refine Ex.seg hq 1 (j := 5) (L' := [.ref 20, .ref (p1 + 118), .ref (p2 + 118), .int p3]) (S' := [.ref 20]) (h' := hpS s) rfl ?_
    refine Ex.cl hq rfl rfl ?_
    refine Rn.mono (q_296_R20 (d := d + 0) s k) ?_
    rintro _ _ ⟨r7, s6, rfl, rfl, k⟩
    show Ex sc (d + 5) 300 6 [.ref 20, .ref (p1 + 118), .ref (p2 + 118), .int p3] [.ref (r7 + 118)] (hpS s6) _
    refine Ex.seg hq 4 (j := 10) (L' := [.ref 20, .ref (p1 + 118), .ref (r7 + 118), .int p3]) (S' := [.ref (p1 + 118), .int p3, .ref (r7 + 118)]) (h' := hpS s6) rfl ?_
    obtain ⟨n8, f9, o10, e, hin, hy, k⟩ := k
    refine Ex.asd hq rfl e hin hy ?_
    show Ex sc (d + 5) 300 11 [.ref 20, .ref (p1 + 118), .ref (r7 + 118), .int p3] [] (hpS (sD s6 (s6.2.2.2.2.set r7 (.inl (4, n8, .inr (.inr (va_up f9 (p3).toNatClampNeg (some (p1 + 118))))))))) _
    refine Ex.seg hq 5 (j := 16) (L' := [.ref 20, .ref (p1 + 118), .ref (r7 + 118), .int p3]) (S' := []) (h' := hpS (sD (sI s6 2002 (p3 + (1 : Int32))) (s6.2.2.2.2.set r7 (.inl (4, n8, .inr (.inr (va_up f9 (p3).toNatClampNeg (some (p1 + 118))))))))) rfl ?_
    exact Ex.rt hq rfl rfl ⟨(sD (sI s6 2002 (p3 + (1 : Int32))) (s6.2.2.2.2.set r7 (.inl (4, n8, .inr (.inr (va_up f9 (p3).toNatClampNeg (some (p1 + 118)))))))), rfl, rfl, k⟩
/-- java/util/ArrayList.add(Ljava/lang/Object;)Z -/
def w_301_R20 (p1 : Nat) (s : ST) (K : Int32 → ST → Prop) : Prop := (((s.2.2.2.1 20) = .float 1 ∧ w_300_R20_F1 p1 (s.1 2002) (sI s 2000 ((s.1 2000) + (1 : Int32))) (fun s2 => K (1 : Int32) s2)) ∨ (∃ b1, (s.2.2.2.1 20) = .ref (b1 + 118) ∧ w_300_R20 p1 b1 (s.1 2002) (sI s 2000 ((s.1 2000) + (1 : Int32))) (fun s4 => K (1 : Int32) s4)))
theorem q_301_R20 {d : Nat} {K : Int32 → ST → Prop} (p1 : Nat) (s : ST) (k : w_301_R20 p1 s K) : Rn sc (d + 6) 301 [.ref 20, .ref (p1 + 118)] (hpS s) (kZ K) := by
  have hq : prog[301]? = some pm301 := rfl
  refine Rn.of (L := [.ref 20, .ref (p1 + 118)]) hq rfl rfl ?_
  unfold w_301_R20 at k
  refine Ex.seg hq 9 (j := 9) (L' := [.ref 20, .ref (p1 + 118)]) (S' := [.ref 20, .ref (p1 + 118), .ref 20]) (h' := hpS (sI s 2000 ((s.1 2000) + (1 : Int32)))) rfl ?_
  refine Ex.seg hq 1 (j := 10) (L' := [.ref 20, .ref (p1 + 118)]) (S' := (s.2.2.2.1 20) :: [.ref (p1 + 118), .ref 20]) (h' := hpS (sI s 2000 ((s.1 2000) + (1 : Int32)))) rfl ?_
  rcases k with ⟨e, k⟩ | ⟨b1, e, k⟩
  · rw [e]
    refine Ex.seg hq 2 (j := 12) (L' := [.ref 20, .ref (p1 + 118)]) (S' := [.int (s.1 2002), .float 1, .ref (p1 + 118), .ref 20]) (h' := hpS (sI s 2000 ((s.1 2000) + (1 : Int32)))) rfl ?_
    refine Ex.cl hq rfl rfl ?_
    refine Rn.mono (q_300_R20_F1 (d := d + 0) p1 (s.1 2002) (sI s 2000 ((s.1 2000) + (1 : Int32))) k) ?_
    rintro _ _ ⟨s2, rfl, rfl, k⟩
    show Ex sc (d + 6) 301 13 [.ref 20, .ref (p1 + 118)] [] (hpS s2) _
    refine Ex.seg hq 1 (j := 14) (L' := [.ref 20, .ref (p1 + 118)]) (S' := [.int (1 : Int32)]) (h' := hpS s2) rfl ?_
    exact Ex.zr hq rfl rfl (Or.inr rfl) ⟨(1 : Int32), s2, rfl, (Or.inr rfl), rfl, k⟩
  · rw [e]
    refine Ex.seg hq 2 (j := 12) (L' := [.ref 20, .ref (p1 + 118)]) (S' := [.int (s.1 2002), .ref (b1 + 118), .ref (p1 + 118), .ref 20]) (h' := hpS (sI s 2000 ((s.1 2000) + (1 : Int32)))) rfl ?_
    refine Ex.cl hq rfl rfl ?_
    refine Rn.mono (q_300_R20 (d := d + 0) p1 b1 (s.1 2002) (sI s 2000 ((s.1 2000) + (1 : Int32))) k) ?_
    rintro _ _ ⟨s4, rfl, rfl, k⟩
    show Ex sc (d + 6) 301 13 [.ref 20, .ref (p1 + 118)] [] (hpS s4) _
    refine Ex.seg hq 1 (j := 14) (L' := [.ref 20, .ref (p1 + 118)]) (S' := [.int (1 : Int32)]) (h' := hpS s4) rfl ?_
    exact Ex.zr hq rfl rfl (Or.inr rfl) ⟨(1 : Int32), s4, rfl, (Or.inr rfl), rfl, k⟩
/-- RowAuditor.keep(LRowAuditor$Text;Ljava/util/ArrayList;)I -/
def w_138_R20 (p0 : Nat) (s : ST) (K : Int32 → ST → Prop) : Prop := w_301_R20 p0 s (fun r2 s1 => w_297_R20 s1 (fun r4 s3 => K (r4 - (1 : Int32)) s3))
theorem q_138_R20 {d : Nat} {K : Int32 → ST → Prop} (p0 : Nat) (s : ST) (k : w_138_R20 p0 s K) : Rn sc (d + 7) 138 [.ref (p0 + 118), .ref 20] (hpS s) (kI K) := by
  have hq : prog[138]? = some pm138 := rfl
  refine Rn.of (L := [.ref (p0 + 118), .ref 20]) hq rfl rfl ?_
  unfold w_138_R20 at k
  refine Ex.seg hq 2 (j := 2) (L' := [.ref (p0 + 118), .ref 20]) (S' := [.ref (p0 + 118), .ref 20]) (h' := hpS s) rfl ?_
  refine Ex.cl hq rfl rfl ?_
  refine Rn.mono (q_301_R20 (d := d + 0) p0 s k) ?_
  rintro _ _ ⟨r2, s1, rfl, hzr2, rfl, k⟩
  show Ex sc (d + 7) 138 3 [.ref (p0 + 118), .ref 20] [.int r2] (hpS s1) _
  refine Ex.seg hq 2 (j := 5) (L' := [.ref (p0 + 118), .ref 20]) (S' := [.ref 20]) (h' := hpS s1) rfl ?_
  refine Ex.cl hq rfl rfl ?_
  refine Rn.mono (q_297_R20 (d := d + 6) s1 k) ?_
  rintro _ _ ⟨r4, s3, rfl, rfl, k⟩
  show Ex sc (d + 7) 138 6 [.ref (p0 + 118), .ref 20] [.int r4] (hpS s3) _
  refine Ex.seg hq 2 (j := 8) (L' := [.ref (p0 + 118), .ref 20]) (S' := [.int (r4 - (1 : Int32))]) (h' := hpS s3) rfl ?_
  exact Ex.rt hq rfl rfl ⟨(r4 - (1 : Int32)), s3, rfl, rfl, k⟩
/-- RowAuditor.rule(III)I -/
def w_137 (p1 : Int32) (p2 : Int32) (p3 : Int32) (s : ST) (K : Int32 → ST → Prop) : Prop := w_182 p1 s (fun r2 s1 => ((r2 = 0 → K (-1 : Int32) s1) ∧ (¬ (r2 = 0) → w_182 p2 s1 (fun r4 s3 => ((r4 = 0 → K (-1 : Int32) s3) ∧ (¬ (r4 = 0) → ((p2 < p1 → K (-1 : Int32) s3) ∧ (¬ (p2 < p1) → w_136 p3 (160 : Int32) s3 (fun r6 s5 => ((r6 = 0 → K (-1 : Int32) s5) ∧ (¬ (r6 = 0) → w_297_R20 s5 (fun r8 s7 => ((r8 < (20 : Int32) → w_62 p3 p1 p2 (sI s7 7 (0 : Int32)) (fun r10 s9 => w_60 s9 (fun r12 s11 => ((r12 = 0 → w_138_R20 r10 s11 (fun r14 s13 => K r14 s13)) ∧ (¬ (r12 = 0) → w_61 s11 (fun r16 s15 => K r16 s15)))))) ∧ (¬ (r8 < (20 : Int32)) → K (-1 : Int32) s7))))))))))))))
theorem q_137 {d : Nat} {K : Int32 → ST → Prop} (p1 : Int32) (p2 : Int32) (p3 : Int32) (s : ST) (k : w_137 p1 p2 p3 s K) : Rn sc (d + 66) 137 [.ref 0, .int p1, .int p2, .int p3] (hpS s) (kI K) := by
  have hq : prog[137]? = some pm137 := rfl
  refine Rn.of (L := [.ref 0, .int p1, .int p2, .int p3, pu]) hq rfl rfl ?_
  unfold w_137 at k
  refine Ex.seg hq 1 (j := 1) (L' := [.ref 0, .int p1, .int p2, .int p3, pu]) (S' := [.int p1]) (h' := hpS s) rfl ?_
  refine Ex.cl hq rfl rfl ?_
  refine Rn.mono (q_182 (d := d + 64) p1 s k) ?_
  rintro _ _ ⟨r2, s1, rfl, hzr2, rfl, k⟩
  show Ex sc (d + 66) 137 2 [.ref 0, .int p1, .int p2, .int p3, pu] [.int r2] (hpS s1) _
  refine Ex.i1 hq rfl (fun c => ?_) (fun c => ?_)
  · have k := k.1 c
    refine Ex.seg hq 1 (j := 21) (L' := [.ref 0, .int p1, .int p2, .int p3, pu]) (S' := [.int (-1 : Int32)]) (h' := hpS s1) rfl ?_
    exact Ex.rt hq rfl rfl ⟨(-1 : Int32), s1, rfl, rfl, k⟩
  · have k := k.2 c
    refine Ex.seg hq 1 (j := 4) (L' := [.ref 0, .int p1, .int p2, .int p3, pu]) (S' := [.int p2]) (h' := hpS s1) rfl ?_
    refine Ex.cl hq rfl rfl ?_
    refine Rn.mono (q_182 (d := d + 64) p2 s1 k) ?_
    rintro _ _ ⟨r4, s3, rfl, hzr4, rfl, k⟩
    show Ex sc (d + 66) 137 5 [.ref 0, .int p1, .int p2, .int p3, pu] [.int r4] (hpS s3) _
    refine Ex.i1 hq rfl (fun c => ?_) (fun c => ?_)
    · have k := k.1 c
      refine Ex.seg hq 1 (j := 21) (L' := [.ref 0, .int p1, .int p2, .int p3, pu]) (S' := [.int (-1 : Int32)]) (h' := hpS s3) rfl ?_
      exact Ex.rt hq rfl rfl ⟨(-1 : Int32), s3, rfl, rfl, k⟩
    · have k := k.2 c
      refine Ex.seg hq 2 (j := 8) (L' := [.ref 0, .int p1, .int p2, .int p3, pu]) (S' := [.int p2, .int p1]) (h' := hpS s3) rfl ?_
      refine Ex.i2 hq rfl (fun c => ?_) (fun c => ?_)
      · have k := k.1 c
        refine Ex.seg hq 1 (j := 21) (L' := [.ref 0, .int p1, .int p2, .int p3, pu]) (S' := [.int (-1 : Int32)]) (h' := hpS s3) rfl ?_
        exact Ex.rt hq rfl rfl ⟨(-1 : Int32), s3, rfl, rfl, k⟩
      · have k := k.2 c
        refine Ex.seg hq 3 (j := 12) (L' := [.ref 0, .int p1, .int p2, .int p3, pu]) (S' := [.int (160 : Int32), .int p3, .ref 0]) (h' := hpS s3) rfl ?_
        refine Ex.cl hq rfl rfl ?_
        refine Rn.mono (q_136 (d := d + 64) p3 (160 : Int32) s3 k) ?_
        rintro _ _ ⟨r6, s5, rfl, hzr6, rfl, k⟩
        show Ex sc (d + 66) 137 13 [.ref 0, .int p1, .int p2, .int p3, pu] [.int r6] (hpS s5) _
        refine Ex.i1 hq rfl (fun c => ?_) (fun c => ?_)
        · have k := k.1 c
          refine Ex.seg hq 1 (j := 21) (L' := [.ref 0, .int p1, .int p2, .int p3, pu]) (S' := [.int (-1 : Int32)]) (h' := hpS s5) rfl ?_
          exact Ex.rt hq rfl rfl ⟨(-1 : Int32), s5, rfl, rfl, k⟩
        · have k := k.2 c
          refine Ex.seg hq 3 (j := 17) (L' := [.ref 0, .int p1, .int p2, .int p3, pu]) (S' := [.ref 20]) (h' := hpS s5) rfl ?_
          refine Ex.cl hq rfl rfl ?_
          refine Rn.mono (q_297_R20 (d := d + 65) s5 k) ?_
          rintro _ _ ⟨r8, s7, rfl, rfl, k⟩
          show Ex sc (d + 66) 137 18 [.ref 0, .int p1, .int p2, .int p3, pu] [.int r8] (hpS s7) _
          refine Ex.seg hq 1 (j := 19) (L' := [.ref 0, .int p1, .int p2, .int p3, pu]) (S' := [.int (20 : Int32), .int r8]) (h' := hpS s7) rfl ?_
          refine Ex.i2 hq rfl (fun c => ?_) (fun c => ?_)
          · have k := k.1 c
            refine Ex.seg hq 8 (j := 30) (L' := [.ref 0, .int p1, .int p2, .int p3, pu]) (S' := [.int p2, .int p1, .int p3, .ref 35]) (h' := hpS (sI s7 7 (0 : Int32))) rfl ?_
            refine Ex.cl hq rfl rfl ?_
            refine Rn.mono (q_62 (d := d + 0) p3 p1 p2 (sI s7 7 (0 : Int32)) k) ?_
            rintro _ _ ⟨r10, s9, rfl, rfl, k⟩
            show Ex sc (d + 66) 137 31 [.ref 0, .int p1, .int p2, .int p3, pu] [.ref (r10 + 118)] (hpS s9) _
            refine Ex.seg hq 3 (j := 34) (L' := [.ref 0, .int p1, .int p2, .int p3, .ref (r10 + 118)]) (S' := [.ref 35]) (h' := hpS s9) rfl ?_
            refine Ex.cl hq rfl rfl ?_
            refine Rn.mono (q_60 (d := d + 65) s9 k) ?_
            rintro _ _ ⟨r12, s11, rfl, hzr12, rfl, k⟩
            show Ex sc (d + 66) 137 35 [.ref 0, .int p1, .int p2, .int p3, .ref (r10 + 118)] [.int r12] (hpS s11) _
            refine Ex.i1 hq rfl (fun c => ?_) (fun c => ?_)
            · have k := k.1 c
              refine Ex.seg hq 4 (j := 44) (L' := [.ref 0, .int p1, .int p2, .int p3, .ref (r10 + 118)]) (S' := [.ref 20, .ref (r10 + 118)]) (h' := hpS s11) rfl ?_
              refine Ex.cl hq rfl rfl ?_
              refine Rn.mono (q_138_R20 (d := d + 58) r10 s11 k) ?_
              rintro _ _ ⟨r14, s13, rfl, rfl, k⟩
              show Ex sc (d + 66) 137 45 [.ref 0, .int p1, .int p2, .int p3, .ref (r10 + 118)] [.int r14] (hpS s13) _
              exact Ex.rt hq rfl rfl ⟨r14, s13, rfl, rfl, k⟩
            · have k := k.2 c
              refine Ex.seg hq 2 (j := 38) (L' := [.ref 0, .int p1, .int p2, .int p3, .ref (r10 + 118)]) (S' := [.ref 35]) (h' := hpS s11) rfl ?_
              refine Ex.cl hq rfl rfl ?_
              refine Rn.mono (q_61 (d := d + 65) s11 k) ?_
              rintro _ _ ⟨r16, s15, rfl, rfl, k⟩
              show Ex sc (d + 66) 137 39 [.ref 0, .int p1, .int p2, .int p3, .ref (r10 + 118)] [.int r16] (hpS s15) _
              refine Ex.seg hq 1 (j := 45) (L' := [.ref 0, .int p1, .int p2, .int p3, .ref (r10 + 118)]) (S' := [.int r16]) (h' := hpS s15) rfl ?_
              exact Ex.rt hq rfl rfl ⟨r16, s15, rfl, rfl, k⟩
          · have k := k.2 c
            refine Ex.seg hq 1 (j := 21) (L' := [.ref 0, .int p1, .int p2, .int p3, pu]) (S' := [.int (-1 : Int32)]) (h' := hpS s7) rfl ?_
            exact Ex.rt hq rfl rfl ⟨(-1 : Int32), s7, rfl, rfl, k⟩
/-- RowAuditor.keep(LRowAuditor$Text;Ljava/util/ArrayList;)I -/
def w_138 (p0 : Nat) (p1 : Nat) (s : ST) (K : Int32 → ST → Prop) : Prop := (∃ f3, pob s.2.2.2.2 p1 13 = some f3 ∧ w_301 p1 p0 s (fun r2 s1 => (∃ f6, pob s1.2.2.2.2 p1 13 = some f6 ∧ w_297 p1 s1 (fun r5 s4 => K (r5 - (1 : Int32)) s4))))
theorem q_138 {d : Nat} {K : Int32 → ST → Prop} (p0 : Nat) (p1 : Nat) (s : ST) (k : w_138 p0 p1 s K) : Rn sc (d + 7) 138 [.ref (p0 + 118), .ref (p1 + 118)] (hpS s) (kI K) := by
  have hq : prog[138]? = some pm138 := rfl
  refine Rn.of (L := [.ref (p0 + 118), .ref (p1 + 118)]) hq rfl rfl ?_
  unfold w_138 at k
  refine Ex.seg hq 2 (j := 2) (L' := [.ref (p0 + 118), .ref (p1 + 118)]) (S' := [.ref (p0 + 118), .ref (p1 + 118)]) (h' := hpS s) rfl ?_
  obtain ⟨f3, e, k⟩ := k
  refine Ex.cvd hq rfl rfl e rfl ?_
  refine Rn.mono (q_301 (d := d + 0) p1 p0 s k) ?_
  rintro _ _ ⟨r2, s1, rfl, hzr2, rfl, k⟩
  show Ex sc (d + 7) 138 3 [.ref (p0 + 118), .ref (p1 + 118)] [.int r2] (hpS s1) _
  refine Ex.seg hq 2 (j := 5) (L' := [.ref (p0 + 118), .ref (p1 + 118)]) (S' := [.ref (p1 + 118)]) (h' := hpS s1) rfl ?_
  obtain ⟨f6, e, k⟩ := k
  refine Ex.cvd hq rfl rfl e rfl ?_
  refine Rn.mono (q_297 (d := d + 6) p1 s1 k) ?_
  rintro _ _ ⟨r5, s4, rfl, rfl, k⟩
  show Ex sc (d + 7) 138 6 [.ref (p0 + 118), .ref (p1 + 118)] [.int r5] (hpS s4) _
  refine Ex.seg hq 2 (j := 8) (L' := [.ref (p0 + 118), .ref (p1 + 118)]) (S' := [.int (r5 - (1 : Int32))]) (h' := hpS s4) rfl ?_
  exact Ex.rt hq rfl rfl ⟨(r5 - (1 : Int32)), s4, rfl, rfl, k⟩
/-- RowAuditor.broken(II)I -/
def w_139 (p1 : Int32) (p2 : Int32) (s : ST) (K : Int32 → ST → Prop) : Prop := w_182 p2 s (fun r2 s1 => ((¬ r2 = 0 → w_111 p2 s1 (fun s3 => w_118 p1 s3 (fun r6 s5 => ((r6 = 0 → K (-1 : Int32) s5) ∧ (¬ (r6 = 0) → w_53 p1 s5 (fun r8 s7 => K r8 s7)))))) ∧ (¬ (¬ r2 = 0) → K (-1 : Int32) s1)))
theorem q_139 {d : Nat} {K : Int32 → ST → Prop} (p1 : Int32) (p2 : Int32) (s : ST) (k : w_139 p1 p2 s K) : Rn sc (d + 5) 139 [.ref 0, .int p1, .int p2] (hpS s) (kI K) := by
  have hq : prog[139]? = some pm139 := rfl
  refine Rn.of (L := [.ref 0, .int p1, .int p2]) hq rfl rfl ?_
  unfold w_139 at k
  refine Ex.seg hq 1 (j := 1) (L' := [.ref 0, .int p1, .int p2]) (S' := [.int p2]) (h' := hpS s) rfl ?_
  refine Ex.cl hq rfl rfl ?_
  refine Rn.mono (q_182 (d := d + 3) p2 s k) ?_
  rintro _ _ ⟨r2, s1, rfl, hzr2, rfl, k⟩
  show Ex sc (d + 5) 139 2 [.ref 0, .int p1, .int p2] [.int r2] (hpS s1) _
  refine Ex.i1 hq rfl (fun c => ?_) (fun c => ?_)
  · have k := k.1 c
    refine Ex.seg hq 3 (j := 8) (L' := [.ref 0, .int p1, .int p2]) (S' := [.int p2, .ref 8]) (h' := hpS s1) rfl ?_
    refine Ex.cl hq rfl rfl ?_
    refine Rn.mono (q_111 (d := d + 0) p2 s1 k) ?_
    rintro _ _ ⟨s3, rfl, rfl, k⟩
    show Ex sc (d + 5) 139 9 [.ref 0, .int p1, .int p2] [] (hpS s3) _
    refine Ex.seg hq 3 (j := 12) (L' := [.ref 0, .int p1, .int p2]) (S' := [.int p1, .ref 8]) (h' := hpS s3) rfl ?_
    refine Ex.cl hq rfl rfl ?_
    refine Rn.mono (q_118 (d := d + 4) p1 s3 k) ?_
    rintro _ _ ⟨r6, s5, rfl, hzr6, rfl, k⟩
    show Ex sc (d + 5) 139 13 [.ref 0, .int p1, .int p2] [.int r6] (hpS s5) _
    refine Ex.i1 hq rfl (fun c => ?_) (fun c => ?_)
    · have k := k.1 c
      refine Ex.seg hq 1 (j := 20) (L' := [.ref 0, .int p1, .int p2]) (S' := [.int (-1 : Int32)]) (h' := hpS s5) rfl ?_
      exact Ex.rt hq rfl rfl ⟨(-1 : Int32), s5, rfl, rfl, k⟩
    · have k := k.2 c
      refine Ex.seg hq 3 (j := 17) (L' := [.ref 0, .int p1, .int p2]) (S' := [.int p1, .ref 19]) (h' := hpS s5) rfl ?_
      refine Ex.cl hq rfl rfl ?_
      refine Rn.mono (q_53 (d := d + 0) p1 s5 k) ?_
      rintro _ _ ⟨r8, s7, rfl, rfl, k⟩
      show Ex sc (d + 5) 139 18 [.ref 0, .int p1, .int p2] [.int r8] (hpS s7) _
      refine Ex.seg hq 1 (j := 20) (L' := [.ref 0, .int p1, .int p2]) (S' := [.int r8]) (h' := hpS s7) rfl ?_
      exact Ex.rt hq rfl rfl ⟨r8, s7, rfl, rfl, k⟩
  · have k := k.2 c
    refine Ex.seg hq 1 (j := 4) (L' := [.ref 0, .int p1, .int p2]) (S' := [.int (-1 : Int32)]) (h' := hpS s1) rfl ?_
    exact Ex.rt hq rfl rfl ⟨(-1 : Int32), s1, rfl, rfl, k⟩
/-- RowAuditor.clear(II)Z -/
def w_140 (p1 : Int32) (p2 : Int32) (s : ST) (K : Int32 → ST → Prop) : Prop := w_2 p1 s (fun r2 s1 => ((r2 = 0 → K (0 : Int32) s1) ∧ (¬ (r2 = 0) → w_183 p2 s1 (fun r4 s3 => ((r4 = 0 → K (0 : Int32) s3) ∧ (¬ (r4 = 0) → w_9 p1 (10 : Int32) s3 (fun r6 s5 => ((r6 = (-1 : Int32) → w_10 p1 s5 (fun s7 => K (1 : Int32) s7)) ∧ (¬ (r6 = (-1 : Int32)) → K (0 : Int32) s5)))))))))
theorem q_140 {d : Nat} {K : Int32 → ST → Prop} (p1 : Int32) (p2 : Int32) (s : ST) (k : w_140 p1 p2 s K) : Rn sc (d + 2) 140 [.ref 0, .int p1, .int p2] (hpS s) (kZ K) := by
  have hq : prog[140]? = some pm140 := rfl
  refine Rn.of (L := [.ref 0, .int p1, .int p2]) hq rfl rfl ?_
  unfold w_140 at k
  refine Ex.seg hq 3 (j := 3) (L' := [.ref 0, .int p1, .int p2]) (S' := [.int p1, .ref 1]) (h' := hpS s) rfl ?_
  refine Ex.cl hq rfl rfl ?_
  refine Rn.mono (q_2 (d := d + 1) p1 s k) ?_
  rintro _ _ ⟨r2, s1, rfl, hzr2, rfl, k⟩
  show Ex sc (d + 2) 140 4 [.ref 0, .int p1, .int p2] [.int r2] (hpS s1) _
  refine Ex.i1 hq rfl (fun c => ?_) (fun c => ?_)
  · have k := k.1 c
    refine Ex.seg hq 1 (j := 16) (L' := [.ref 0, .int p1, .int p2]) (S' := [.int (0 : Int32)]) (h' := hpS s1) rfl ?_
    exact Ex.zr hq rfl rfl (Or.inl rfl) ⟨(0 : Int32), s1, rfl, (Or.inl rfl), rfl, k⟩
  · have k := k.2 c
    refine Ex.seg hq 1 (j := 6) (L' := [.ref 0, .int p1, .int p2]) (S' := [.int p2]) (h' := hpS s1) rfl ?_
    refine Ex.cl hq rfl rfl ?_
    refine Rn.mono (q_183 (d := d + 0) p2 s1 k) ?_
    rintro _ _ ⟨r4, s3, rfl, hzr4, rfl, k⟩
    show Ex sc (d + 2) 140 7 [.ref 0, .int p1, .int p2] [.int r4] (hpS s3) _
    refine Ex.i1 hq rfl (fun c => ?_) (fun c => ?_)
    · have k := k.1 c
      refine Ex.seg hq 1 (j := 16) (L' := [.ref 0, .int p1, .int p2]) (S' := [.int (0 : Int32)]) (h' := hpS s3) rfl ?_
      exact Ex.zr hq rfl rfl (Or.inl rfl) ⟨(0 : Int32), s3, rfl, (Or.inl rfl), rfl, k⟩
    · have k := k.2 c
      refine Ex.seg hq 4 (j := 12) (L' := [.ref 0, .int p1, .int p2]) (S' := [.int (10 : Int32), .int p1, .ref 1]) (h' := hpS s3) rfl ?_
      refine Ex.cl hq rfl rfl ?_
      refine Rn.mono (q_9 (d := d + 1) p1 (10 : Int32) s3 k) ?_
      rintro _ _ ⟨r6, s5, rfl, rfl, k⟩
      show Ex sc (d + 2) 140 13 [.ref 0, .int p1, .int p2] [.int r6] (hpS s5) _
      refine Ex.seg hq 1 (j := 14) (L' := [.ref 0, .int p1, .int p2]) (S' := [.int (-1 : Int32), .int r6]) (h' := hpS s5) rfl ?_
      refine Ex.i2 hq rfl (fun c => ?_) (fun c => ?_)
      · have k := k.1 c
        refine Ex.seg hq 3 (j := 20) (L' := [.ref 0, .int p1, .int p2]) (S' := [.int p1, .ref 1]) (h' := hpS s5) rfl ?_
        refine Ex.cl hq rfl rfl ?_
        refine Rn.mono (q_10 (d := d + 0) p1 s5 k) ?_
        rintro _ _ ⟨s7, rfl, rfl, k⟩
        show Ex sc (d + 2) 140 21 [.ref 0, .int p1, .int p2] [] (hpS s7) _
        refine Ex.seg hq 1 (j := 22) (L' := [.ref 0, .int p1, .int p2]) (S' := [.int (1 : Int32)]) (h' := hpS s7) rfl ?_
        exact Ex.zr hq rfl rfl (Or.inr rfl) ⟨(1 : Int32), s7, rfl, (Or.inr rfl), rfl, k⟩
      · have k := k.2 c
        refine Ex.seg hq 1 (j := 16) (L' := [.ref 0, .int p1, .int p2]) (S' := [.int (0 : Int32)]) (h' := hpS s5) rfl ?_
        exact Ex.zr hq rfl rfl (Or.inl rfl) ⟨(0 : Int32), s5, rfl, (Or.inl rfl), rfl, k⟩
/-- RowAuditor.findings(I)I -/
def w_141 (p1 : Int32) (s : ST) (K : Int32 → ST → Prop) : Prop := w_182 p1 s (fun r2 s1 => ((¬ r2 = 0 → w_111 p1 s1 (fun s3 => w_57 s3 (fun r6 s5 => K r6 s5))) ∧ (¬ (¬ r2 = 0) → K (-1 : Int32) s1)))
theorem q_141 {d : Nat} {K : Int32 → ST → Prop} (p1 : Int32) (s : ST) (k : w_141 p1 s K) : Rn sc (d + 7) 141 [.ref 0, .int p1] (hpS s) (kI K) := by
  have hq : prog[141]? = some pm141 := rfl
  refine Rn.of (L := [.ref 0, .int p1]) hq rfl rfl ?_
  unfold w_141 at k
  refine Ex.seg hq 1 (j := 1) (L' := [.ref 0, .int p1]) (S' := [.int p1]) (h' := hpS s) rfl ?_
  refine Ex.cl hq rfl rfl ?_
  refine Rn.mono (q_182 (d := d + 5) p1 s k) ?_
  rintro _ _ ⟨r2, s1, rfl, hzr2, rfl, k⟩
  show Ex sc (d + 7) 141 2 [.ref 0, .int p1] [.int r2] (hpS s1) _
  refine Ex.i1 hq rfl (fun c => ?_) (fun c => ?_)
  · have k := k.1 c
    refine Ex.seg hq 3 (j := 8) (L' := [.ref 0, .int p1]) (S' := [.int p1, .ref 8]) (h' := hpS s1) rfl ?_
    refine Ex.cl hq rfl rfl ?_
    refine Rn.mono (q_111 (d := d + 2) p1 s1 k) ?_
    rintro _ _ ⟨s3, rfl, rfl, k⟩
    show Ex sc (d + 7) 141 9 [.ref 0, .int p1] [] (hpS s3) _
    refine Ex.seg hq 2 (j := 11) (L' := [.ref 0, .int p1]) (S' := [.ref 19]) (h' := hpS s3) rfl ?_
    refine Ex.cl hq rfl rfl ?_
    refine Rn.mono (q_57 (d := d + 0) s3 k) ?_
    rintro _ _ ⟨r6, s5, rfl, rfl, k⟩
    show Ex sc (d + 7) 141 12 [.ref 0, .int p1] [.int r6] (hpS s5) _
    exact Ex.rt hq rfl rfl ⟨r6, s5, rfl, rfl, k⟩
  · have k := k.2 c
    refine Ex.seg hq 1 (j := 4) (L' := [.ref 0, .int p1]) (S' := [.int (-1 : Int32)]) (h' := hpS s1) rfl ?_
    exact Ex.rt hq rfl rfl ⟨(-1 : Int32), s1, rfl, rfl, k⟩
def w_142_L15 : Nat → Int32 → Int32 → Int32 → ST → (ST → Prop) → (Int32 → ST → Prop) → (Int32 → ST → Prop) → Prop
  | 0, _, _, _, _, _, _, _ => False
  | n + 1, x2, x3, x4, s, X38, X33, K => (((s.1 801) ≤ x4 → X38  s) ∧ (¬ ((s.1 801) ≤ x4) → w_123 x4 s (fun r6 s5 => w_56 r6 s5 (fun r8 s7 => ((r8 = 0 → w_142_L15 n x2 x3 (x4 + (1 : Int32)) s7 X38 X33 K) ∧ (¬ (r8 = 0) → ((¬ x3 = x2 → w_142_L15 n x2 (x3 + (1 : Int32)) (x4 + (1 : Int32)) s7 X38 X33 K) ∧ (¬ (¬ x3 = x2) → X33 r6 s7))))))))
theorem q_142_L15 {d : Nat} {X38 : ST → Prop} {X33 : Int32 → ST → Prop} {K : Int32 → ST → Prop} : ∀ (n : Nat) (x2 : Int32) (x3 : Int32) (x4 : Int32) (s : ST), w_142_L15 n x2 x3 x4 s X38 X33 K → (∀ (s : ST), X38  s → Ex sc (d + 6) 142 38 [pu, pu, pu, pu, pu, pu] [] (hpS s) (kI K)) → (∀ (y5 : Int32) (s : ST), X33 y5 s → Ex sc (d + 6) 142 33 [pu, pu, pu, pu, pu, .int y5] [] (hpS s) (kI K)) → Ex sc (d + 6) 142 15 [.ref 0, pu, .int x2, .int x3, .int x4, pu] [] (hpS s) (kI K) := by
  have hq : prog[142]? = some pm142 := rfl
  intro n
  induction n with
  | zero =>
    intro x2 x3 x4 s k
    exact k.elim
  | succ n ih =>
    intro x2 x3 x4 s k hX38 hX33
    rw [w_142_L15] at k
    refine Ex.seg hq 4 (j := 19) (L' := [.ref 0, pu, .int x2, .int x3, .int x4, pu]) (S' := [.int (s.1 801), .int x4]) (h' := hpS s) rfl ?_
    refine Ex.i2 hq rfl (fun c => ?_) (fun c => ?_)
    · have k := k.1 c
      refine Ex.fg (L := [pu, pu, pu, pu, pu, pu]) ⟨Or.inr ⟨rfl, rfl⟩, ⟨Or.inl rfl, ⟨Or.inr ⟨rfl, rfl⟩, ⟨Or.inr ⟨rfl, rfl⟩, ⟨Or.inr ⟨rfl, rfl⟩, ⟨Or.inl rfl, trivial⟩⟩⟩⟩⟩⟩ ?_
      exact hX38  s k
    · have k := k.2 c
      refine Ex.seg hq 3 (j := 23) (L' := [.ref 0, pu, .int x2, .int x3, .int x4, pu]) (S' := [.int x4, .ref 8]) (h' := hpS s) rfl ?_
      refine Ex.cl hq rfl rfl ?_
      refine Rn.mono (q_123 (d := d + 5) x4 s k) ?_
      rintro _ _ ⟨r6, s5, rfl, rfl, k⟩
      show Ex sc (d + 6) 142 24 [.ref 0, pu, .int x2, .int x3, .int x4, pu] [.int r6] (hpS s5) _
      refine Ex.seg hq 4 (j := 28) (L' := [.ref 0, pu, .int x2, .int x3, .int x4, .int r6]) (S' := [.int r6, .ref 19]) (h' := hpS s5) rfl ?_
      refine Ex.cl hq rfl rfl ?_
      refine Rn.mono (q_56 (d := d + 0) r6 s5 k) ?_
      rintro _ _ ⟨r8, s7, rfl, hzr8, rfl, k⟩
      show Ex sc (d + 6) 142 29 [.ref 0, pu, .int x2, .int x3, .int x4, .int r6] [.int r8] (hpS s7) _
      refine Ex.i1 hq rfl (fun c => ?_) (fun c => ?_)
      · have k := k.1 c
        refine Ex.seg hq 2 (j := 15) (L' := [.ref 0, pu, .int x2, .int x3, .int (x4 + (1 : Int32)), .int r6]) (S' := []) (h' := hpS s7) rfl ?_
        refine Ex.fg (L := [.ref 0, pu, .int x2, .int x3, .int (x4 + (1 : Int32)), pu]) ⟨Or.inl rfl, ⟨Or.inl rfl, ⟨Or.inl rfl, ⟨Or.inl rfl, ⟨Or.inl rfl, ⟨Or.inr ⟨rfl, rfl⟩, trivial⟩⟩⟩⟩⟩⟩ ?_
        exact ih x2 x3 (x4 + (1 : Int32)) s7 k hX38 hX33
      · have k := k.2 c
        refine Ex.seg hq 2 (j := 32) (L' := [.ref 0, pu, .int x2, .int x3, .int x4, .int r6]) (S' := [.int x2, .int x3]) (h' := hpS s7) rfl ?_
        refine Ex.i2 hq rfl (fun c => ?_) (fun c => ?_)
        · have k := k.1 c
          refine Ex.seg hq 3 (j := 15) (L' := [.ref 0, pu, .int x2, .int (x3 + (1 : Int32)), .int (x4 + (1 : Int32)), .int r6]) (S' := []) (h' := hpS s7) rfl ?_
          refine Ex.fg (L := [.ref 0, pu, .int x2, .int (x3 + (1 : Int32)), .int (x4 + (1 : Int32)), pu]) ⟨Or.inl rfl, ⟨Or.inl rfl, ⟨Or.inl rfl, ⟨Or.inl rfl, ⟨Or.inl rfl, ⟨Or.inr ⟨rfl, rfl⟩, trivial⟩⟩⟩⟩⟩⟩ ?_
          exact ih x2 (x3 + (1 : Int32)) (x4 + (1 : Int32)) s7 k hX38 hX33
        · have k := k.2 c
          refine Ex.fg (L := [pu, pu, pu, pu, pu, .int r6]) ⟨Or.inr ⟨rfl, rfl⟩, ⟨Or.inl rfl, ⟨Or.inr ⟨rfl, rfl⟩, ⟨Or.inr ⟨rfl, rfl⟩, ⟨Or.inr ⟨rfl, rfl⟩, ⟨Or.inl rfl, trivial⟩⟩⟩⟩⟩⟩ ?_
          exact hX33 r6 s7 k
/-- RowAuditor.finding(II)I -/
def w_142 (p1 : Int32) (p2 : Int32) (s : ST) (K : Int32 → ST → Prop) : Prop := w_182 p1 s (fun r2 s1 => ((r2 = 0 → K (-1 : Int32) s1) ∧ (¬ (r2 = 0) → ((0 ≤ p2 → w_111 p1 s1 (fun s3 => (∃ m, w_142_L15 m p2 (0 : Int32) (0 : Int32) s3 (fun s9 => K (-1 : Int32) s9) (fun y5 s10 => K y5 s10) K))) ∧ (¬ (0 ≤ p2) → K (-1 : Int32) s1)))))
theorem q_142 {d : Nat} {K : Int32 → ST → Prop} (p1 : Int32) (p2 : Int32) (s : ST) (k : w_142 p1 p2 s K) : Rn sc (d + 6) 142 [.ref 0, .int p1, .int p2] (hpS s) (kI K) := by
  have hq : prog[142]? = some pm142 := rfl
  refine Rn.of (L := [.ref 0, .int p1, .int p2, pu, pu, pu]) hq rfl rfl ?_
  unfold w_142 at k
  refine Ex.seg hq 1 (j := 1) (L' := [.ref 0, .int p1, .int p2, pu, pu, pu]) (S' := [.int p1]) (h' := hpS s) rfl ?_
  refine Ex.cl hq rfl rfl ?_
  refine Rn.mono (q_182 (d := d + 4) p1 s k) ?_
  rintro _ _ ⟨r2, s1, rfl, hzr2, rfl, k⟩
  show Ex sc (d + 6) 142 2 [.ref 0, .int p1, .int p2, pu, pu, pu] [.int r2] (hpS s1) _
  refine Ex.i1 hq rfl (fun c => ?_) (fun c => ?_)
  · have k := k.1 c
    refine Ex.seg hq 1 (j := 6) (L' := [.ref 0, .int p1, .int p2, pu, pu, pu]) (S' := [.int (-1 : Int32)]) (h' := hpS s1) rfl ?_
    exact Ex.rt hq rfl rfl ⟨(-1 : Int32), s1, rfl, rfl, k⟩
  · have k := k.2 c
    refine Ex.seg hq 1 (j := 4) (L' := [.ref 0, .int p1, .int p2, pu, pu, pu]) (S' := [.int p2]) (h' := hpS s1) rfl ?_
    refine Ex.i1 hq rfl (fun c => ?_) (fun c => ?_)
    · have k := k.1 c
      refine Ex.seg hq 3 (j := 10) (L' := [.ref 0, .int p1, .int p2, pu, pu, pu]) (S' := [.int p1, .ref 8]) (h' := hpS s1) rfl ?_
      refine Ex.cl hq rfl rfl ?_
      refine Rn.mono (q_111 (d := d + 1) p1 s1 k) ?_
      rintro _ _ ⟨s3, rfl, rfl, k⟩
      show Ex sc (d + 6) 142 11 [.ref 0, .int p1, .int p2, pu, pu, pu] [] (hpS s3) _
      refine Ex.seg hq 4 (j := 15) (L' := [.ref 0, .int p1, .int p2, .int (0 : Int32), .int (0 : Int32), pu]) (S' := []) (h' := hpS s3) rfl ?_
      obtain ⟨m, k⟩ := k
      refine Ex.fg (L := [.ref 0, pu, .int p2, .int (0 : Int32), .int (0 : Int32), pu]) ⟨Or.inl rfl, ⟨Or.inr ⟨rfl, rfl⟩, ⟨Or.inl rfl, ⟨Or.inl rfl, ⟨Or.inl rfl, ⟨Or.inl rfl, trivial⟩⟩⟩⟩⟩⟩ ?_
      refine q_142_L15 (d := d) m p2 (0 : Int32) (0 : Int32) s3 k ?_ ?_
      · intro s9 k
        refine Ex.seg hq 1 (j := 39) (L' := [pu, pu, pu, pu, pu, pu]) (S' := [.int (-1 : Int32)]) (h' := hpS s9) rfl ?_
        exact Ex.rt hq rfl rfl ⟨(-1 : Int32), s9, rfl, rfl, k⟩
      · intro y5 s10 k
        refine Ex.seg hq 1 (j := 34) (L' := [pu, pu, pu, pu, pu, .int y5]) (S' := [.int y5]) (h' := hpS s10) rfl ?_
        exact Ex.rt hq rfl rfl ⟨y5, s10, rfl, rfl, k⟩
    · have k := k.2 c
      refine Ex.seg hq 1 (j := 6) (L' := [.ref 0, .int p1, .int p2, pu, pu, pu]) (S' := [.int (-1 : Int32)]) (h' := hpS s1) rfl ?_
      exact Ex.rt hq rfl rfl ⟨(-1 : Int32), s1, rfl, rfl, k⟩
def w_144_L2 : Nat → Int32 → Int32 → ST → (ST → Prop) → (ST → Prop) → (Int32 → ST → Prop) → Prop
  | 0, _, _, _, _, _, _ => False
  | n + 1, x1, x2, s, X21, X17, K => ((x1 ≤ x2 → X21  s) ∧ (¬ (x1 ≤ x2) → (((200 : Int32) ≤ x1 → X21  s) ∧ (¬ ((200 : Int32) ≤ x1) → (pin x2 200 = true ∧ (pin x1 200 = true ∧ ((¬ ((s.2.1 27) (x2).toNatClampNeg) = ((s.2.1 27) (x1).toNatClampNeg) → w_144_L2 n x1 (x2 + (1 : Int32)) s X21 X17 K) ∧ (¬ (¬ ((s.2.1 27) (x2).toNatClampNeg) = ((s.2.1 27) (x1).toNatClampNeg)) → X17  s))))))))
theorem q_144_L2 {d : Nat} {X21 : ST → Prop} {X17 : ST → Prop} {K : Int32 → ST → Prop} : ∀ (n : Nat) (x1 : Int32) (x2 : Int32) (s : ST), w_144_L2 n x1 x2 s X21 X17 K → (∀ (s : ST), X21  s → Ex sc (d + 0) 144 21 [pu, pu, pu] [] (hpS s) (kZ K)) → (∀ (s : ST), X17  s → Ex sc (d + 0) 144 17 [pu, pu, pu] [] (hpS s) (kZ K)) → Ex sc (d + 0) 144 2 [.ref 0, .int x1, .int x2] [] (hpS s) (kZ K) := by
  have hq : prog[144]? = some pm144 := rfl
  intro n
  induction n with
  | zero =>
    intro x1 x2 s k
    exact k.elim
  | succ n ih =>
    intro x1 x2 s k hX21 hX17
    rw [w_144_L2] at k
    refine Ex.seg hq 2 (j := 4) (L' := [.ref 0, .int x1, .int x2]) (S' := [.int x1, .int x2]) (h' := hpS s) rfl ?_
    refine Ex.i2 hq rfl (fun c => ?_) (fun c => ?_)
    · have k := k.1 c
      refine Ex.fg (L := [pu, pu, pu]) ⟨Or.inr ⟨rfl, rfl⟩, ⟨Or.inr ⟨rfl, rfl⟩, ⟨Or.inr ⟨rfl, rfl⟩, trivial⟩⟩⟩ ?_
      exact hX21  s k
    · have k := k.2 c
      refine Ex.seg hq 2 (j := 7) (L' := [.ref 0, .int x1, .int x2]) (S' := [.int (200 : Int32), .int x1]) (h' := hpS s) rfl ?_
      refine Ex.i2 hq rfl (fun c => ?_) (fun c => ?_)
      · have k := k.1 c
        refine Ex.fg (L := [pu, pu, pu]) ⟨Or.inr ⟨rfl, rfl⟩, ⟨Or.inr ⟨rfl, rfl⟩, ⟨Or.inr ⟨rfl, rfl⟩, trivial⟩⟩⟩ ?_
        exact hX21  s k
      · have k := k.2 c
        refine Ex.seg hq 3 (j := 11) (L' := [.ref 0, .int x1, .int x2]) (S' := [.int x2, .ref 27]) (h' := hpS s) rfl ?_
        obtain ⟨hin, k⟩ := k
        refine Ex.ial hq rfl rfl hin ?_
        refine Ex.seg hq 3 (j := 15) (L' := [.ref 0, .int x1, .int x2]) (S' := [.int x1, .ref 27, .int ((s.2.1 27) (x2).toNatClampNeg)]) (h' := hpS s) rfl ?_
        obtain ⟨hin, k⟩ := k
        refine Ex.ial hq rfl rfl hin ?_
        refine Ex.i2 hq rfl (fun c => ?_) (fun c => ?_)
        · have k := k.1 c
          refine Ex.seg hq 2 (j := 2) (L' := [.ref 0, .int x1, .int (x2 + (1 : Int32))]) (S' := []) (h' := hpS s) rfl ?_
          exact ih x1 (x2 + (1 : Int32)) s k hX21 hX17
        · have k := k.2 c
          refine Ex.fg (L := [pu, pu, pu]) ⟨Or.inr ⟨rfl, rfl⟩, ⟨Or.inr ⟨rfl, rfl⟩, ⟨Or.inr ⟨rfl, rfl⟩, trivial⟩⟩⟩ ?_
          exact hX17  s k
/-- RowAuditor.isTapedBefore(I)Z -/
def w_144 (p1 : Int32) (s : ST) (K : Int32 → ST → Prop) : Prop := (∃ m, w_144_L2 m p1 (0 : Int32) s (fun s1 => K (0 : Int32) s1) (fun s2 => K (1 : Int32) s2) K)
theorem q_144 {d : Nat} {K : Int32 → ST → Prop} (p1 : Int32) (s : ST) (k : w_144 p1 s K) : Rn sc (d + 0) 144 [.ref 0, .int p1] (hpS s) (kZ K) := by
  have hq : prog[144]? = some pm144 := rfl
  refine Rn.of (L := [.ref 0, .int p1, pu]) hq rfl rfl ?_
  unfold w_144 at k
  refine Ex.seg hq 2 (j := 2) (L' := [.ref 0, .int p1, .int (0 : Int32)]) (S' := []) (h' := hpS s) rfl ?_
  obtain ⟨m, k⟩ := k
  refine q_144_L2 (d := d) m p1 (0 : Int32) s k ?_ ?_
  · intro s1 k
    refine Ex.seg hq 1 (j := 22) (L' := [pu, pu, pu]) (S' := [.int (0 : Int32)]) (h' := hpS s1) rfl ?_
    exact Ex.zr hq rfl rfl (Or.inl rfl) ⟨(0 : Int32), s1, rfl, (Or.inl rfl), rfl, k⟩
  · intro s2 k
    refine Ex.seg hq 1 (j := 18) (L' := [pu, pu, pu]) (S' := [.int (1 : Int32)]) (h' := hpS s2) rfl ?_
    exact Ex.zr hq rfl rfl (Or.inr rfl) ⟨(1 : Int32), s2, rfl, (Or.inr rfl), rfl, k⟩
def w_146_L4 : Nat → Int32 → Int32 → Int32 → Int32 → ST → (Int32 → ST → Prop) → (Int32 → ST → Prop) → Prop
  | 0, _, _, _, _, _, _, _ => False
  | n + 1, x1, x2, x3, x4, s, X26, K => ((x2 ≤ x4 → X26 x3 s) ∧ (¬ (x2 ≤ x4) → (((200 : Int32) ≤ x4 → X26 x3 s) ∧ (¬ ((200 : Int32) ≤ x4) → w_184 x4 x1 s (fun r2 s1 => ((r2 = 0 → w_146_L4 n x1 x2 x3 (x4 + (1 : Int32)) s1 X26 K) ∧ (¬ (r2 = 0) → (pin x4 200 = true ∧ w_119 ((s1.2.1 27) (x4).toNatClampNeg) s1 (fun r4 s3 => w_146_L4 n x1 x2 (x3 + r4) (x4 + (1 : Int32)) s3 X26 K)))))))))
theorem q_146_L4 {d : Nat} {X26 : Int32 → ST → Prop} {K : Int32 → ST → Prop} : ∀ (n : Nat) (x1 : Int32) (x2 : Int32) (x3 : Int32) (x4 : Int32) (s : ST), w_146_L4 n x1 x2 x3 x4 s X26 K → (∀ (y3 : Int32) (s : ST), X26 y3 s → Ex sc (d + 1) 146 26 [pu, pu, pu, .int y3, pu] [] (hpS s) (kI K)) → Ex sc (d + 1) 146 4 [.ref 0, .int x1, .int x2, .int x3, .int x4] [] (hpS s) (kI K) := by
  have hq : prog[146]? = some pm146 := rfl
  intro n
  induction n with
  | zero =>
    intro x1 x2 x3 x4 s k
    exact k.elim
  | succ n ih =>
    intro x1 x2 x3 x4 s k hX26
    rw [w_146_L4] at k
    refine Ex.seg hq 2 (j := 6) (L' := [.ref 0, .int x1, .int x2, .int x3, .int x4]) (S' := [.int x2, .int x4]) (h' := hpS s) rfl ?_
    refine Ex.i2 hq rfl (fun c => ?_) (fun c => ?_)
    · have k := k.1 c
      refine Ex.fg (L := [pu, pu, pu, .int x3, pu]) ⟨Or.inr ⟨rfl, rfl⟩, ⟨Or.inr ⟨rfl, rfl⟩, ⟨Or.inr ⟨rfl, rfl⟩, ⟨Or.inl rfl, ⟨Or.inr ⟨rfl, rfl⟩, trivial⟩⟩⟩⟩⟩ ?_
      exact hX26 x3 s k
    · have k := k.2 c
      refine Ex.seg hq 2 (j := 9) (L' := [.ref 0, .int x1, .int x2, .int x3, .int x4]) (S' := [.int (200 : Int32), .int x4]) (h' := hpS s) rfl ?_
      refine Ex.i2 hq rfl (fun c => ?_) (fun c => ?_)
      · have k := k.1 c
        refine Ex.fg (L := [pu, pu, pu, .int x3, pu]) ⟨Or.inr ⟨rfl, rfl⟩, ⟨Or.inr ⟨rfl, rfl⟩, ⟨Or.inr ⟨rfl, rfl⟩, ⟨Or.inl rfl, ⟨Or.inr ⟨rfl, rfl⟩, trivial⟩⟩⟩⟩⟩ ?_
        exact hX26 x3 s k
      · have k := k.2 c
        refine Ex.seg hq 2 (j := 12) (L' := [.ref 0, .int x1, .int x2, .int x3, .int x4]) (S' := [.int x1, .int x4]) (h' := hpS s) rfl ?_
        refine Ex.cl hq rfl rfl ?_
        refine Rn.mono (q_184 (d := d + 0) x4 x1 s k) ?_
        rintro _ _ ⟨r2, s1, rfl, hzr2, rfl, k⟩
        show Ex sc (d + 1) 146 13 [.ref 0, .int x1, .int x2, .int x3, .int x4] [.int r2] (hpS s1) _
        refine Ex.i1 hq rfl (fun c => ?_) (fun c => ?_)
        · have k := k.1 c
          refine Ex.seg hq 2 (j := 4) (L' := [.ref 0, .int x1, .int x2, .int x3, .int (x4 + (1 : Int32))]) (S' := []) (h' := hpS s1) rfl ?_
          exact ih x1 x2 x3 (x4 + (1 : Int32)) s1 k hX26
        · have k := k.2 c
          refine Ex.seg hq 6 (j := 20) (L' := [.ref 0, .int x1, .int x2, .int x3, .int x4]) (S' := [.int x4, .ref 27, .ref 8, .int x3]) (h' := hpS s1) rfl ?_
          obtain ⟨hin, k⟩ := k
          refine Ex.ial hq rfl rfl hin ?_
          refine Ex.cl hq rfl rfl ?_
          refine Rn.mono (q_119 (d := d + 0) ((s1.2.1 27) (x4).toNatClampNeg) s1 k) ?_
          rintro _ _ ⟨r4, s3, rfl, rfl, k⟩
          show Ex sc (d + 1) 146 22 [.ref 0, .int x1, .int x2, .int x3, .int x4] [.int r4, .int x3] (hpS s3) _
          refine Ex.seg hq 4 (j := 4) (L' := [.ref 0, .int x1, .int x2, .int (x3 + r4), .int (x4 + (1 : Int32))]) (S' := []) (h' := hpS s3) rfl ?_
          exact ih x1 x2 (x3 + r4) (x4 + (1 : Int32)) s3 k hX26
/-- RowAuditor.tapedSum(II)I -/
def w_146 (p1 : Int32) (p2 : Int32) (s : ST) (K : Int32 → ST → Prop) : Prop := (∃ m, w_146_L4 m p1 p2 (0 : Int32) (0 : Int32) s (fun y3 s5 => K y3 s5) K)
theorem q_146 {d : Nat} {K : Int32 → ST → Prop} (p1 : Int32) (p2 : Int32) (s : ST) (k : w_146 p1 p2 s K) : Rn sc (d + 1) 146 [.ref 0, .int p1, .int p2] (hpS s) (kI K) := by
  have hq : prog[146]? = some pm146 := rfl
  refine Rn.of (L := [.ref 0, .int p1, .int p2, pu, pu]) hq rfl rfl ?_
  unfold w_146 at k
  refine Ex.seg hq 4 (j := 4) (L' := [.ref 0, .int p1, .int p2, .int (0 : Int32), .int (0 : Int32)]) (S' := []) (h' := hpS s) rfl ?_
  obtain ⟨m, k⟩ := k
  refine q_146_L4 (d := d) m p1 p2 (0 : Int32) (0 : Int32) s k ?_
  · intro y3 s5 k
    refine Ex.seg hq 1 (j := 27) (L' := [pu, pu, pu, .int y3, pu]) (S' := [.int y3]) (h' := hpS s5) rfl ?_
    exact Ex.rt hq rfl rfl ⟨y3, s5, rfl, rfl, k⟩
def w_145_L8 : Nat → Int32 → Int32 → Int32 → Int32 → Int32 → ST → (Int32 → ST → Prop) → (Int32 → ST → Prop) → Prop
  | 0, _, _, _, _, _, _, _, _ => False
  | n + 1, x1, x2, x3, x4, x5, s, X30, K => ((((1 : Int32) <<< (x2 &&& 31)) ≤ x5 → X30 x3 s) ∧ (¬ (((1 : Int32) <<< (x2 &&& 31)) ≤ x5) → w_283 x5 s (fun r2 s1 => ((x4 ≤ r2 → w_145_L8 n x1 x2 x3 x4 (x5 + (1 : Int32)) s1 X30 K) ∧ (¬ (x4 ≤ r2) → w_146 x5 x2 s1 (fun r4 s3 => ((¬ r4 = x1 → w_145_L8 n x1 x2 x3 x4 (x5 + (1 : Int32)) s3 X30 K) ∧ (¬ (¬ r4 = x1) → w_283 x5 s3 (fun r6 s5 => w_145_L8 n x1 x2 x5 r6 (x5 + (1 : Int32)) s5 X30 K)))))))))
theorem q_145_L8 {d : Nat} {X30 : Int32 → ST → Prop} {K : Int32 → ST → Prop} : ∀ (n : Nat) (x1 : Int32) (x2 : Int32) (x3 : Int32) (x4 : Int32) (x5 : Int32) (s : ST), w_145_L8 n x1 x2 x3 x4 x5 s X30 K → (∀ (y3 : Int32) (s : ST), X30 y3 s → Ex sc (d + 2) 145 30 [pu, pu, pu, .int y3, pu, pu] [] (hpS s) (kI K)) → Ex sc (d + 2) 145 8 [.ref 0, .int x1, .int x2, .int x3, .int x4, .int x5] [] (hpS s) (kI K) := by
  have hq : prog[145]? = some pm145 := rfl
  intro n
  induction n with
  | zero =>
    intro x1 x2 x3 x4 x5 s k
    exact k.elim
  | succ n ih =>
    intro x1 x2 x3 x4 x5 s k hX30
    rw [w_145_L8] at k
    refine Ex.seg hq 4 (j := 12) (L' := [.ref 0, .int x1, .int x2, .int x3, .int x4, .int x5]) (S' := [.int ((1 : Int32) <<< (x2 &&& 31)), .int x5]) (h' := hpS s) rfl ?_
    refine Ex.i2 hq rfl (fun c => ?_) (fun c => ?_)
    · have k := k.1 c
      refine Ex.fg (L := [pu, pu, pu, .int x3, pu, pu]) ⟨Or.inr ⟨rfl, rfl⟩, ⟨Or.inr ⟨rfl, rfl⟩, ⟨Or.inr ⟨rfl, rfl⟩, ⟨Or.inl rfl, ⟨Or.inr ⟨rfl, rfl⟩, ⟨Or.inr ⟨rfl, rfl⟩, trivial⟩⟩⟩⟩⟩⟩ ?_
      exact hX30 x3 s k
    · have k := k.2 c
      refine Ex.seg hq 1 (j := 14) (L' := [.ref 0, .int x1, .int x2, .int x3, .int x4, .int x5]) (S' := [.int x5]) (h' := hpS s) rfl ?_
      refine Ex.cl hq rfl rfl ?_
      refine Rn.mono (q_283 (d := d + 1) x5 s k) ?_
      rintro _ _ ⟨r2, s1, rfl, rfl, k⟩
      show Ex sc (d + 2) 145 15 [.ref 0, .int x1, .int x2, .int x3, .int x4, .int x5] [.int r2] (hpS s1) _
      refine Ex.seg hq 1 (j := 16) (L' := [.ref 0, .int x1, .int x2, .int x3, .int x4, .int x5]) (S' := [.int x4, .int r2]) (h' := hpS s1) rfl ?_
      refine Ex.i2 hq rfl (fun c => ?_) (fun c => ?_)
      · have k := k.1 c
        refine Ex.seg hq 2 (j := 8) (L' := [.ref 0, .int x1, .int x2, .int x3, .int x4, .int (x5 + (1 : Int32))]) (S' := []) (h' := hpS s1) rfl ?_
        exact ih x1 x2 x3 x4 (x5 + (1 : Int32)) s1 k hX30
      · have k := k.2 c
        refine Ex.seg hq 3 (j := 20) (L' := [.ref 0, .int x1, .int x2, .int x3, .int x4, .int x5]) (S' := [.int x2, .int x5, .ref 0]) (h' := hpS s1) rfl ?_
        refine Ex.cl hq rfl rfl ?_
        refine Rn.mono (q_146 (d := d + 0) x5 x2 s1 k) ?_
        rintro _ _ ⟨r4, s3, rfl, rfl, k⟩
        show Ex sc (d + 2) 145 21 [.ref 0, .int x1, .int x2, .int x3, .int x4, .int x5] [.int r4] (hpS s3) _
        refine Ex.seg hq 1 (j := 22) (L' := [.ref 0, .int x1, .int x2, .int x3, .int x4, .int x5]) (S' := [.int x1, .int r4]) (h' := hpS s3) rfl ?_
        refine Ex.i2 hq rfl (fun c => ?_) (fun c => ?_)
        · have k := k.1 c
          refine Ex.seg hq 2 (j := 8) (L' := [.ref 0, .int x1, .int x2, .int x3, .int x4, .int (x5 + (1 : Int32))]) (S' := []) (h' := hpS s3) rfl ?_
          exact ih x1 x2 x3 x4 (x5 + (1 : Int32)) s3 k hX30
        · have k := k.2 c
          refine Ex.seg hq 3 (j := 26) (L' := [.ref 0, .int x1, .int x2, .int x5, .int x4, .int x5]) (S' := [.int x5]) (h' := hpS s3) rfl ?_
          refine Ex.cl hq rfl rfl ?_
          refine Rn.mono (q_283 (d := d + 1) x5 s3 k) ?_
          rintro _ _ ⟨r6, s5, rfl, rfl, k⟩
          show Ex sc (d + 2) 145 27 [.ref 0, .int x1, .int x2, .int x5, .int x4, .int x5] [.int r6] (hpS s5) _
          refine Ex.seg hq 3 (j := 8) (L' := [.ref 0, .int x1, .int x2, .int x5, .int r6, .int (x5 + (1 : Int32))]) (S' := []) (h' := hpS s5) rfl ?_
          exact ih x1 x2 x5 r6 (x5 + (1 : Int32)) s5 k hX30
/-- RowAuditor.fewestThatMake(II)I -/
def w_145 (p1 : Int32) (p2 : Int32) (s : ST) (K : Int32 → ST → Prop) : Prop := (∃ m, w_145_L8 m p1 p2 (-2 : Int32) (p2 + (1 : Int32)) (0 : Int32) s (fun y3 s7 => K y3 s7) K)
theorem q_145 {d : Nat} {K : Int32 → ST → Prop} (p1 : Int32) (p2 : Int32) (s : ST) (k : w_145 p1 p2 s K) : Rn sc (d + 2) 145 [.ref 0, .int p1, .int p2] (hpS s) (kI K) := by
  have hq : prog[145]? = some pm145 := rfl
  refine Rn.of (L := [.ref 0, .int p1, .int p2, pu, pu, pu]) hq rfl rfl ?_
  unfold w_145 at k
  refine Ex.seg hq 8 (j := 8) (L' := [.ref 0, .int p1, .int p2, .int (-2 : Int32), .int (p2 + (1 : Int32)), .int (0 : Int32)]) (S' := []) (h' := hpS s) rfl ?_
  obtain ⟨m, k⟩ := k
  refine q_145_L8 (d := d) m p1 p2 (-2 : Int32) (p2 + (1 : Int32)) (0 : Int32) s k ?_
  · intro y3 s7 k
    refine Ex.seg hq 1 (j := 31) (L' := [pu, pu, pu, .int y3, pu, pu]) (S' := [.int y3]) (h' := hpS s7) rfl ?_
    exact Ex.rt hq rfl rfl ⟨y3, s7, rfl, rfl, k⟩
def w_143_L25 : Nat → Int32 → Int32 → Int32 → Int32 → ST → (Int32 → Int32 → Int32 → ST → Prop) → (ST → Prop) → (Int32 → ST → Prop) → Prop
  | 0, _, _, _, _, _, _, _, _ => False
  | n + 1, x1, x2, x3, x4, s, X57, X43, K => ((x2 ≤ x4 → X57 x1 x2 x3 s) ∧ (¬ (x2 ≤ x4) → (((200 : Int32) ≤ x4 → X57 x1 x2 x3 s) ∧ (¬ ((200 : Int32) ≤ x4) → (pin x4 200 = true ∧ w_118 ((s.2.1 27) (x4).toNatClampNeg) s (fun r8 s7 => ((r8 = 0 → X43  s7) ∧ (¬ (r8 = 0) → w_144 x4 s7 (fun r10 s9 => ((r10 = 0 → (pin x4 200 = true ∧ w_119 ((s9.2.1 27) (x4).toNatClampNeg) s9 (fun r12 s11 => w_143_L25 n x1 x2 (x3 + r12) (x4 + (1 : Int32)) s11 X57 X43 K))) ∧ (¬ (r10 = 0) → X43  s9)))))))))))
theorem q_143_L25 {d : Nat} {X57 : Int32 → Int32 → Int32 → ST → Prop} {X43 : ST → Prop} {K : Int32 → ST → Prop} : ∀ (n : Nat) (x1 : Int32) (x2 : Int32) (x3 : Int32) (x4 : Int32) (s : ST), w_143_L25 n x1 x2 x3 x4 s X57 X43 K → (∀ (y1 : Int32) (y2 : Int32) (y3 : Int32) (s : ST), X57 y1 y2 y3 s → Ex sc (d + 5) 143 57 [.ref 0, .int y1, .int y2, .int y3, pu] [] (hpS s) (kI K)) → (∀ (s : ST), X43  s → Ex sc (d + 5) 143 43 [pu, pu, pu, pu, pu] [] (hpS s) (kI K)) → Ex sc (d + 5) 143 25 [.ref 0, .int x1, .int x2, .int x3, .int x4] [] (hpS s) (kI K) := by
  have hq : prog[143]? = some pm143 := rfl
  intro n
  induction n with
  | zero =>
    intro x1 x2 x3 x4 s k
    exact k.elim
  | succ n ih =>
    intro x1 x2 x3 x4 s k hX57 hX43
    rw [w_143_L25] at k
    refine Ex.seg hq 2 (j := 27) (L' := [.ref 0, .int x1, .int x2, .int x3, .int x4]) (S' := [.int x2, .int x4]) (h' := hpS s) rfl ?_
    refine Ex.i2 hq rfl (fun c => ?_) (fun c => ?_)
    · have k := k.1 c
      refine Ex.fg (L := [.ref 0, .int x1, .int x2, .int x3, pu]) ⟨Or.inl rfl, ⟨Or.inl rfl, ⟨Or.inl rfl, ⟨Or.inl rfl, ⟨Or.inr ⟨rfl, rfl⟩, trivial⟩⟩⟩⟩⟩ ?_
      exact hX57 x1 x2 x3 s k
    · have k := k.2 c
      refine Ex.seg hq 2 (j := 30) (L' := [.ref 0, .int x1, .int x2, .int x3, .int x4]) (S' := [.int (200 : Int32), .int x4]) (h' := hpS s) rfl ?_
      refine Ex.i2 hq rfl (fun c => ?_) (fun c => ?_)
      · have k := k.1 c
        refine Ex.fg (L := [.ref 0, .int x1, .int x2, .int x3, pu]) ⟨Or.inl rfl, ⟨Or.inl rfl, ⟨Or.inl rfl, ⟨Or.inl rfl, ⟨Or.inr ⟨rfl, rfl⟩, trivial⟩⟩⟩⟩⟩ ?_
        exact hX57 x1 x2 x3 s k
      · have k := k.2 c
        refine Ex.seg hq 5 (j := 36) (L' := [.ref 0, .int x1, .int x2, .int x3, .int x4]) (S' := [.int x4, .ref 27, .ref 8]) (h' := hpS s) rfl ?_
        obtain ⟨hin, k⟩ := k
        refine Ex.ial hq rfl rfl hin ?_
        refine Ex.cl hq rfl rfl ?_
        refine Rn.mono (q_118 (d := d + 4) ((s.2.1 27) (x4).toNatClampNeg) s k) ?_
        rintro _ _ ⟨r8, s7, rfl, hzr8, rfl, k⟩
        show Ex sc (d + 5) 143 38 [.ref 0, .int x1, .int x2, .int x3, .int x4] [.int r8] (hpS s7) _
        refine Ex.i1 hq rfl (fun c => ?_) (fun c => ?_)
        · have k := k.1 c
          refine Ex.fg (L := [pu, pu, pu, pu, pu]) ⟨Or.inr ⟨rfl, rfl⟩, ⟨Or.inr ⟨rfl, rfl⟩, ⟨Or.inr ⟨rfl, rfl⟩, ⟨Or.inr ⟨rfl, rfl⟩, ⟨Or.inr ⟨rfl, rfl⟩, trivial⟩⟩⟩⟩⟩ ?_
          exact hX43  s7 k
        · have k := k.2 c
          refine Ex.seg hq 2 (j := 41) (L' := [.ref 0, .int x1, .int x2, .int x3, .int x4]) (S' := [.int x4, .ref 0]) (h' := hpS s7) rfl ?_
          refine Ex.cl hq rfl rfl ?_
          refine Rn.mono (q_144 (d := d + 4) x4 s7 k) ?_
          rintro _ _ ⟨r10, s9, rfl, hzr10, rfl, k⟩
          show Ex sc (d + 5) 143 42 [.ref 0, .int x1, .int x2, .int x3, .int x4] [.int r10] (hpS s9) _
          refine Ex.i1 hq rfl (fun c => ?_) (fun c => ?_)
          · have k := k.1 c
            refine Ex.seg hq 6 (j := 51) (L' := [.ref 0, .int x1, .int x2, .int x3, .int x4]) (S' := [.int x4, .ref 27, .ref 8, .int x3]) (h' := hpS s9) rfl ?_
            obtain ⟨hin, k⟩ := k
            refine Ex.ial hq rfl rfl hin ?_
            refine Ex.cl hq rfl rfl ?_
            refine Rn.mono (q_119 (d := d + 4) ((s9.2.1 27) (x4).toNatClampNeg) s9 k) ?_
            rintro _ _ ⟨r12, s11, rfl, rfl, k⟩
            show Ex sc (d + 5) 143 53 [.ref 0, .int x1, .int x2, .int x3, .int x4] [.int r12, .int x3] (hpS s11) _
            refine Ex.seg hq 4 (j := 25) (L' := [.ref 0, .int x1, .int x2, .int (x3 + r12), .int (x4 + (1 : Int32))]) (S' := []) (h' := hpS s11) rfl ?_
            exact ih x1 x2 (x3 + r12) (x4 + (1 : Int32)) s11 k hX57 hX43
          · have k := k.2 c
            refine Ex.fg (L := [pu, pu, pu, pu, pu]) ⟨Or.inr ⟨rfl, rfl⟩, ⟨Or.inr ⟨rfl, rfl⟩, ⟨Or.inr ⟨rfl, rfl⟩, ⟨Or.inr ⟨rfl, rfl⟩, ⟨Or.inr ⟨rfl, rfl⟩, trivial⟩⟩⟩⟩⟩ ?_
            exact hX43  s9 k
/-- RowAuditor.parted(II)I -/
def w_143 (p1 : Int32) (p2 : Int32) (s : ST) (K : Int32 → ST → Prop) : Prop := w_181 p1 (0 : Int32) (12000000 : Int32) s (fun r2 s1 => ((r2 = 0 → K (-1 : Int32) s1) ∧ (¬ (r2 = 0) → w_136 p2 (12 : Int32) s1 (fun r4 s3 => ((¬ r4 = 0 → w_111 (s3.1 100) (sI s3 7 (0 : Int32)) (fun s5 => (∃ m, w_143_L25 m p1 p2 (0 : Int32) (0 : Int32) s5 (fun y1 y2 y3 s13 => ((y1 ≤ y3 → w_145 (y3 - y1) y2 s13 (fun r15 s14 => K r15 s14)) ∧ (¬ (y1 ≤ y3) → K (-2 : Int32) s13))) (fun s16 => K (-3 : Int32) s16) K))) ∧ (¬ (¬ r4 = 0) → K (-1 : Int32) s3))))))
theorem q_143 {d : Nat} {K : Int32 → ST → Prop} (p1 : Int32) (p2 : Int32) (s : ST) (k : w_143 p1 p2 s K) : Rn sc (d + 5) 143 [.ref 0, .int p1, .int p2] (hpS s) (kI K) := by
  have hq : prog[143]? = some pm143 := rfl
  refine Rn.of (L := [.ref 0, .int p1, .int p2, pu, pu]) hq rfl rfl ?_
  unfold w_143 at k
  refine Ex.seg hq 3 (j := 3) (L' := [.ref 0, .int p1, .int p2, pu, pu]) (S' := [.int (12000000 : Int32), .int (0 : Int32), .int p1]) (h' := hpS s) rfl ?_
  refine Ex.cl hq rfl rfl ?_
  refine Rn.mono (q_181 (d := d + 4) p1 (0 : Int32) (12000000 : Int32) s k) ?_
  rintro _ _ ⟨r2, s1, rfl, hzr2, rfl, k⟩
  show Ex sc (d + 5) 143 4 [.ref 0, .int p1, .int p2, pu, pu] [.int r2] (hpS s1) _
  refine Ex.i1 hq rfl (fun c => ?_) (fun c => ?_)
  · have k := k.1 c
    refine Ex.seg hq 1 (j := 11) (L' := [.ref 0, .int p1, .int p2, pu, pu]) (S' := [.int (-1 : Int32)]) (h' := hpS s1) rfl ?_
    exact Ex.rt hq rfl rfl ⟨(-1 : Int32), s1, rfl, rfl, k⟩
  · have k := k.2 c
    refine Ex.seg hq 3 (j := 8) (L' := [.ref 0, .int p1, .int p2, pu, pu]) (S' := [.int (12 : Int32), .int p2, .ref 0]) (h' := hpS s1) rfl ?_
    refine Ex.cl hq rfl rfl ?_
    refine Rn.mono (q_136 (d := d + 3) p2 (12 : Int32) s1 k) ?_
    rintro _ _ ⟨r4, s3, rfl, hzr4, rfl, k⟩
    show Ex sc (d + 5) 143 9 [.ref 0, .int p1, .int p2, pu, pu] [.int r4] (hpS s3) _
    refine Ex.i1 hq rfl (fun c => ?_) (fun c => ?_)
    · have k := k.1 c
      refine Ex.seg hq 8 (j := 20) (L' := [.ref 0, .int p1, .int p2, pu, pu]) (S' := [.int (s3.1 100), .ref 8]) (h' := hpS (sI s3 7 (0 : Int32))) rfl ?_
      refine Ex.cl hq rfl rfl ?_
      refine Rn.mono (q_111 (d := d + 0) (s3.1 100) (sI s3 7 (0 : Int32)) k) ?_
      rintro _ _ ⟨s5, rfl, rfl, k⟩
      show Ex sc (d + 5) 143 21 [.ref 0, .int p1, .int p2, pu, pu] [] (hpS s5) _
      refine Ex.seg hq 4 (j := 25) (L' := [.ref 0, .int p1, .int p2, .int (0 : Int32), .int (0 : Int32)]) (S' := []) (h' := hpS s5) rfl ?_
      obtain ⟨m, k⟩ := k
      refine q_143_L25 (d := d) m p1 p2 (0 : Int32) (0 : Int32) s5 k ?_ ?_
      · intro y1 y2 y3 s13 k
        refine Ex.seg hq 2 (j := 59) (L' := [.ref 0, .int y1, .int y2, .int y3, pu]) (S' := [.int y1, .int y3]) (h' := hpS s13) rfl ?_
        refine Ex.i2 hq rfl (fun c => ?_) (fun c => ?_)
        · have k := k.1 c
          refine Ex.seg hq 5 (j := 67) (L' := [.ref 0, .int y1, .int y2, .int y3, pu]) (S' := [.int y2, .int (y3 - y1), .ref 0]) (h' := hpS s13) rfl ?_
          refine Ex.cl hq rfl rfl ?_
          refine Rn.mono (q_145 (d := d + 2) (y3 - y1) y2 s13 k) ?_
          rintro _ _ ⟨r15, s14, rfl, rfl, k⟩
          show Ex sc (d + 5) 143 68 [.ref 0, .int y1, .int y2, .int y3, pu] [.int r15] (hpS s14) _
          exact Ex.rt hq rfl rfl ⟨r15, s14, rfl, rfl, k⟩
        · have k := k.2 c
          refine Ex.seg hq 2 (j := 68) (L' := [.ref 0, .int y1, .int y2, .int y3, pu]) (S' := [.int (-2 : Int32)]) (h' := hpS s13) rfl ?_
          exact Ex.rt hq rfl rfl ⟨(-2 : Int32), s13, rfl, rfl, k⟩
      · intro s16 k
        refine Ex.seg hq 1 (j := 44) (L' := [pu, pu, pu, pu, pu]) (S' := [.int (-3 : Int32)]) (h' := hpS s16) rfl ?_
        exact Ex.rt hq rfl rfl ⟨(-3 : Int32), s16, rfl, rfl, k⟩
    · have k := k.2 c
      refine Ex.seg hq 1 (j := 11) (L' := [.ref 0, .int p1, .int p2, pu, pu]) (S' := [.int (-1 : Int32)]) (h' := hpS s3) rfl ?_
      exact Ex.rt hq rfl rfl ⟨(-1 : Int32), s3, rfl, rfl, k⟩
/-- RowAuditor.followed(IIZ)I -/
def w_147 (p1 : Int32) (p2 : Int32) (p3 : Int32) (s : ST) (K : Int32 → ST → Prop) : Prop := w_1 p1 s (fun r2 s1 => ((r2 = 0 → K (-1 : Int32) s1) ∧ (¬ (r2 = 0) → w_1 p2 s1 (fun r4 s3 => ((¬ r4 = 0 → w_111 (s3.1 100) s3 (fun s5 => w_40 p1 p2 p3 s5 (fun r8 s7 => K r8 s7))) ∧ (¬ (¬ r4 = 0) → K (-1 : Int32) s3))))))
theorem q_147 {d : Nat} {K : Int32 → ST → Prop} (p1 : Int32) (p2 : Int32) (p3 : Int32) (s : ST) (k : w_147 p1 p2 p3 s K) : Rn sc (d + 5) 147 [.ref 0, .int p1, .int p2, .int p3] (hpS s) (kI K) := by
  have hq : prog[147]? = some pm147 := rfl
  refine Rn.of (L := [.ref 0, .int p1, .int p2, .int p3]) hq rfl rfl ?_
  unfold w_147 at k
  refine Ex.seg hq 3 (j := 3) (L' := [.ref 0, .int p1, .int p2, .int p3]) (S' := [.int p1, .ref 1]) (h' := hpS s) rfl ?_
  refine Ex.cl hq rfl rfl ?_
  refine Rn.mono (q_1 (d := d + 4) p1 s k) ?_
  rintro _ _ ⟨r2, s1, rfl, hzr2, rfl, k⟩
  show Ex sc (d + 5) 147 4 [.ref 0, .int p1, .int p2, .int p3] [.int r2] (hpS s1) _
  refine Ex.i1 hq rfl (fun c => ?_) (fun c => ?_)
  · have k := k.1 c
    refine Ex.seg hq 1 (j := 11) (L' := [.ref 0, .int p1, .int p2, .int p3]) (S' := [.int (-1 : Int32)]) (h' := hpS s1) rfl ?_
    exact Ex.rt hq rfl rfl ⟨(-1 : Int32), s1, rfl, rfl, k⟩
  · have k := k.2 c
    refine Ex.seg hq 3 (j := 8) (L' := [.ref 0, .int p1, .int p2, .int p3]) (S' := [.int p2, .ref 1]) (h' := hpS s1) rfl ?_
    refine Ex.cl hq rfl rfl ?_
    refine Rn.mono (q_1 (d := d + 4) p2 s1 k) ?_
    rintro _ _ ⟨r4, s3, rfl, hzr4, rfl, k⟩
    show Ex sc (d + 5) 147 9 [.ref 0, .int p1, .int p2, .int p3] [.int r4] (hpS s3) _
    refine Ex.i1 hq rfl (fun c => ?_) (fun c => ?_)
    · have k := k.1 c
      refine Ex.seg hq 5 (j := 17) (L' := [.ref 0, .int p1, .int p2, .int p3]) (S' := [.int (s3.1 100), .ref 8]) (h' := hpS s3) rfl ?_
      refine Ex.cl hq rfl rfl ?_
      refine Rn.mono (q_111 (d := d + 0) (s3.1 100) s3 k) ?_
      rintro _ _ ⟨s5, rfl, rfl, k⟩
      show Ex sc (d + 5) 147 18 [.ref 0, .int p1, .int p2, .int p3] [] (hpS s5) _
      refine Ex.seg hq 5 (j := 23) (L' := [.ref 0, .int p1, .int p2, .int p3]) (S' := [.int p3, .int p2, .int p1, .ref 37]) (h' := hpS s5) rfl ?_
      refine Ex.cl hq rfl rfl ?_
      refine Rn.mono (q_40 (d := d + 0) p1 p2 p3 s5 k) ?_
      rintro _ _ ⟨r8, s7, rfl, rfl, k⟩
      show Ex sc (d + 5) 147 24 [.ref 0, .int p1, .int p2, .int p3] [.int r8] (hpS s7) _
      exact Ex.rt hq rfl rfl ⟨r8, s7, rfl, rfl, k⟩
    · have k := k.2 c
      refine Ex.seg hq 1 (j := 11) (L' := [.ref 0, .int p1, .int p2, .int p3]) (S' := [.int (-1 : Int32)]) (h' := hpS s3) rfl ?_
      exact Ex.rt hq rfl rfl ⟨(-1 : Int32), s3, rfl, rfl, k⟩
/-- RowAuditor.rounds(II)I -/
def w_148 (p1 : Int32) (p2 : Int32) (s : ST) (K : Int32 → ST → Prop) : Prop := w_182 p1 s (fun r2 s1 => ((r2 = 0 → K (-1 : Int32) s1) ∧ (¬ (r2 = 0) → w_181 p2 (0 : Int32) (100 : Int32) s1 (fun r4 s3 => ((¬ r4 = 0 → w_111 (s3.1 100) s3 (fun s5 => w_97 p1 p2 s5 (fun r8 s7 => K r8 s7))) ∧ (¬ (¬ r4 = 0) → K (-1 : Int32) s3))))))
theorem q_148 {d : Nat} {K : Int32 → ST → Prop} (p1 : Int32) (p2 : Int32) (s : ST) (k : w_148 p1 p2 s K) : Rn sc (d + 5) 148 [.ref 0, .int p1, .int p2] (hpS s) (kI K) := by
  have hq : prog[148]? = some pm148 := rfl
  refine Rn.of (L := [.ref 0, .int p1, .int p2]) hq rfl rfl ?_
  unfold w_148 at k
  refine Ex.seg hq 1 (j := 1) (L' := [.ref 0, .int p1, .int p2]) (S' := [.int p1]) (h' := hpS s) rfl ?_
  refine Ex.cl hq rfl rfl ?_
  refine Rn.mono (q_182 (d := d + 3) p1 s k) ?_
  rintro _ _ ⟨r2, s1, rfl, hzr2, rfl, k⟩
  show Ex sc (d + 5) 148 2 [.ref 0, .int p1, .int p2] [.int r2] (hpS s1) _
  refine Ex.i1 hq rfl (fun c => ?_) (fun c => ?_)
  · have k := k.1 c
    refine Ex.seg hq 1 (j := 9) (L' := [.ref 0, .int p1, .int p2]) (S' := [.int (-1 : Int32)]) (h' := hpS s1) rfl ?_
    exact Ex.rt hq rfl rfl ⟨(-1 : Int32), s1, rfl, rfl, k⟩
  · have k := k.2 c
    refine Ex.seg hq 3 (j := 6) (L' := [.ref 0, .int p1, .int p2]) (S' := [.int (100 : Int32), .int (0 : Int32), .int p2]) (h' := hpS s1) rfl ?_
    refine Ex.cl hq rfl rfl ?_
    refine Rn.mono (q_181 (d := d + 4) p2 (0 : Int32) (100 : Int32) s1 k) ?_
    rintro _ _ ⟨r4, s3, rfl, hzr4, rfl, k⟩
    show Ex sc (d + 5) 148 7 [.ref 0, .int p1, .int p2] [.int r4] (hpS s3) _
    refine Ex.i1 hq rfl (fun c => ?_) (fun c => ?_)
    · have k := k.1 c
      refine Ex.seg hq 5 (j := 15) (L' := [.ref 0, .int p1, .int p2]) (S' := [.int (s3.1 100), .ref 8]) (h' := hpS s3) rfl ?_
      refine Ex.cl hq rfl rfl ?_
      refine Rn.mono (q_111 (d := d + 0) (s3.1 100) s3 k) ?_
      rintro _ _ ⟨s5, rfl, rfl, k⟩
      show Ex sc (d + 5) 148 16 [.ref 0, .int p1, .int p2] [] (hpS s5) _
      refine Ex.seg hq 4 (j := 20) (L' := [.ref 0, .int p1, .int p2]) (S' := [.int p2, .int p1, .ref 46]) (h' := hpS s5) rfl ?_
      refine Ex.cl hq rfl rfl ?_
      refine Rn.mono (q_97 (d := d + 0) p1 p2 s5 k) ?_
      rintro _ _ ⟨r8, s7, rfl, rfl, k⟩
      show Ex sc (d + 5) 148 21 [.ref 0, .int p1, .int p2] [.int r8] (hpS s7) _
      exact Ex.rt hq rfl rfl ⟨r8, s7, rfl, rfl, k⟩
    · have k := k.2 c
      refine Ex.seg hq 1 (j := 9) (L' := [.ref 0, .int p1, .int p2]) (S' := [.int (-1 : Int32)]) (h' := hpS s3) rfl ?_
      exact Ex.rt hq rfl rfl ⟨(-1 : Int32), s3, rfl, rfl, k⟩
/-- java/util/ArrayList.size()I -/
def w_297_R22  (s : ST) (K : Int32 → ST → Prop) : Prop := K (s.1 2202) s
theorem q_297_R22 {d : Nat} {K : Int32 → ST → Prop}  (s : ST) (k : w_297_R22  s K) : Rn sc (d + 0) 297 [.ref 22] (hpS s) (kI K) := by
  have hq : prog[297]? = some pm297 := rfl
  refine Rn.of (L := [.ref 22]) hq rfl rfl ?_
  unfold w_297_R22 at k
  refine Ex.seg hq 2 (j := 2) (L' := [.ref 22]) (S' := [.int (s.1 2202)]) (h' := hpS s) rfl ?_
  exact Ex.rt hq rfl rfl ⟨(s.1 2202), s, rfl, rfl, k⟩
/-- java/util/ArrayList.grow(I)[Ljava/lang/Object; -/
def w_295_R22 (p1 : Int32) (s : ST) (K : Nat → ST → Prop) : Prop := (((s.2.2.2.1 22) = .float 1 ∧ (((s.2.2.2.1 22) = .float 1 ∧ (¬ (if (10 : Int32) < p1 then p1 else (10 : Int32)) < 0 ∧ ((if (10 : Int32) < p1 then p1 else (10 : Int32))).toNatClampNeg ≤ 100000 ∧ K s.2.2.2.2.length (sD (sR s 22 (.ref (s.2.2.2.2.length + 118))) (s.2.2.2.2 ++ [(Sum.inl (4, ((if (10 : Int32) < p1 then p1 else (10 : Int32))).toNatClampNeg, .inr (.inr (fun _ => none))) : PC)])))) ∨ (∃ b2, (s.2.2.2.1 22) = .ref (b2 + 118) ∧ w_307 (0 : Int32) (p1 - (0 : Int32)) ((0 : Int32) >>> ((1 : Int32) &&& 31)) s (fun r4 s3 => (((s3.2.2.2.1 22) = .float 1 ∧ w_303_F1 r4 s3 (fun r7 s6 => K r7 (sR s6 22 (.ref (r7 + 118))))) ∨ (∃ b5, (s3.2.2.2.1 22) = .ref (b5 + 118) ∧ w_303 b5 r4 s3 (fun r9 s8 => K r9 (sR s8 22 (.ref (r9 + 118)))))))))) ∨ (∃ b1, (s.2.2.2.1 22) = .ref (b1 + 118) ∧ (∃ n10 f11, prowR s.2.2.2.2 b1 = some (n10, f11) ∧ ((0 < (Int32.ofNat n10) → w_307 (Int32.ofNat n10) (p1 - (Int32.ofNat n10)) ((Int32.ofNat n10) >>> ((1 : Int32) &&& 31)) s (fun r13 s12 => (((s12.2.2.2.1 22) = .float 1 ∧ w_303_F1 r13 s12 (fun r16 s15 => K r16 (sR s15 22 (.ref (r16 + 118))))) ∨ (∃ b14, (s12.2.2.2.1 22) = .ref (b14 + 118) ∧ w_303 b14 r13 s12 (fun r18 s17 => K r18 (sR s17 22 (.ref (r18 + 118)))))))) ∧ (¬ (0 < (Int32.ofNat n10)) → (((s.2.2.2.1 22) = .float 1 ∧ (¬ (if (10 : Int32) < p1 then p1 else (10 : Int32)) < 0 ∧ ((if (10 : Int32) < p1 then p1 else (10 : Int32))).toNatClampNeg ≤ 100000 ∧ K s.2.2.2.2.length (sD (sR s 22 (.ref (s.2.2.2.2.length + 118))) (s.2.2.2.2 ++ [(Sum.inl (4, ((if (10 : Int32) < p1 then p1 else (10 : Int32))).toNatClampNeg, .inr (.inr (fun _ => none))) : PC)])))) ∨ (∃ b19, (s.2.2.2.1 22) = .ref (b19 + 118) ∧ w_307 (Int32.ofNat n10) (p1 - (Int32.ofNat n10)) ((Int32.ofNat n10) >>> ((1 : Int32) &&& 31)) s (fun r21 s20 => (((s20.2.2.2.1 22) = .float 1 ∧ w_303_F1 r21 s20 (fun r24 s23 => K r24 (sR s23 22 (.ref (r24 + 118))))) ∨ (∃ b22, (s20.2.2.2.1 22) = .ref (b22 + 118) ∧ w_303 b22 r21 s20 (fun r26 s25 => K r26 (sR s25 22 (.ref (r26 + 118))))))))))))))
theorem q_295_R22 {d : Nat} {K : Nat → ST → Prop} (p1 : Int32) (s : ST) (k : w_295_R22 p1 s K) : Rn sc (d + 3) 295 [.ref 22, .int p1] (hpS s) (kA K) := by
  have hq : prog[295]? = some pm295 := rfl
  refine Rn.of (L := [.ref 22, .int p1, pu, pu]) hq rfl rfl ?_
  unfold w_295_R22 at k
  refine Ex.seg hq 1 (j := 1) (L' := [.ref 22, .int p1, pu, pu]) (S' := [.ref 22]) (h' := hpS s) rfl ?_
  refine Ex.seg hq 1 (j := 2) (L' := [.ref 22, .int p1, pu, pu]) (S' := (s.2.2.2.1 22) :: []) (h' := hpS s) rfl ?_
  rcases k with ⟨e, k⟩ | ⟨b1, e, k⟩
  · rw [e]
    refine Ex.seg hq 5 (j := 7) (L' := [.ref 22, .int p1, .int (0 : Int32), pu]) (S' := [.ref 22]) (h' := hpS s) rfl ?_
    refine Ex.seg hq 1 (j := 8) (L' := [.ref 22, .int p1, .int (0 : Int32), pu]) (S' := (s.2.2.2.1 22) :: []) (h' := hpS s) rfl ?_
    rcases k with ⟨e, k⟩ | ⟨b2, e, k⟩
    · rw [e]
      refine Ex.seg hq 6 (j := 31) (L' := [.ref 22, .int p1, .int (0 : Int32), pu]) (S' := [.int (if (10 : Int32) < p1 then p1 else (10 : Int32)), .ref 22]) (h' := hpS s) rfl ?_
      obtain ⟨h0, h1, k⟩ := k
      refine Ex.anw hq rfl h0 h1 ?_
      show Ex sc (d + 3) 295 32 [.ref 22, .int p1, .int (0 : Int32), pu] [.ref (s.2.2.2.2.length + 118), .ref 22] (hpS (sD s (s.2.2.2.2 ++ [(Sum.inl (4, ((if (10 : Int32) < p1 then p1 else (10 : Int32))).toNatClampNeg, .inr (.inr (fun _ => none))) : PC)]))) _
      refine Ex.seg hq 2 (j := 34) (L' := [.ref 22, .int p1, .int (0 : Int32), pu]) (S' := [.ref (s.2.2.2.2.length + 118)]) (h' := hpS (sD (sR s 22 (.ref (s.2.2.2.2.length + 118))) (s.2.2.2.2 ++ [(Sum.inl (4, ((if (10 : Int32) < p1 then p1 else (10 : Int32))).toNatClampNeg, .inr (.inr (fun _ => none))) : PC)]))) rfl ?_
      exact Ex.rt hq rfl rfl ⟨s.2.2.2.2.length, (sD (sR s 22 (.ref (s.2.2.2.2.length + 118))) (s.2.2.2.2 ++ [(Sum.inl (4, ((if (10 : Int32) < p1 then p1 else (10 : Int32))).toNatClampNeg, .inr (.inr (fun _ => none))) : PC)])), rfl, rfl, k⟩
    · rw [e]
      refine Ex.seg hq 9 (j := 17) (L' := [.ref 22, .int p1, .int (0 : Int32), pu]) (S' := [.int ((0 : Int32) >>> ((1 : Int32) &&& 31)), .int (p1 - (0 : Int32)), .int (0 : Int32)]) (h' := hpS s) rfl ?_
      refine Ex.cl hq rfl rfl ?_
      refine Rn.mono (q_307 (d := d + 1) (0 : Int32) (p1 - (0 : Int32)) ((0 : Int32) >>> ((1 : Int32) &&& 31)) s k) ?_
      rintro _ _ ⟨r4, s3, rfl, rfl, k⟩
      show Ex sc (d + 3) 295 18 [.ref 22, .int p1, .int (0 : Int32), pu] [.int r4] (hpS s3) _
      refine Ex.seg hq 3 (j := 21) (L' := [.ref 22, .int p1, .int (0 : Int32), .int r4]) (S' := [.ref 22, .ref 22]) (h' := hpS s3) rfl ?_
      refine Ex.seg hq 1 (j := 22) (L' := [.ref 22, .int p1, .int (0 : Int32), .int r4]) (S' := (s3.2.2.2.1 22) :: [.ref 22]) (h' := hpS s3) rfl ?_
      rcases k with ⟨e, k⟩ | ⟨b5, e, k⟩
      · rw [e]
        refine Ex.seg hq 1 (j := 23) (L' := [.ref 22, .int p1, .int (0 : Int32), .int r4]) (S' := [.int r4, .float 1, .ref 22]) (h' := hpS s3) rfl ?_
        refine Ex.cl hq rfl rfl ?_
        refine Rn.mono (q_303_F1 (d := d + 2) r4 s3 k) ?_
        rintro _ _ ⟨r7, s6, rfl, rfl, k⟩
        show Ex sc (d + 3) 295 24 [.ref 22, .int p1, .int (0 : Int32), .int r4] [.ref (r7 + 118), .ref 22] (hpS s6) _
        refine Ex.seg hq 2 (j := 26) (L' := [.ref 22, .int p1, .int (0 : Int32), .int r4]) (S' := [.ref (r7 + 118)]) (h' := hpS (sR s6 22 (.ref (r7 + 118)))) rfl ?_
        exact Ex.rt hq rfl rfl ⟨r7, (sR s6 22 (.ref (r7 + 118))), rfl, rfl, k⟩
      · rw [e]
        refine Ex.seg hq 1 (j := 23) (L' := [.ref 22, .int p1, .int (0 : Int32), .int r4]) (S' := [.int r4, .ref (b5 + 118), .ref 22]) (h' := hpS s3) rfl ?_
        refine Ex.cl hq rfl rfl ?_
        refine Rn.mono (q_303 (d := d + 0) b5 r4 s3 k) ?_
        rintro _ _ ⟨r9, s8, rfl, rfl, k⟩
        show Ex sc (d + 3) 295 24 [.ref 22, .int p1, .int (0 : Int32), .int r4] [.ref (r9 + 118), .ref 22] (hpS s8) _
        refine Ex.seg hq 2 (j := 26) (L' := [.ref 22, .int p1, .int (0 : Int32), .int r4]) (S' := [.ref (r9 + 118)]) (h' := hpS (sR s8 22 (.ref (r9 + 118)))) rfl ?_
        exact Ex.rt hq rfl rfl ⟨r9, (sR s8 22 (.ref (r9 + 118))), rfl, rfl, k⟩
  · rw [e]
    obtain ⟨n10, f11, e, k⟩ := k
    refine Ex.lnR hq rfl e ?_
    refine Ex.seg hq 2 (j := 5) (L' := [.ref 22, .int p1, .int (Int32.ofNat n10), pu]) (S' := [.int (Int32.ofNat n10)]) (h' := hpS s) rfl ?_
    refine Ex.i1 hq rfl (fun c => ?_) (fun c => ?_)
    · have k := k.1 c
      refine Ex.seg hq 7 (j := 17) (L' := [.ref 22, .int p1, .int (Int32.ofNat n10), pu]) (S' := [.int ((Int32.ofNat n10) >>> ((1 : Int32) &&& 31)), .int (p1 - (Int32.ofNat n10)), .int (Int32.ofNat n10)]) (h' := hpS s) rfl ?_
      refine Ex.cl hq rfl rfl ?_
      refine Rn.mono (q_307 (d := d + 1) (Int32.ofNat n10) (p1 - (Int32.ofNat n10)) ((Int32.ofNat n10) >>> ((1 : Int32) &&& 31)) s k) ?_
      rintro _ _ ⟨r13, s12, rfl, rfl, k⟩
      show Ex sc (d + 3) 295 18 [.ref 22, .int p1, .int (Int32.ofNat n10), pu] [.int r13] (hpS s12) _
      refine Ex.seg hq 3 (j := 21) (L' := [.ref 22, .int p1, .int (Int32.ofNat n10), .int r13]) (S' := [.ref 22, .ref 22]) (h' := hpS s12) rfl ?_
      refine Ex.seg hq 1 (j := 22) (L' := [.ref 22, .int p1, .int (Int32.ofNat n10), .int r13]) (S' := (s12.2.2.2.1 22) :: [.ref 22]) (h' := hpS s12) rfl ?_
      rcases k with ⟨e, k⟩ | ⟨b14, e, k⟩
      · rw [e]
        refine Ex.seg hq 1 (j := 23) (L' := [.ref 22, .int p1, .int (Int32.ofNat n10), .int r13]) (S' := [.int r13, .float 1, .ref 22]) (h' := hpS s12) rfl ?_
        refine Ex.cl hq rfl rfl ?_
        refine Rn.mono (q_303_F1 (d := d + 2) r13 s12 k) ?_
        rintro _ _ ⟨r16, s15, rfl, rfl, k⟩
        show Ex sc (d + 3) 295 24 [.ref 22, .int p1, .int (Int32.ofNat n10), .int r13] [.ref (r16 + 118), .ref 22] (hpS s15) _
        refine Ex.seg hq 2 (j := 26) (L' := [.ref 22, .int p1, .int (Int32.ofNat n10), .int r13]) (S' := [.ref (r16 + 118)]) (h' := hpS (sR s15 22 (.ref (r16 + 118)))) rfl ?_
        exact Ex.rt hq rfl rfl ⟨r16, (sR s15 22 (.ref (r16 + 118))), rfl, rfl, k⟩
      · rw [e]
        refine Ex.seg hq 1 (j := 23) (L' := [.ref 22, .int p1, .int (Int32.ofNat n10), .int r13]) (S' := [.int r13, .ref (b14 + 118), .ref 22]) (h' := hpS s12) rfl ?_
        refine Ex.cl hq rfl rfl ?_
        refine Rn.mono (q_303 (d := d + 0) b14 r13 s12 k) ?_
        rintro _ _ ⟨r18, s17, rfl, rfl, k⟩
        show Ex sc (d + 3) 295 24 [.ref 22, .int p1, .int (Int32.ofNat n10), .int r13] [.ref (r18 + 118), .ref 22] (hpS s17) _
        refine Ex.seg hq 2 (j := 26) (L' := [.ref 22, .int p1, .int (Int32.ofNat n10), .int r13]) (S' := [.ref (r18 + 118)]) (h' := hpS (sR s17 22 (.ref (r18 + 118)))) rfl ?_
        exact Ex.rt hq rfl rfl ⟨r18, (sR s17 22 (.ref (r18 + 118))), rfl, rfl, k⟩
    · have k := k.2 c
      refine Ex.seg hq 1 (j := 7) (L' := [.ref 22, .int p1, .int (Int32.ofNat n10), pu]) (S' := [.ref 22]) (h' := hpS s) rfl ?_
      refine Ex.seg hq 1 (j := 8) (L' := [.ref 22, .int p1, .int (Int32.ofNat n10), pu]) (S' := (s.2.2.2.1 22) :: []) (h' := hpS s) rfl ?_
      rcases k with ⟨e, k⟩ | ⟨b19, e, k⟩
      · rw [e]
        refine Ex.seg hq 6 (j := 31) (L' := [.ref 22, .int p1, .int (Int32.ofNat n10), pu]) (S' := [.int (if (10 : Int32) < p1 then p1 else (10 : Int32)), .ref 22]) (h' := hpS s) rfl ?_
        obtain ⟨h0, h1, k⟩ := k
        refine Ex.anw hq rfl h0 h1 ?_
        show Ex sc (d + 3) 295 32 [.ref 22, .int p1, .int (Int32.ofNat n10), pu] [.ref (s.2.2.2.2.length + 118), .ref 22] (hpS (sD s (s.2.2.2.2 ++ [(Sum.inl (4, ((if (10 : Int32) < p1 then p1 else (10 : Int32))).toNatClampNeg, .inr (.inr (fun _ => none))) : PC)]))) _
        refine Ex.seg hq 2 (j := 34) (L' := [.ref 22, .int p1, .int (Int32.ofNat n10), pu]) (S' := [.ref (s.2.2.2.2.length + 118)]) (h' := hpS (sD (sR s 22 (.ref (s.2.2.2.2.length + 118))) (s.2.2.2.2 ++ [(Sum.inl (4, ((if (10 : Int32) < p1 then p1 else (10 : Int32))).toNatClampNeg, .inr (.inr (fun _ => none))) : PC)]))) rfl ?_
        exact Ex.rt hq rfl rfl ⟨s.2.2.2.2.length, (sD (sR s 22 (.ref (s.2.2.2.2.length + 118))) (s.2.2.2.2 ++ [(Sum.inl (4, ((if (10 : Int32) < p1 then p1 else (10 : Int32))).toNatClampNeg, .inr (.inr (fun _ => none))) : PC)])), rfl, rfl, k⟩
      · rw [e]
        refine Ex.seg hq 9 (j := 17) (L' := [.ref 22, .int p1, .int (Int32.ofNat n10), pu]) (S' := [.int ((Int32.ofNat n10) >>> ((1 : Int32) &&& 31)), .int (p1 - (Int32.ofNat n10)), .int (Int32.ofNat n10)]) (h' := hpS s) rfl ?_
        refine Ex.cl hq rfl rfl ?_
        refine Rn.mono (q_307 (d := d + 1) (Int32.ofNat n10) (p1 - (Int32.ofNat n10)) ((Int32.ofNat n10) >>> ((1 : Int32) &&& 31)) s k) ?_
        rintro _ _ ⟨r21, s20, rfl, rfl, k⟩
        show Ex sc (d + 3) 295 18 [.ref 22, .int p1, .int (Int32.ofNat n10), pu] [.int r21] (hpS s20) _
        refine Ex.seg hq 3 (j := 21) (L' := [.ref 22, .int p1, .int (Int32.ofNat n10), .int r21]) (S' := [.ref 22, .ref 22]) (h' := hpS s20) rfl ?_
        refine Ex.seg hq 1 (j := 22) (L' := [.ref 22, .int p1, .int (Int32.ofNat n10), .int r21]) (S' := (s20.2.2.2.1 22) :: [.ref 22]) (h' := hpS s20) rfl ?_
        rcases k with ⟨e, k⟩ | ⟨b22, e, k⟩
        · rw [e]
          refine Ex.seg hq 1 (j := 23) (L' := [.ref 22, .int p1, .int (Int32.ofNat n10), .int r21]) (S' := [.int r21, .float 1, .ref 22]) (h' := hpS s20) rfl ?_
          refine Ex.cl hq rfl rfl ?_
          refine Rn.mono (q_303_F1 (d := d + 2) r21 s20 k) ?_
          rintro _ _ ⟨r24, s23, rfl, rfl, k⟩
          show Ex sc (d + 3) 295 24 [.ref 22, .int p1, .int (Int32.ofNat n10), .int r21] [.ref (r24 + 118), .ref 22] (hpS s23) _
          refine Ex.seg hq 2 (j := 26) (L' := [.ref 22, .int p1, .int (Int32.ofNat n10), .int r21]) (S' := [.ref (r24 + 118)]) (h' := hpS (sR s23 22 (.ref (r24 + 118)))) rfl ?_
          exact Ex.rt hq rfl rfl ⟨r24, (sR s23 22 (.ref (r24 + 118))), rfl, rfl, k⟩
        · rw [e]
          refine Ex.seg hq 1 (j := 23) (L' := [.ref 22, .int p1, .int (Int32.ofNat n10), .int r21]) (S' := [.int r21, .ref (b22 + 118), .ref 22]) (h' := hpS s20) rfl ?_
          refine Ex.cl hq rfl rfl ?_
          refine Rn.mono (q_303 (d := d + 0) b22 r21 s20 k) ?_
          rintro _ _ ⟨r26, s25, rfl, rfl, k⟩
          show Ex sc (d + 3) 295 24 [.ref 22, .int p1, .int (Int32.ofNat n10), .int r21] [.ref (r26 + 118), .ref 22] (hpS s25) _
          refine Ex.seg hq 2 (j := 26) (L' := [.ref 22, .int p1, .int (Int32.ofNat n10), .int r21]) (S' := [.ref (r26 + 118)]) (h' := hpS (sR s25 22 (.ref (r26 + 118)))) rfl ?_
          exact Ex.rt hq rfl rfl ⟨r26, (sR s25 22 (.ref (r26 + 118))), rfl, rfl, k⟩
end WP
