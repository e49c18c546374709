/-! ===== weakest preconditions, printed by wip/whole/genwp.py ===== -/
section WP
variable {sc : Nat × (Nat → Int32)}
/-- RowAuditor$Books.isHouse(I)Z -/
def w_1 (p1 : Int32) (s : ST) (K : Int32 → ST → Prop) : Prop := ((p1 < 0 → K (0 : Int32) s) ∧ (¬ (p1 < 0) → (((s.1 101) ≤ p1 → K (0 : Int32) s) ∧ (¬ ((s.1 101) ≤ p1) → K (1 : Int32) s))))
theorem q_1 {d : Nat} {K : Int32 → ST → Prop} (p1 : Int32) (s : ST) (k : w_1 p1 s K) : Rn sc (d + 0) 1 [.ref 1, .int p1] (hpS s) (kZ K) := by
  have hq : prog[1]? = some pm1 := rfl
  refine Rn.of (L := [.ref 1, .int p1]) hq rfl rfl ?_
  unfold w_1 at k
  refine Ex.seg hq 1 (j := 1) (L' := [.ref 1, .int p1]) (S' := [.int p1]) (h' := hpS s) rfl ?_
  refine Ex.i1 hq rfl (fun c => ?_) (fun c => ?_)
  · have k := k.1 c
    refine Ex.seg hq 1 (j := 9) (L' := [.ref 1, .int p1]) (S' := [.int (0 : Int32)]) (h' := hpS s) rfl ?_
    exact Ex.zr hq rfl rfl (Or.inl rfl) ⟨(0 : Int32), s, rfl, (Or.inl rfl), rfl, k⟩
  · have k := k.2 c
    refine Ex.seg hq 3 (j := 5) (L' := [.ref 1, .int p1]) (S' := [.int (s.1 101), .int p1]) (h' := hpS s) rfl ?_
    refine Ex.i2 hq rfl (fun c => ?_) (fun c => ?_)
    · have k := k.1 c
      refine Ex.seg hq 1 (j := 9) (L' := [.ref 1, .int p1]) (S' := [.int (0 : Int32)]) (h' := hpS s) rfl ?_
      exact Ex.zr hq rfl rfl (Or.inl rfl) ⟨(0 : Int32), s, rfl, (Or.inl rfl), rfl, k⟩
    · have k := k.2 c
      refine Ex.seg hq 2 (j := 9) (L' := [.ref 1, .int p1]) (S' := [.int (1 : Int32)]) (h' := hpS s) rfl ?_
      exact Ex.zr hq rfl rfl (Or.inr rfl) ⟨(1 : Int32), s, rfl, (Or.inr rfl), rfl, k⟩
/-- RowAuditor$Books.isRow(I)Z -/
def w_2 (p1 : Int32) (s : ST) (K : Int32 → ST → Prop) : Prop := ((p1 < 0 → K (0 : Int32) s) ∧ (¬ (p1 < 0) → (((s.1 102) ≤ p1 → K (0 : Int32) s) ∧ (¬ ((s.1 102) ≤ p1) → K (1 : Int32) s))))
theorem q_2 {d : Nat} {K : Int32 → ST → Prop} (p1 : Int32) (s : ST) (k : w_2 p1 s K) : Rn sc (d + 0) 2 [.ref 1, .int p1] (hpS s) (kZ K) := by
  have hq : prog[2]? = some pm2 := rfl
  refine Rn.of (L := [.ref 1, .int p1]) hq rfl rfl ?_
  unfold w_2 at k
  refine Ex.seg hq 1 (j := 1) (L' := [.ref 1, .int p1]) (S' := [.int p1]) (h' := hpS s) rfl ?_
  refine Ex.i1 hq rfl (fun c => ?_) (fun c => ?_)
  · have k := k.1 c
    refine Ex.seg hq 1 (j := 9) (L' := [.ref 1, .int p1]) (S' := [.int (0 : Int32)]) (h' := hpS s) rfl ?_
    exact Ex.zr hq rfl rfl (Or.inl rfl) ⟨(0 : Int32), s, rfl, (Or.inl rfl), rfl, k⟩
  · have k := k.2 c
    refine Ex.seg hq 3 (j := 5) (L' := [.ref 1, .int p1]) (S' := [.int (s.1 102), .int p1]) (h' := hpS s) rfl ?_
    refine Ex.i2 hq rfl (fun c => ?_) (fun c => ?_)
    · have k := k.1 c
      refine Ex.seg hq 1 (j := 9) (L' := [.ref 1, .int p1]) (S' := [.int (0 : Int32)]) (h' := hpS s) rfl ?_
      exact Ex.zr hq rfl rfl (Or.inl rfl) ⟨(0 : Int32), s, rfl, (Or.inl rfl), rfl, k⟩
    · have k := k.2 c
      refine Ex.seg hq 2 (j := 9) (L' := [.ref 1, .int p1]) (S' := [.int (1 : Int32)]) (h' := hpS s) rfl ?_
      exact Ex.zr hq rfl rfl (Or.inr rfl) ⟨(1 : Int32), s, rfl, (Or.inr rfl), rfl, k⟩
/-- RowAuditor$Books.addHouse(I)I -/
def w_3 (p1 : Int32) (s : ST) (K : Int32 → ST → Prop) : Prop := (((s.1 101) < (10 : Int32) → (pin (s.1 101) 10 = true ∧ K (((s.1 101) + (1 : Int32)) - (1 : Int32)) (sA (sI s 101 ((s.1 101) + (1 : Int32))) 2 (upd (s.2.1 2) ((s.1 101)).toNatClampNeg p1)))) ∧ (¬ ((s.1 101) < (10 : Int32)) → K (-1 : Int32) s))
theorem q_3 {d : Nat} {K : Int32 → ST → Prop} (p1 : Int32) (s : ST) (k : w_3 p1 s K) : Rn sc (d + 0) 3 [.ref 1, .int p1] (hpS s) (kI K) := by
  have hq : prog[3]? = some pm3 := rfl
  refine Rn.of (L := [.ref 1, .int p1]) hq rfl rfl ?_
  unfold w_3 at k
  refine Ex.seg hq 3 (j := 3) (L' := [.ref 1, .int p1]) (S' := [.int (10 : Int32), .int (s.1 101)]) (h' := hpS s) rfl ?_
  refine Ex.i2 hq rfl (fun c => ?_) (fun c => ?_)
  · have k := k.1 c
    refine Ex.seg hq 5 (j := 11) (L' := [.ref 1, .int p1]) (S' := [.int p1, .int (s.1 101), .ref 2]) (h' := hpS s) rfl ?_
    obtain ⟨hin, k⟩ := k
    refine Ex.ias hq rfl rfl hin (h' := hpS (sA s 2 (upd (s.2.1 2) ((s.1 101)).toNatClampNeg p1))) (hset_2 _ _) ?_
    refine Ex.seg hq 10 (j := 22) (L' := [.ref 1, .int p1]) (S' := [.int (((s.1 101) + (1 : Int32)) - (1 : Int32))]) (h' := hpS (sA (sI s 101 ((s.1 101) + (1 : Int32))) 2 (upd (s.2.1 2) ((s.1 101)).toNatClampNeg p1))) rfl ?_
    exact Ex.rt hq rfl rfl ⟨(((s.1 101) + (1 : Int32)) - (1 : Int32)), (sA (sI s 101 ((s.1 101) + (1 : Int32))) 2 (upd (s.2.1 2) ((s.1 101)).toNatClampNeg p1)), rfl, rfl, k⟩
  · have k := k.2 c
    refine Ex.seg hq 1 (j := 5) (L' := [.ref 1, .int p1]) (S' := [.int (-1 : Int32)]) (h' := hpS s) rfl ?_
    exact Ex.rt hq rfl rfl ⟨(-1 : Int32), s, rfl, rfl, k⟩
/-- RowAuditor$Books.atFirst(I)I -/
def w_4 (p1 : Int32) (s : ST) (K : Int32 → ST → Prop) : Prop := ((p1 < 0 → K (0 : Int32) s) ∧ (¬ (p1 < 0) → (((s.1 101) ≤ p1 → K (0 : Int32) s) ∧ (¬ ((s.1 101) ≤ p1) → (pin p1 10 = true ∧ K ((s.2.1 2) (p1).toNatClampNeg) s)))))
theorem q_4 {d : Nat} {K : Int32 → ST → Prop} (p1 : Int32) (s : ST) (k : w_4 p1 s K) : Rn sc (d + 0) 4 [.ref 1, .int p1] (hpS s) (kI K) := by
  have hq : prog[4]? = some pm4 := rfl
  refine Rn.of (L := [.ref 1, .int p1]) hq rfl rfl ?_
  unfold w_4 at k
  refine Ex.seg hq 1 (j := 1) (L' := [.ref 1, .int p1]) (S' := [.int p1]) (h' := hpS s) rfl ?_
  refine Ex.i1 hq rfl (fun c => ?_) (fun c => ?_)
  · have k := k.1 c
    refine Ex.seg hq 1 (j := 12) (L' := [.ref 1, .int p1]) (S' := [.int (0 : Int32)]) (h' := hpS s) rfl ?_
    exact Ex.rt hq rfl rfl ⟨(0 : Int32), s, rfl, rfl, k⟩
  · have k := k.2 c
    refine Ex.seg hq 3 (j := 5) (L' := [.ref 1, .int p1]) (S' := [.int (s.1 101), .int p1]) (h' := hpS s) rfl ?_
    refine Ex.i2 hq rfl (fun c => ?_) (fun c => ?_)
    · have k := k.1 c
      refine Ex.seg hq 1 (j := 12) (L' := [.ref 1, .int p1]) (S' := [.int (0 : Int32)]) (h' := hpS s) rfl ?_
      exact Ex.rt hq rfl rfl ⟨(0 : Int32), s, rfl, rfl, k⟩
    · have k := k.2 c
      refine Ex.seg hq 3 (j := 9) (L' := [.ref 1, .int p1]) (S' := [.int p1, .ref 2]) (h' := hpS s) rfl ?_
      obtain ⟨hin, k⟩ := k
      refine Ex.ial hq rfl rfl hin ?_
      refine Ex.seg hq 1 (j := 12) (L' := [.ref 1, .int p1]) (S' := [.int ((s.2.1 2) (p1).toNatClampNeg)]) (h' := hpS s) rfl ?_
      exact Ex.rt hq rfl rfl ⟨((s.2.1 2) (p1).toNatClampNeg), s, rfl, rfl, k⟩
/-- RowAuditor$Books.cell(II)I -/
def w_9 (p1 : Int32) (p2 : Int32) (s : ST) (K : Int32 → ST → Prop) : Prop := ((p1 < 0 → K (-1 : Int32) s) ∧ (¬ (p1 < 0) → (((s.1 102) ≤ p1 → K (-1 : Int32) s) ∧ (¬ ((s.1 102) ≤ p1) → ((p2 < 0 → K (-1 : Int32) s) ∧ (¬ (p2 < 0) → (((11 : Int32) ≤ p2 → K (-1 : Int32) s) ∧ (¬ ((11 : Int32) ≤ p2) → (pin ((p1 * (11 : Int32)) + p2) 1650 = true ∧ K ((s.2.1 3) (((p1 * (11 : Int32)) + p2)).toNatClampNeg) s)))))))))
theorem q_9 {d : Nat} {K : Int32 → ST → Prop} (p1 : Int32) (p2 : Int32) (s : ST) (k : w_9 p1 p2 s K) : Rn sc (d + 0) 9 [.ref 1, .int p1, .int p2] (hpS s) (kI K) := by
  have hq : prog[9]? = some pm9 := rfl
  refine Rn.of (L := [.ref 1, .int p1, .int p2]) hq rfl rfl ?_
  unfold w_9 at k
  refine Ex.seg hq 1 (j := 1) (L' := [.ref 1, .int p1, .int p2]) (S' := [.int p1]) (h' := hpS s) rfl ?_
  refine Ex.i1 hq rfl (fun c => ?_) (fun c => ?_)
  · have k := k.1 c
    refine Ex.seg hq 1 (j := 21) (L' := [.ref 1, .int p1, .int p2]) (S' := [.int (-1 : Int32)]) (h' := hpS s) rfl ?_
    exact Ex.rt hq rfl rfl ⟨(-1 : Int32), s, rfl, rfl, k⟩
  · have k := k.2 c
    refine Ex.seg hq 3 (j := 5) (L' := [.ref 1, .int p1, .int p2]) (S' := [.int (s.1 102), .int p1]) (h' := hpS s) rfl ?_
    refine Ex.i2 hq rfl (fun c => ?_) (fun c => ?_)
    · have k := k.1 c
      refine Ex.seg hq 1 (j := 21) (L' := [.ref 1, .int p1, .int p2]) (S' := [.int (-1 : Int32)]) (h' := hpS s) rfl ?_
      exact Ex.rt hq rfl rfl ⟨(-1 : Int32), s, rfl, rfl, k⟩
    · have k := k.2 c
      refine Ex.seg hq 1 (j := 7) (L' := [.ref 1, .int p1, .int p2]) (S' := [.int p2]) (h' := hpS s) rfl ?_
      refine Ex.i1 hq rfl (fun c => ?_) (fun c => ?_)
      · have k := k.1 c
        refine Ex.seg hq 1 (j := 21) (L' := [.ref 1, .int p1, .int p2]) (S' := [.int (-1 : Int32)]) (h' := hpS s) rfl ?_
        exact Ex.rt hq rfl rfl ⟨(-1 : Int32), s, rfl, rfl, k⟩
      · have k := k.2 c
        refine Ex.seg hq 2 (j := 10) (L' := [.ref 1, .int p1, .int p2]) (S' := [.int (11 : Int32), .int p2]) (h' := hpS s) rfl ?_
        refine Ex.i2 hq rfl (fun c => ?_) (fun c => ?_)
        · have k := k.1 c
          refine Ex.seg hq 1 (j := 21) (L' := [.ref 1, .int p1, .int p2]) (S' := [.int (-1 : Int32)]) (h' := hpS s) rfl ?_
          exact Ex.rt hq rfl rfl ⟨(-1 : Int32), s, rfl, rfl, k⟩
        · have k := k.2 c
          refine Ex.seg hq 7 (j := 18) (L' := [.ref 1, .int p1, .int p2]) (S' := [.int ((p1 * (11 : Int32)) + p2), .ref 3]) (h' := hpS s) rfl ?_
          obtain ⟨hin, k⟩ := k
          refine Ex.ial hq rfl rfl hin ?_
          refine Ex.seg hq 1 (j := 21) (L' := [.ref 1, .int p1, .int p2]) (S' := [.int ((s.2.1 3) (((p1 * (11 : Int32)) + p2)).toNatClampNeg)]) (h' := hpS s) rfl ?_
          exact Ex.rt hq rfl rfl ⟨((s.2.1 3) (((p1 * (11 : Int32)) + p2)).toNatClampNeg), s, rfl, rfl, k⟩
/-- RowAuditor$Books.isLater(II)Z -/
def w_7 (p1 : Int32) (p2 : Int32) (s : ST) (K : Int32 → ST → Prop) : Prop := w_9 p1 (3 : Int32) s (fun r2 s1 => w_9 p2 (3 : Int32) s1 (fun r4 s3 => ((0 < (r2 - r4) → K (1 : Int32) s3) ∧ (¬ (0 < (r2 - r4)) → ((¬ (r2 - r4) = 0 → K (0 : Int32) s3) ∧ (¬ (¬ (r2 - r4) = 0) → w_9 p1 (4 : Int32) s3 (fun r6 s5 => w_9 p2 (4 : Int32) s5 (fun r8 s7 => ((r6 ≤ r8 → K (0 : Int32) s7) ∧ (¬ (r6 ≤ r8) → K (1 : Int32) s7))))))))))
theorem q_7 {d : Nat} {K : Int32 → ST → Prop} (p1 : Int32) (p2 : Int32) (s : ST) (k : w_7 p1 p2 s K) : Rn sc (d + 1) 7 [.ref 1, .int p1, .int p2] (hpS s) (kZ K) := by
  have hq : prog[7]? = some pm7 := rfl
  refine Rn.of (L := [.ref 1, .int p1, .int p2, pu]) hq rfl rfl ?_
  unfold w_7 at k
  refine Ex.seg hq 3 (j := 3) (L' := [.ref 1, .int p1, .int p2, pu]) (S' := [.int (3 : Int32), .int p1, .ref 1]) (h' := hpS s) rfl ?_
  refine Ex.cl hq rfl rfl ?_
  refine Rn.mono (q_9 (d := d + 0) p1 (3 : Int32) s k) ?_
  rintro _ _ ⟨r2, s1, rfl, rfl, k⟩
  show Ex sc (d + 1) 7 4 [.ref 1, .int p1, .int p2, pu] [.int r2] (hpS s1) _
  refine Ex.seg hq 3 (j := 7) (L' := [.ref 1, .int p1, .int p2, pu]) (S' := [.int (3 : Int32), .int p2, .ref 1, .int r2]) (h' := hpS s1) rfl ?_
  refine Ex.cl hq rfl rfl ?_
  refine Rn.mono (q_9 (d := d + 0) p2 (3 : Int32) s1 k) ?_
  rintro _ _ ⟨r4, s3, rfl, rfl, k⟩
  show Ex sc (d + 1) 7 8 [.ref 1, .int p1, .int p2, pu] [.int r4, .int r2] (hpS s3) _
  refine Ex.seg hq 3 (j := 11) (L' := [.ref 1, .int p1, .int p2, .int (r2 - r4)]) (S' := [.int (r2 - r4)]) (h' := hpS s3) rfl ?_
  refine Ex.i1 hq rfl (fun c => ?_) (fun c => ?_)
  · have k := k.1 c
    refine Ex.seg hq 2 (j := 26) (L' := [.ref 1, .int p1, .int p2, .int (r2 - r4)]) (S' := [.int (1 : Int32)]) (h' := hpS s3) rfl ?_
    exact Ex.zr hq rfl rfl (Or.inr rfl) ⟨(1 : Int32), s3, rfl, (Or.inr rfl), rfl, k⟩
  · have k := k.2 c
    refine Ex.seg hq 1 (j := 13) (L' := [.ref 1, .int p1, .int p2, .int (r2 - r4)]) (S' := [.int (r2 - r4)]) (h' := hpS s3) rfl ?_
    refine Ex.i1 hq rfl (fun c => ?_) (fun c => ?_)
    · have k := k.1 c
      refine Ex.seg hq 1 (j := 26) (L' := [.ref 1, .int p1, .int p2, .int (r2 - r4)]) (S' := [.int (0 : Int32)]) (h' := hpS s3) rfl ?_
      exact Ex.zr hq rfl rfl (Or.inl rfl) ⟨(0 : Int32), s3, rfl, (Or.inl rfl), rfl, k⟩
    · have k := k.2 c
      refine Ex.seg hq 3 (j := 17) (L' := [.ref 1, .int p1, .int p2, .int (r2 - r4)]) (S' := [.int (4 : Int32), .int p1, .ref 1]) (h' := hpS s3) rfl ?_
      refine Ex.cl hq rfl rfl ?_
      refine Rn.mono (q_9 (d := d + 0) p1 (4 : Int32) s3 k) ?_
      rintro _ _ ⟨r6, s5, rfl, rfl, k⟩
      show Ex sc (d + 1) 7 18 [.ref 1, .int p1, .int p2, .int (r2 - r4)] [.int r6] (hpS s5) _
      refine Ex.seg hq 3 (j := 21) (L' := [.ref 1, .int p1, .int p2, .int (r2 - r4)]) (S' := [.int (4 : Int32), .int p2, .ref 1, .int r6]) (h' := hpS s5) rfl ?_
      refine Ex.cl hq rfl rfl ?_
      refine Rn.mono (q_9 (d := d + 0) p2 (4 : Int32) s5 k) ?_
      rintro _ _ ⟨r8, s7, rfl, rfl, k⟩
      show Ex sc (d + 1) 7 22 [.ref 1, .int p1, .int p2, .int (r2 - r4)] [.int r8, .int r6] (hpS s7) _
      refine Ex.i2 hq rfl (fun c => ?_) (fun c => ?_)
      · have k := k.1 c
        refine Ex.seg hq 1 (j := 26) (L' := [.ref 1, .int p1, .int p2, .int (r2 - r4)]) (S' := [.int (0 : Int32)]) (h' := hpS s7) rfl ?_
        exact Ex.zr hq rfl rfl (Or.inl rfl) ⟨(0 : Int32), s7, rfl, (Or.inl rfl), rfl, k⟩
      · have k := k.2 c
        refine Ex.seg hq 2 (j := 26) (L' := [.ref 1, .int p1, .int p2, .int (r2 - r4)]) (S' := [.int (1 : Int32)]) (h' := hpS s7) rfl ?_
        exact Ex.zr hq rfl rfl (Or.inr rfl) ⟨(1 : Int32), s7, rfl, (Or.inr rfl), rfl, k⟩
def w_6_L2 : Nat → Int32 → Int32 → ST → (Int32 → Int32 → ST → Prop) → (ST → Prop) → Prop
  | 0, _, _, _, _, _ => False
  | n + 1, x1, x2, s, X26, K => ((x2 ≤ 0 → X26 x1 x2 s) ∧ (¬ (x2 ≤ 0) → (pin (x2 - (1 : Int32)) 150 = true ∧ w_7 ((s.2.1 4) ((x2 - (1 : Int32))).toNatClampNeg) x1 s (fun r2 s1 => ((r2 = 0 → X26 x1 x2 s1) ∧ (¬ (r2 = 0) → (pin (x2 - (1 : Int32)) 150 = true ∧ (pin x2 150 = true ∧ w_6_L2 n x1 (x2 + (-1 : Int32)) (sA s1 4 (upd (s1.2.1 4) (x2).toNatClampNeg ((s1.2.1 4) ((x2 - (1 : Int32))).toNatClampNeg))) X26 K))))))))
theorem q_6_L2 {d : Nat} {X26 : Int32 → Int32 → ST → Prop} {K : ST → Prop} : ∀ (n : Nat) (x1 : Int32) (x2 : Int32) (s : ST), w_6_L2 n x1 x2 s X26 K → (∀ (y1 : Int32) (y2 : Int32) (s : ST), X26 y1 y2 s → Ex sc (d + 2) 6 26 [.ref 1, .int y1, .int y2] [] (hpS s) (kV K)) → Ex sc (d + 2) 6 2 [.ref 1, .int x1, .int x2] [] (hpS s) (kV K) := by
  have hq : prog[6]? = some pm6 := rfl
  intro n
  induction n with
  | zero =>
    intro x1 x2 s k
    exact k.elim
  | succ n ih =>
    intro x1 x2 s k hX26
    rw [w_6_L2] at k
    refine Ex.seg hq 1 (j := 3) (L' := [.ref 1, .int x1, .int x2]) (S' := [.int x2]) (h' := hpS s) rfl ?_
    refine Ex.i1 hq rfl (fun c => ?_) (fun c => ?_)
    · have k := k.1 c
      exact hX26 x1 x2 s k
    · have k := k.2 c
      refine Ex.seg hq 6 (j := 10) (L' := [.ref 1, .int x1, .int x2]) (S' := [.int (x2 - (1 : Int32)), .ref 4, .ref 1]) (h' := hpS s) rfl ?_
      obtain ⟨hin, k⟩ := k
      refine Ex.ial hq rfl rfl hin ?_
      refine Ex.seg hq 1 (j := 12) (L' := [.ref 1, .int x1, .int x2]) (S' := [.int x1, .int ((s.2.1 4) ((x2 - (1 : Int32))).toNatClampNeg), .ref 1]) (h' := hpS s) rfl ?_
      refine Ex.cl hq rfl rfl ?_
      refine Rn.mono (q_7 (d := d + 0) ((s.2.1 4) ((x2 - (1 : Int32))).toNatClampNeg) x1 s k) ?_
      rintro _ _ ⟨r2, s1, rfl, hzr2, rfl, k⟩
      show Ex sc (d + 2) 6 13 [.ref 1, .int x1, .int x2] [.int r2] (hpS s1) _
      refine Ex.i1 hq rfl (fun c => ?_) (fun c => ?_)
      · have k := k.1 c
        exact hX26 x1 x2 s1 k
      · have k := k.2 c
        refine Ex.seg hq 8 (j := 22) (L' := [.ref 1, .int x1, .int x2]) (S' := [.int (x2 - (1 : Int32)), .ref 4, .int x2, .ref 4]) (h' := hpS s1) rfl ?_
        obtain ⟨hin, k⟩ := k
        refine Ex.ial hq rfl rfl hin ?_
        obtain ⟨hin, k⟩ := k
        refine Ex.ias hq rfl rfl hin (h' := hpS (sA s1 4 (upd (s1.2.1 4) (x2).toNatClampNeg ((s1.2.1 4) ((x2 - (1 : Int32))).toNatClampNeg)))) (hset_4 _ _) ?_
        refine Ex.seg hq 2 (j := 2) (L' := [.ref 1, .int x1, .int (x2 + (-1 : Int32))]) (S' := []) (h' := hpS (sA s1 4 (upd (s1.2.1 4) (x2).toNatClampNeg ((s1.2.1 4) ((x2 - (1 : Int32))).toNatClampNeg)))) rfl ?_
        exact ih x1 (x2 + (-1 : Int32)) (sA s1 4 (upd (s1.2.1 4) (x2).toNatClampNeg ((s1.2.1 4) ((x2 - (1 : Int32))).toNatClampNeg))) k hX26
/-- RowAuditor$Books.putInOrder(I)V -/
def w_6 (p1 : Int32) (s : ST) (K : ST → Prop) : Prop := (∃ m, w_6_L2 m p1 p1 s (fun y1 y2 s3 => (pin y2 150 = true ∧ K (sA s3 4 (upd (s3.2.1 4) (y2).toNatClampNeg y1)))) K)
theorem q_6 {d : Nat} {K : ST → Prop} (p1 : Int32) (s : ST) (k : w_6 p1 s K) : Rn sc (d + 2) 6 [.ref 1, .int p1] (hpS s) (kV K) := by
  have hq : prog[6]? = some pm6 := rfl
  refine Rn.of (L := [.ref 1, .int p1, pu]) hq rfl rfl ?_
  unfold w_6 at k
  refine Ex.seg hq 2 (j := 2) (L' := [.ref 1, .int p1, .int p1]) (S' := []) (h' := hpS s) rfl ?_
  obtain ⟨m, k⟩ := k
  refine q_6_L2 (d := d) m p1 p1 s k ?_
  · intro y1 y2 s3 k
    refine Ex.seg hq 4 (j := 30) (L' := [.ref 1, .int y1, .int y2]) (S' := [.int y1, .int y2, .ref 4]) (h' := hpS s3) rfl ?_
    obtain ⟨hin, k⟩ := k
    refine Ex.ias hq rfl rfl hin (h' := hpS (sA s3 4 (upd (s3.2.1 4) (y2).toNatClampNeg y1))) (hset_4 _ _) ?_
    exact Ex.rt hq rfl rfl ⟨(sA s3 4 (upd (s3.2.1 4) (y2).toNatClampNeg y1)), rfl, rfl, k⟩
/-- RowAuditor$Books.addRow([I)I -/
def w_5 (p1 : Nat) (s : ST) (K : Int32 → ST → Prop) : Prop := (((150 : Int32) ≤ (s.1 102) → K (-1 : Int32) s) ∧ (¬ ((150 : Int32) ≤ (s.1 102)) → (∃ n1 f2, prow s.2.2.2.2 p1 0 = some (n1, f2) ∧ (((Int32.ofNat n1) = (11 : Int32) → (∃ (n3 : Nat) (f4 : Nat → Int32), prow s.2.2.2.2 p1 0 = some (n3, f4) ∧ ¬ (0 : Int32) < 0 ∧ ¬ ((s.1 102) * (11 : Int32)) < 0 ∧ ¬ (11 : Int32) < 0 ∧ ((0 : Int32)).toNatClampNeg + ((11 : Int32)).toNatClampNeg ≤ n3 ∧ (((s.1 102) * (11 : Int32))).toNatClampNeg + ((11 : Int32)).toNatClampNeg ≤ 1650 ∧ w_6 (((s.1 102) + (1 : Int32)) - (1 : Int32)) (sA (sI s 102 ((s.1 102) + (1 : Int32))) 3 (va_cpy f4 (s.2.1 3) ((0 : Int32)).toNatClampNeg (((s.1 102) * (11 : Int32))).toNatClampNeg ((11 : Int32)).toNatClampNeg)) (fun s5 => K ((s5.1 102) - (1 : Int32)) s5))) ∧ (¬ ((Int32.ofNat n1) = (11 : Int32)) → K (-1 : Int32) s)))))
theorem q_5 {d : Nat} {K : Int32 → ST → Prop} (p1 : Nat) (s : ST) (k : w_5 p1 s K) : Rn sc (d + 3) 5 [.ref 1, .ref (p1 + 118)] (hpS s) (kI K) := by
  have hq : prog[5]? = some pm5 := rfl
  refine Rn.of (L := [.ref 1, .ref (p1 + 118)]) hq rfl rfl ?_
  unfold w_5 at k
  refine Ex.seg hq 3 (j := 3) (L' := [.ref 1, .ref (p1 + 118)]) (S' := [.int (150 : Int32), .int (s.1 102)]) (h' := hpS s) rfl ?_
  refine Ex.i2 hq rfl (fun c => ?_) (fun c => ?_)
  · have k := k.1 c
    refine Ex.seg hq 1 (j := 9) (L' := [.ref 1, .ref (p1 + 118)]) (S' := [.int (-1 : Int32)]) (h' := hpS s) rfl ?_
    exact Ex.rt hq rfl rfl ⟨(-1 : Int32), s, rfl, rfl, k⟩
  · have k := k.2 c
    refine Ex.seg hq 1 (j := 5) (L' := [.ref 1, .ref (p1 + 118)]) (S' := [.ref (p1 + 118)]) (h' := hpS s) rfl ?_
    obtain ⟨n1, f2, e, k⟩ := k
    refine Ex.lnd hq rfl e ?_
    refine Ex.seg hq 1 (j := 7) (L' := [.ref 1, .ref (p1 + 118)]) (S' := [.int (11 : Int32), .int (Int32.ofNat n1)]) (h' := hpS s) rfl ?_
    refine Ex.i2 hq rfl (fun c => ?_) (fun c => ?_)
    · have k := k.1 c
      refine Ex.seg hq 9 (j := 19) (L' := [.ref 1, .ref (p1 + 118)]) (S' := [.int (11 : Int32), .int ((s.1 102) * (11 : Int32)), .ref 3, .int (0 : Int32), .ref (p1 + 118)]) (h' := hpS s) rfl ?_
      obtain ⟨n3, f4, e0, h1, h2, h3, h4, h5, k⟩ := k
      refine Ex.cp hq rfl (by rw [dy_row]; exact e0) rfl h1 h2 h3 h4 h5 rfl (h' := hpS (sA s 3 (va_cpy f4 (s.2.1 3) ((0 : Int32)).toNatClampNeg (((s.1 102) * (11 : Int32))).toNatClampNeg ((11 : Int32)).toNatClampNeg))) (hset_3 _ _) ?_
      refine Ex.seg hq 11 (j := 31) (L' := [.ref 1, .ref (p1 + 118)]) (S' := [.int (((s.1 102) + (1 : Int32)) - (1 : Int32)), .ref 1]) (h' := hpS (sA (sI s 102 ((s.1 102) + (1 : Int32))) 3 (va_cpy f4 (s.2.1 3) ((0 : Int32)).toNatClampNeg (((s.1 102) * (11 : Int32))).toNatClampNeg ((11 : Int32)).toNatClampNeg))) rfl ?_
      refine Ex.cl hq rfl rfl ?_
      refine Rn.mono (q_6 (d := d + 0) (((s.1 102) + (1 : Int32)) - (1 : Int32)) (sA (sI s 102 ((s.1 102) + (1 : Int32))) 3 (va_cpy f4 (s.2.1 3) ((0 : Int32)).toNatClampNeg (((s.1 102) * (11 : Int32))).toNatClampNeg ((11 : Int32)).toNatClampNeg)) k) ?_
      rintro _ _ ⟨s5, rfl, rfl, k⟩
      show Ex sc (d + 3) 5 32 [.ref 1, .ref (p1 + 118)] [] (hpS s5) _
      refine Ex.seg hq 4 (j := 36) (L' := [.ref 1, .ref (p1 + 118)]) (S' := [.int ((s5.1 102) - (1 : Int32))]) (h' := hpS s5) rfl ?_
      exact Ex.rt hq rfl rfl ⟨((s5.1 102) - (1 : Int32)), s5, rfl, rfl, k⟩
    · have k := k.2 c
      refine Ex.seg hq 1 (j := 9) (L' := [.ref 1, .ref (p1 + 118)]) (S' := [.int (-1 : Int32)]) (h' := hpS s) rfl ?_
      exact Ex.rt hq rfl rfl ⟨(-1 : Int32), s, rfl, rfl, k⟩
/-- RowAuditor$Books.rowAt(I)I -/
def w_8 (p1 : Int32) (s : ST) (K : Int32 → ST → Prop) : Prop := ((p1 < 0 → K (-1 : Int32) s) ∧ (¬ (p1 < 0) → (((s.1 102) ≤ p1 → K (-1 : Int32) s) ∧ (¬ ((s.1 102) ≤ p1) → (pin p1 150 = true ∧ K ((s.2.1 4) (p1).toNatClampNeg) s)))))
theorem q_8 {d : Nat} {K : Int32 → ST → Prop} (p1 : Int32) (s : ST) (k : w_8 p1 s K) : Rn sc (d + 0) 8 [.ref 1, .int p1] (hpS s) (kI K) := by
  have hq : prog[8]? = some pm8 := rfl
  refine Rn.of (L := [.ref 1, .int p1]) hq rfl rfl ?_
  unfold w_8 at k
  refine Ex.seg hq 1 (j := 1) (L' := [.ref 1, .int p1]) (S' := [.int p1]) (h' := hpS s) rfl ?_
  refine Ex.i1 hq rfl (fun c => ?_) (fun c => ?_)
  · have k := k.1 c
    refine Ex.seg hq 1 (j := 12) (L' := [.ref 1, .int p1]) (S' := [.int (-1 : Int32)]) (h' := hpS s) rfl ?_
    exact Ex.rt hq rfl rfl ⟨(-1 : Int32), s, rfl, rfl, k⟩
  · have k := k.2 c
    refine Ex.seg hq 3 (j := 5) (L' := [.ref 1, .int p1]) (S' := [.int (s.1 102), .int p1]) (h' := hpS s) rfl ?_
    refine Ex.i2 hq rfl (fun c => ?_) (fun c => ?_)
    · have k := k.1 c
      refine Ex.seg hq 1 (j := 12) (L' := [.ref 1, .int p1]) (S' := [.int (-1 : Int32)]) (h' := hpS s) rfl ?_
      exact Ex.rt hq rfl rfl ⟨(-1 : Int32), s, rfl, rfl, k⟩
    · have k := k.2 c
      refine Ex.seg hq 3 (j := 9) (L' := [.ref 1, .int p1]) (S' := [.int p1, .ref 4]) (h' := hpS s) rfl ?_
      obtain ⟨hin, k⟩ := k
      refine Ex.ial hq rfl rfl hin ?_
      refine Ex.seg hq 1 (j := 12) (L' := [.ref 1, .int p1]) (S' := [.int ((s.2.1 4) (p1).toNatClampNeg)]) (h' := hpS s) rfl ?_
      exact Ex.rt hq rfl rfl ⟨((s.2.1 4) (p1).toNatClampNeg), s, rfl, rfl, k⟩
/-- RowAuditor$Books.setCleared(I)V -/
def w_10 (p1 : Int32) (s : ST) (K : ST → Prop) : Prop := w_2 p1 s (fun r2 s1 => ((r2 = 0 → K s1) ∧ (¬ (r2 = 0) → (pin ((p1 * (11 : Int32)) + (10 : Int32)) 1650 = true ∧ K (sA s1 3 (upd (s1.2.1 3) (((p1 * (11 : Int32)) + (10 : Int32))).toNatClampNeg (s1.1 100)))))))
theorem q_10 {d : Nat} {K : ST → Prop} (p1 : Int32) (s : ST) (k : w_10 p1 s K) : Rn sc (d + 1) 10 [.ref 1, .int p1] (hpS s) (kV K) := by
  have hq : prog[10]? = some pm10 := rfl
  refine Rn.of (L := [.ref 1, .int p1]) hq rfl rfl ?_
  unfold w_10 at k
  refine Ex.seg hq 2 (j := 2) (L' := [.ref 1, .int p1]) (S' := [.int p1, .ref 1]) (h' := hpS s) rfl ?_
  refine Ex.cl hq rfl rfl ?_
  refine Rn.mono (q_2 (d := d + 0) p1 s k) ?_
  rintro _ _ ⟨r2, s1, rfl, hzr2, rfl, k⟩
  show Ex sc (d + 1) 10 3 [.ref 1, .int p1] [.int r2] (hpS s1) _
  refine Ex.i1 hq rfl (fun c => ?_) (fun c => ?_)
  · have k := k.1 c
    exact Ex.rt hq rfl rfl ⟨s1, rfl, rfl, k⟩
  · have k := k.2 c
    refine Ex.seg hq 9 (j := 13) (L' := [.ref 1, .int p1]) (S' := [.int (s1.1 100), .int ((p1 * (11 : Int32)) + (10 : Int32)), .ref 3]) (h' := hpS s1) rfl ?_
    obtain ⟨hin, k⟩ := k
    refine Ex.ias hq rfl rfl hin (h' := hpS (sA s1 3 (upd (s1.2.1 3) (((p1 * (11 : Int32)) + (10 : Int32))).toNatClampNeg (s1.1 100)))) (hset_3 _ _) ?_
    exact Ex.rt hq rfl rfl ⟨(sA s1 3 (upd (s1.2.1 3) (((p1 * (11 : Int32)) + (10 : Int32))).toNatClampNeg (s1.1 100))), rfl, rfl, k⟩
/-- RowAuditor$Books.addMending(II)V -/
def w_11 (p1 : Int32) (p2 : Int32) (s : ST) (K : ST → Prop) : Prop := (((100 : Int32) ≤ (s.1 103) → K s) ∧ (¬ ((100 : Int32) ≤ (s.1 103)) → (pin (s.1 103) 100 = true ∧ (pin (s.1 103) 100 = true ∧ (pin (s.1 103) 100 = true ∧ K (sA (sA (sA (sI s 103 ((s.1 103) + (1 : Int32))) 5 (upd (s.2.1 5) ((s.1 103)).toNatClampNeg p1)) 6 (upd (s.2.1 6) ((s.1 103)).toNatClampNeg p2)) 7 (upd (s.2.1 7) ((s.1 103)).toNatClampNeg (s.1 100))))))))
theorem q_11 {d : Nat} {K : ST → Prop} (p1 : Int32) (p2 : Int32) (s : ST) (k : w_11 p1 p2 s K) : Rn sc (d + 0) 11 [.ref 1, .int p1, .int p2] (hpS s) (kV K) := by
  have hq : prog[11]? = some pm11 := rfl
  refine Rn.of (L := [.ref 1, .int p1, .int p2]) hq rfl rfl ?_
  unfold w_11 at k
  refine Ex.seg hq 3 (j := 3) (L' := [.ref 1, .int p1, .int p2]) (S' := [.int (100 : Int32), .int (s.1 103)]) (h' := hpS s) rfl ?_
  refine Ex.i2 hq rfl (fun c => ?_) (fun c => ?_)
  · have k := k.1 c
    exact Ex.rt hq rfl rfl ⟨s, rfl, rfl, k⟩
  · have k := k.2 c
    refine Ex.seg hq 5 (j := 9) (L' := [.ref 1, .int p1, .int p2]) (S' := [.int p1, .int (s.1 103), .ref 5]) (h' := hpS s) rfl ?_
    obtain ⟨hin, k⟩ := k
    refine Ex.ias hq rfl rfl hin (h' := hpS (sA s 5 (upd (s.2.1 5) ((s.1 103)).toNatClampNeg p1))) (hset_5 _ _) ?_
    refine Ex.seg hq 5 (j := 15) (L' := [.ref 1, .int p1, .int p2]) (S' := [.int p2, .int (s.1 103), .ref 6]) (h' := hpS (sA s 5 (upd (s.2.1 5) ((s.1 103)).toNatClampNeg p1))) rfl ?_
    obtain ⟨hin, k⟩ := k
    refine Ex.ias hq rfl rfl hin (h' := hpS (sA (sA s 5 (upd (s.2.1 5) ((s.1 103)).toNatClampNeg p1)) 6 (upd (s.2.1 6) ((s.1 103)).toNatClampNeg p2))) (hset_6 _ _) ?_
    refine Ex.seg hq 6 (j := 22) (L' := [.ref 1, .int p1, .int p2]) (S' := [.int (s.1 100), .int (s.1 103), .ref 7]) (h' := hpS (sA (sA s 5 (upd (s.2.1 5) ((s.1 103)).toNatClampNeg p1)) 6 (upd (s.2.1 6) ((s.1 103)).toNatClampNeg p2))) rfl ?_
    obtain ⟨hin, k⟩ := k
    refine Ex.ias hq rfl rfl hin (h' := hpS (sA (sA (sA s 5 (upd (s.2.1 5) ((s.1 103)).toNatClampNeg p1)) 6 (upd (s.2.1 6) ((s.1 103)).toNatClampNeg p2)) 7 (upd (s.2.1 7) ((s.1 103)).toNatClampNeg (s.1 100)))) (hset_7 _ _) ?_
    refine Ex.seg hq 6 (j := 29) (L' := [.ref 1, .int p1, .int p2]) (S' := []) (h' := hpS (sA (sA (sA (sI s 103 ((s.1 103) + (1 : Int32))) 5 (upd (s.2.1 5) ((s.1 103)).toNatClampNeg p1)) 6 (upd (s.2.1 6) ((s.1 103)).toNatClampNeg p2)) 7 (upd (s.2.1 7) ((s.1 103)).toNatClampNeg (s.1 100)))) rfl ?_
    exact Ex.rt hq rfl rfl ⟨(sA (sA (sA (sI s 103 ((s.1 103) + (1 : Int32))) 5 (upd (s.2.1 5) ((s.1 103)).toNatClampNeg p1)) 6 (upd (s.2.1 6) ((s.1 103)).toNatClampNeg p2)) 7 (upd (s.2.1 7) ((s.1 103)).toNatClampNeg (s.1 100))), rfl, rfl, k⟩
/-- RowAuditor$Books.mendedRow(I)I -/
def w_12 (p1 : Int32) (s : ST) (K : Int32 → ST → Prop) : Prop := ((p1 < 0 → K (-1 : Int32) s) ∧ (¬ (p1 < 0) → (((s.1 103) ≤ p1 → K (-1 : Int32) s) ∧ (¬ ((s.1 103) ≤ p1) → (pin p1 100 = true ∧ K ((s.2.1 5) (p1).toNatClampNeg) s)))))
theorem q_12 {d : Nat} {K : Int32 → ST → Prop} (p1 : Int32) (s : ST) (k : w_12 p1 s K) : Rn sc (d + 0) 12 [.ref 1, .int p1] (hpS s) (kI K) := by
  have hq : prog[12]? = some pm12 := rfl
  refine Rn.of (L := [.ref 1, .int p1]) hq rfl rfl ?_
  unfold w_12 at k
  refine Ex.seg hq 1 (j := 1) (L' := [.ref 1, .int p1]) (S' := [.int p1]) (h' := hpS s) rfl ?_
  refine Ex.i1 hq rfl (fun c => ?_) (fun c => ?_)
  · have k := k.1 c
    refine Ex.seg hq 1 (j := 12) (L' := [.ref 1, .int p1]) (S' := [.int (-1 : Int32)]) (h' := hpS s) rfl ?_
    exact Ex.rt hq rfl rfl ⟨(-1 : Int32), s, rfl, rfl, k⟩
  · have k := k.2 c
    refine Ex.seg hq 3 (j := 5) (L' := [.ref 1, .int p1]) (S' := [.int (s.1 103), .int p1]) (h' := hpS s) rfl ?_
    refine Ex.i2 hq rfl (fun c => ?_) (fun c => ?_)
    · have k := k.1 c
      refine Ex.seg hq 1 (j := 12) (L' := [.ref 1, .int p1]) (S' := [.int (-1 : Int32)]) (h' := hpS s) rfl ?_
      exact Ex.rt hq rfl rfl ⟨(-1 : Int32), s, rfl, rfl, k⟩
    · have k := k.2 c
      refine Ex.seg hq 3 (j := 9) (L' := [.ref 1, .int p1]) (S' := [.int p1, .ref 5]) (h' := hpS s) rfl ?_
      obtain ⟨hin, k⟩ := k
      refine Ex.ial hq rfl rfl hin ?_
      refine Ex.seg hq 1 (j := 12) (L' := [.ref 1, .int p1]) (S' := [.int ((s.2.1 5) (p1).toNatClampNeg)]) (h' := hpS s) rfl ?_
      exact Ex.rt hq rfl rfl ⟨((s.2.1 5) (p1).toNatClampNeg), s, rfl, rfl, k⟩
/-- RowAuditor$Books.mendedSum(I)I -/
def w_13 (p1 : Int32) (s : ST) (K : Int32 → ST → Prop) : Prop := ((p1 < 0 → K (0 : Int32) s) ∧ (¬ (p1 < 0) → (((s.1 103) ≤ p1 → K (0 : Int32) s) ∧ (¬ ((s.1 103) ≤ p1) → (pin p1 100 = true ∧ K ((s.2.1 6) (p1).toNatClampNeg) s)))))
theorem q_13 {d : Nat} {K : Int32 → ST → Prop} (p1 : Int32) (s : ST) (k : w_13 p1 s K) : Rn sc (d + 0) 13 [.ref 1, .int p1] (hpS s) (kI K) := by
  have hq : prog[13]? = some pm13 := rfl
  refine Rn.of (L := [.ref 1, .int p1]) hq rfl rfl ?_
  unfold w_13 at k
  refine Ex.seg hq 1 (j := 1) (L' := [.ref 1, .int p1]) (S' := [.int p1]) (h' := hpS s) rfl ?_
  refine Ex.i1 hq rfl (fun c => ?_) (fun c => ?_)
  · have k := k.1 c
    refine Ex.seg hq 1 (j := 12) (L' := [.ref 1, .int p1]) (S' := [.int (0 : Int32)]) (h' := hpS s) rfl ?_
    exact Ex.rt hq rfl rfl ⟨(0 : Int32), s, rfl, rfl, k⟩
  · have k := k.2 c
    refine Ex.seg hq 3 (j := 5) (L' := [.ref 1, .int p1]) (S' := [.int (s.1 103), .int p1]) (h' := hpS s) rfl ?_
    refine Ex.i2 hq rfl (fun c => ?_) (fun c => ?_)
    · have k := k.1 c
      refine Ex.seg hq 1 (j := 12) (L' := [.ref 1, .int p1]) (S' := [.int (0 : Int32)]) (h' := hpS s) rfl ?_
      exact Ex.rt hq rfl rfl ⟨(0 : Int32), s, rfl, rfl, k⟩
    · have k := k.2 c
      refine Ex.seg hq 3 (j := 9) (L' := [.ref 1, .int p1]) (S' := [.int p1, .ref 6]) (h' := hpS s) rfl ?_
      obtain ⟨hin, k⟩ := k
      refine Ex.ial hq rfl rfl hin ?_
      refine Ex.seg hq 1 (j := 12) (L' := [.ref 1, .int p1]) (S' := [.int ((s.2.1 6) (p1).toNatClampNeg)]) (h' := hpS s) rfl ?_
      exact Ex.rt hq rfl rfl ⟨((s.2.1 6) (p1).toNatClampNeg), s, rfl, rfl, k⟩
/-- RowAuditor$Books.mendedDay(I)I -/
def w_14 (p1 : Int32) (s : ST) (K : Int32 → ST → Prop) : Prop := ((p1 < 0 → K (-1 : Int32) s) ∧ (¬ (p1 < 0) → (((s.1 103) ≤ p1 → K (-1 : Int32) s) ∧ (¬ ((s.1 103) ≤ p1) → (pin p1 100 = true ∧ K ((s.2.1 7) (p1).toNatClampNeg) s)))))
theorem q_14 {d : Nat} {K : Int32 → ST → Prop} (p1 : Int32) (s : ST) (k : w_14 p1 s K) : Rn sc (d + 0) 14 [.ref 1, .int p1] (hpS s) (kI K) := by
  have hq : prog[14]? = some pm14 := rfl
  refine Rn.of (L := [.ref 1, .int p1]) hq rfl rfl ?_
  unfold w_14 at k
  refine Ex.seg hq 1 (j := 1) (L' := [.ref 1, .int p1]) (S' := [.int p1]) (h' := hpS s) rfl ?_
  refine Ex.i1 hq rfl (fun c => ?_) (fun c => ?_)
  · have k := k.1 c
    refine Ex.seg hq 1 (j := 12) (L' := [.ref 1, .int p1]) (S' := [.int (-1 : Int32)]) (h' := hpS s) rfl ?_
    exact Ex.rt hq rfl rfl ⟨(-1 : Int32), s, rfl, rfl, k⟩
  · have k := k.2 c
    refine Ex.seg hq 3 (j := 5) (L' := [.ref 1, .int p1]) (S' := [.int (s.1 103), .int p1]) (h' := hpS s) rfl ?_
    refine Ex.i2 hq rfl (fun c => ?_) (fun c => ?_)
    · have k := k.1 c
      refine Ex.seg hq 1 (j := 12) (L' := [.ref 1, .int p1]) (S' := [.int (-1 : Int32)]) (h' := hpS s) rfl ?_
      exact Ex.rt hq rfl rfl ⟨(-1 : Int32), s, rfl, rfl, k⟩
    · have k := k.2 c
      refine Ex.seg hq 3 (j := 9) (L' := [.ref 1, .int p1]) (S' := [.int p1, .ref 7]) (h' := hpS s) rfl ?_
      obtain ⟨hin, k⟩ := k
      refine Ex.ial hq rfl rfl hin ?_
      refine Ex.seg hq 1 (j := 12) (L' := [.ref 1, .int p1]) (S' := [.int ((s.2.1 7) (p1).toNatClampNeg)]) (h' := hpS s) rfl ?_
      exact Ex.rt hq rfl rfl ⟨((s.2.1 7) (p1).toNatClampNeg), s, rfl, rfl, k⟩
/-- RowAuditor$Books.payeeOf(I)I -/
def w_15 (p1 : Int32) (s : ST) (K : Int32 → ST → Prop) : Prop := w_9 p1 (0 : Int32) s (fun r2 s1 => ((r2 = 0 → w_9 p1 (2 : Int32) s1 (fun r4 s3 => K r4 s3)) ∧ (¬ (r2 = 0) → ((¬ r2 = (1 : Int32) → K (-1 : Int32) s1) ∧ (¬ (¬ r2 = (1 : Int32)) → w_9 p1 (2 : Int32) s1 (fun r6 s5 => K r6 s5))))))
theorem q_15 {d : Nat} {K : Int32 → ST → Prop} (p1 : Int32) (s : ST) (k : w_15 p1 s K) : Rn sc (d + 1) 15 [.ref 1, .int p1] (hpS s) (kI K) := by
  have hq : prog[15]? = some pm15 := rfl
  refine Rn.of (L := [.ref 1, .int p1, pu]) hq rfl rfl ?_
  unfold w_15 at k
  refine Ex.seg hq 3 (j := 3) (L' := [.ref 1, .int p1, pu]) (S' := [.int (0 : Int32), .int p1, .ref 1]) (h' := hpS s) rfl ?_
  refine Ex.cl hq rfl rfl ?_
  refine Rn.mono (q_9 (d := d + 0) p1 (0 : Int32) s k) ?_
  rintro _ _ ⟨r2, s1, rfl, rfl, k⟩
  show Ex sc (d + 1) 15 4 [.ref 1, .int p1, pu] [.int r2] (hpS s1) _
  refine Ex.seg hq 2 (j := 6) (L' := [.ref 1, .int p1, .int r2]) (S' := [.int r2]) (h' := hpS s1) rfl ?_
  refine Ex.i1 hq rfl (fun c => ?_) (fun c => ?_)
  · have k := k.1 c
    refine Ex.seg hq 3 (j := 13) (L' := [.ref 1, .int p1, .int r2]) (S' := [.int (2 : Int32), .int p1, .ref 1]) (h' := hpS s1) rfl ?_
    refine Ex.cl hq rfl rfl ?_
    refine Rn.mono (q_9 (d := d + 0) p1 (2 : Int32) s1 k) ?_
    rintro _ _ ⟨r4, s3, rfl, rfl, k⟩
    show Ex sc (d + 1) 15 14 [.ref 1, .int p1, .int r2] [.int r4] (hpS s3) _
    refine Ex.seg hq 1 (j := 16) (L' := [.ref 1, .int p1, .int r2]) (S' := [.int r4]) (h' := hpS s3) rfl ?_
    exact Ex.rt hq rfl rfl ⟨r4, s3, rfl, rfl, k⟩
  · have k := k.2 c
    refine Ex.seg hq 2 (j := 9) (L' := [.ref 1, .int p1, .int r2]) (S' := [.int (1 : Int32), .int r2]) (h' := hpS s1) rfl ?_
    refine Ex.i2 hq rfl (fun c => ?_) (fun c => ?_)
    · have k := k.1 c
      refine Ex.seg hq 1 (j := 16) (L' := [.ref 1, .int p1, .int r2]) (S' := [.int (-1 : Int32)]) (h' := hpS s1) rfl ?_
      exact Ex.rt hq rfl rfl ⟨(-1 : Int32), s1, rfl, rfl, k⟩
    · have k := k.2 c
      refine Ex.seg hq 3 (j := 13) (L' := [.ref 1, .int p1, .int r2]) (S' := [.int (2 : Int32), .int p1, .ref 1]) (h' := hpS s1) rfl ?_
      refine Ex.cl hq rfl rfl ?_
      refine Rn.mono (q_9 (d := d + 0) p1 (2 : Int32) s1 k) ?_
      rintro _ _ ⟨r6, s5, rfl, rfl, k⟩
      show Ex sc (d + 1) 15 14 [.ref 1, .int p1, .int r2] [.int r6] (hpS s5) _
      refine Ex.seg hq 1 (j := 16) (L' := [.ref 1, .int p1, .int r2]) (S' := [.int r6]) (h' := hpS s5) rfl ?_
      exact Ex.rt hq rfl rfl ⟨r6, s5, rfl, rfl, k⟩
/-- RowAuditor$Books.houseInto(I)I -/
def w_16 (p1 : Int32) (s : ST) (K : Int32 → ST → Prop) : Prop := w_9 p1 (0 : Int32) s (fun r2 s1 => ((¬ r2 = (2 : Int32) → K (-1 : Int32) s1) ∧ (¬ (¬ r2 = (2 : Int32)) → w_9 p1 (2 : Int32) s1 (fun r4 s3 => K r4 s3))))
theorem q_16 {d : Nat} {K : Int32 → ST → Prop} (p1 : Int32) (s : ST) (k : w_16 p1 s K) : Rn sc (d + 1) 16 [.ref 1, .int p1] (hpS s) (kI K) := by
  have hq : prog[16]? = some pm16 := rfl
  refine Rn.of (L := [.ref 1, .int p1]) hq rfl rfl ?_
  unfold w_16 at k
  refine Ex.seg hq 3 (j := 3) (L' := [.ref 1, .int p1]) (S' := [.int (0 : Int32), .int p1, .ref 1]) (h' := hpS s) rfl ?_
  refine Ex.cl hq rfl rfl ?_
  refine Rn.mono (q_9 (d := d + 0) p1 (0 : Int32) s k) ?_
  rintro _ _ ⟨r2, s1, rfl, rfl, k⟩
  show Ex sc (d + 1) 16 4 [.ref 1, .int p1] [.int r2] (hpS s1) _
  refine Ex.seg hq 1 (j := 5) (L' := [.ref 1, .int p1]) (S' := [.int (2 : Int32), .int r2]) (h' := hpS s1) rfl ?_
  refine Ex.i2 hq rfl (fun c => ?_) (fun c => ?_)
  · have k := k.1 c
    refine Ex.seg hq 1 (j := 12) (L' := [.ref 1, .int p1]) (S' := [.int (-1 : Int32)]) (h' := hpS s1) rfl ?_
    exact Ex.rt hq rfl rfl ⟨(-1 : Int32), s1, rfl, rfl, k⟩
  · have k := k.2 c
    refine Ex.seg hq 3 (j := 9) (L' := [.ref 1, .int p1]) (S' := [.int (2 : Int32), .int p1, .ref 1]) (h' := hpS s1) rfl ?_
    refine Ex.cl hq rfl rfl ?_
    refine Rn.mono (q_9 (d := d + 0) p1 (2 : Int32) s1 k) ?_
    rintro _ _ ⟨r4, s3, rfl, rfl, k⟩
    show Ex sc (d + 1) 16 10 [.ref 1, .int p1] [.int r4] (hpS s3) _
    refine Ex.seg hq 1 (j := 12) (L' := [.ref 1, .int p1]) (S' := [.int r4]) (h' := hpS s3) rfl ?_
    exact Ex.rt hq rfl rfl ⟨r4, s3, rfl, rfl, k⟩
/-- RowAuditor$Books.direction(II)I -/
def w_17 (p1 : Int32) (p2 : Int32) (s : ST) (K : Int32 → ST → Prop) : Prop := w_16 p1 s (fun r2 s1 => ((¬ r2 = p2 → w_9 p1 (0 : Int32) s1 (fun r4 s3 => w_9 p1 (1 : Int32) s3 (fun r6 s5 => ((¬ r6 = p2 → K (0 : Int32) s5) ∧ (¬ (¬ r6 = p2) → ((¬ r4 = (3 : Int32) → ((¬ r4 = 0 → K (-1 : Int32) s5) ∧ (¬ (¬ r4 = 0) → K (1 : Int32) s5))) ∧ (¬ (¬ r4 = (3 : Int32)) → K (0 : Int32) s5))))))) ∧ (¬ (¬ r2 = p2) → K (1 : Int32) s1)))
theorem q_17 {d : Nat} {K : Int32 → ST → Prop} (p1 : Int32) (p2 : Int32) (s : ST) (k : w_17 p1 p2 s K) : Rn sc (d + 2) 17 [.ref 1, .int p1, .int p2] (hpS s) (kI K) := by
  have hq : prog[17]? = some pm17 := rfl
  refine Rn.of (L := [.ref 1, .int p1, .int p2, pu]) hq rfl rfl ?_
  unfold w_17 at k
  refine Ex.seg hq 2 (j := 2) (L' := [.ref 1, .int p1, .int p2, pu]) (S' := [.int p1, .ref 1]) (h' := hpS s) rfl ?_
  refine Ex.cl hq rfl rfl ?_
  refine Rn.mono (q_16 (d := d + 0) p1 s k) ?_
  rintro _ _ ⟨r2, s1, rfl, rfl, k⟩
  show Ex sc (d + 2) 17 3 [.ref 1, .int p1, .int p2, pu] [.int r2] (hpS s1) _
  refine Ex.seg hq 1 (j := 4) (L' := [.ref 1, .int p1, .int p2, pu]) (S' := [.int p2, .int r2]) (h' := hpS s1) rfl ?_
  refine Ex.i2 hq rfl (fun c => ?_) (fun c => ?_)
  · have k := k.1 c
    refine Ex.seg hq 3 (j := 10) (L' := [.ref 1, .int p1, .int p2, pu]) (S' := [.int (0 : Int32), .int p1, .ref 1]) (h' := hpS s1) rfl ?_
    refine Ex.cl hq rfl rfl ?_
    refine Rn.mono (q_9 (d := d + 1) p1 (0 : Int32) s1 k) ?_
    rintro _ _ ⟨r4, s3, rfl, rfl, k⟩
    show Ex sc (d + 2) 17 11 [.ref 1, .int p1, .int p2, pu] [.int r4] (hpS s3) _
    refine Ex.seg hq 4 (j := 15) (L' := [.ref 1, .int p1, .int p2, .int r4]) (S' := [.int (1 : Int32), .int p1, .ref 1]) (h' := hpS s3) rfl ?_
    refine Ex.cl hq rfl rfl ?_
    refine Rn.mono (q_9 (d := d + 1) p1 (1 : Int32) s3 k) ?_
    rintro _ _ ⟨r6, s5, rfl, rfl, k⟩
    show Ex sc (d + 2) 17 16 [.ref 1, .int p1, .int p2, .int r4] [.int r6] (hpS s5) _
    refine Ex.seg hq 1 (j := 17) (L' := [.ref 1, .int p1, .int p2, .int r4]) (S' := [.int p2, .int r6]) (h' := hpS s5) rfl ?_
    refine Ex.i2 hq rfl (fun c => ?_) (fun c => ?_)
    · have k := k.1 c
      refine Ex.seg hq 1 (j := 22) (L' := [.ref 1, .int p1, .int p2, .int r4]) (S' := [.int (0 : Int32)]) (h' := hpS s5) rfl ?_
      exact Ex.rt hq rfl rfl ⟨(0 : Int32), s5, rfl, rfl, k⟩
    · have k := k.2 c
      refine Ex.seg hq 2 (j := 20) (L' := [.ref 1, .int p1, .int p2, .int r4]) (S' := [.int (3 : Int32), .int r4]) (h' := hpS s5) rfl ?_
      refine Ex.i2 hq rfl (fun c => ?_) (fun c => ?_)
      · have k := k.1 c
        refine Ex.seg hq 1 (j := 24) (L' := [.ref 1, .int p1, .int p2, .int r4]) (S' := [.int r4]) (h' := hpS s5) rfl ?_
        refine Ex.i1 hq rfl (fun c => ?_) (fun c => ?_)
        · have k := k.1 c
          refine Ex.seg hq 1 (j := 28) (L' := [.ref 1, .int p1, .int p2, .int r4]) (S' := [.int (-1 : Int32)]) (h' := hpS s5) rfl ?_
          exact Ex.rt hq rfl rfl ⟨(-1 : Int32), s5, rfl, rfl, k⟩
        · have k := k.2 c
          refine Ex.seg hq 2 (j := 28) (L' := [.ref 1, .int p1, .int p2, .int r4]) (S' := [.int (1 : Int32)]) (h' := hpS s5) rfl ?_
          exact Ex.rt hq rfl rfl ⟨(1 : Int32), s5, rfl, rfl, k⟩
      · have k := k.2 c
        refine Ex.seg hq 1 (j := 22) (L' := [.ref 1, .int p1, .int p2, .int r4]) (S' := [.int (0 : Int32)]) (h' := hpS s5) rfl ?_
        exact Ex.rt hq rfl rfl ⟨(0 : Int32), s5, rfl, rfl, k⟩
  · have k := k.2 c
    refine Ex.seg hq 1 (j := 6) (L' := [.ref 1, .int p1, .int p2, pu]) (S' := [.int (1 : Int32)]) (h' := hpS s1) rfl ?_
    exact Ex.rt hq rfl rfl ⟨(1 : Int32), s1, rfl, rfl, k⟩
/-- RowAuditor$View.sumOf(I)I -/
def w_119 (p1 : Int32) (s : ST) (K : Int32 → ST → Prop) : Prop := ((p1 < 0 → K (0 : Int32) s) ∧ (¬ (p1 < 0) → (((150 : Int32) ≤ p1 → K (0 : Int32) s) ∧ (¬ ((150 : Int32) ≤ p1) → (pin p1 150 = true ∧ K ((s.2.1 9) (p1).toNatClampNeg) s)))))
theorem q_119 {d : Nat} {K : Int32 → ST → Prop} (p1 : Int32) (s : ST) (k : w_119 p1 s K) : Rn sc (d + 0) 119 [.ref 8, .int p1] (hpS s) (kI K) := by
  have hq : prog[119]? = some pm119 := rfl
  refine Rn.of (L := [.ref 8, .int p1]) hq rfl rfl ?_
  unfold w_119 at k
  refine Ex.seg hq 1 (j := 1) (L' := [.ref 8, .int p1]) (S' := [.int p1]) (h' := hpS s) rfl ?_
  refine Ex.i1 hq rfl (fun c => ?_) (fun c => ?_)
  · have k := k.1 c
    refine Ex.seg hq 1 (j := 11) (L' := [.ref 8, .int p1]) (S' := [.int (0 : Int32)]) (h' := hpS s) rfl ?_
    exact Ex.rt hq rfl rfl ⟨(0 : Int32), s, rfl, rfl, k⟩
  · have k := k.2 c
    refine Ex.seg hq 2 (j := 4) (L' := [.ref 8, .int p1]) (S' := [.int (150 : Int32), .int p1]) (h' := hpS s) rfl ?_
    refine Ex.i2 hq rfl (fun c => ?_) (fun c => ?_)
    · have k := k.1 c
      refine Ex.seg hq 1 (j := 11) (L' := [.ref 8, .int p1]) (S' := [.int (0 : Int32)]) (h' := hpS s) rfl ?_
      exact Ex.rt hq rfl rfl ⟨(0 : Int32), s, rfl, rfl, k⟩
    · have k := k.2 c
      refine Ex.seg hq 3 (j := 8) (L' := [.ref 8, .int p1]) (S' := [.int p1, .ref 9]) (h' := hpS s) rfl ?_
      obtain ⟨hin, k⟩ := k
      refine Ex.ial hq rfl rfl hin ?_
      refine Ex.seg hq 1 (j := 11) (L' := [.ref 8, .int p1]) (S' := [.int ((s.2.1 9) (p1).toNatClampNeg)]) (h' := hpS s) rfl ?_
      exact Ex.rt hq rfl rfl ⟨((s.2.1 9) (p1).toNatClampNeg), s, rfl, rfl, k⟩
/-- RowAuditor$View.crowdOf(I)I -/
def w_121 (p1 : Int32) (s : ST) (K : Int32 → ST → Prop) : Prop := ((p1 < 0 → K (0 : Int32) s) ∧ (¬ (p1 < 0) → (((150 : Int32) ≤ p1 → K (0 : Int32) s) ∧ (¬ ((150 : Int32) ≤ p1) → (pin p1 150 = true ∧ K ((s.2.1 12) (p1).toNatClampNeg) s)))))
theorem q_121 {d : Nat} {K : Int32 → ST → Prop} (p1 : Int32) (s : ST) (k : w_121 p1 s K) : Rn sc (d + 0) 121 [.ref 8, .int p1] (hpS s) (kI K) := by
  have hq : prog[121]? = some pm121 := rfl
  refine Rn.of (L := [.ref 8, .int p1]) hq rfl rfl ?_
  unfold w_121 at k
  refine Ex.seg hq 1 (j := 1) (L' := [.ref 8, .int p1]) (S' := [.int p1]) (h' := hpS s) rfl ?_
  refine Ex.i1 hq rfl (fun c => ?_) (fun c => ?_)
  · have k := k.1 c
    refine Ex.seg hq 1 (j := 11) (L' := [.ref 8, .int p1]) (S' := [.int (0 : Int32)]) (h' := hpS s) rfl ?_
    exact Ex.rt hq rfl rfl ⟨(0 : Int32), s, rfl, rfl, k⟩
  · have k := k.2 c
    refine Ex.seg hq 2 (j := 4) (L' := [.ref 8, .int p1]) (S' := [.int (150 : Int32), .int p1]) (h' := hpS s) rfl ?_
    refine Ex.i2 hq rfl (fun c => ?_) (fun c => ?_)
    · have k := k.1 c
      refine Ex.seg hq 1 (j := 11) (L' := [.ref 8, .int p1]) (S' := [.int (0 : Int32)]) (h' := hpS s) rfl ?_
      exact Ex.rt hq rfl rfl ⟨(0 : Int32), s, rfl, rfl, k⟩
    · have k := k.2 c
      refine Ex.seg hq 3 (j := 8) (L' := [.ref 8, .int p1]) (S' := [.int p1, .ref 12]) (h' := hpS s) rfl ?_
      obtain ⟨hin, k⟩ := k
      refine Ex.ial hq rfl rfl hin ?_
      refine Ex.seg hq 1 (j := 11) (L' := [.ref 8, .int p1]) (S' := [.int ((s.2.1 12) (p1).toNatClampNeg)]) (h' := hpS s) rfl ?_
      exact Ex.rt hq rfl rfl ⟨((s.2.1 12) (p1).toNatClampNeg), s, rfl, rfl, k⟩
/-- RowAuditor$View.turnoverOf(I)I -/
def w_122 (p1 : Int32) (s : ST) (K : Int32 → ST → Prop) : Prop := ((p1 < 0 → K (0 : Int32) s) ∧ (¬ (p1 < 0) → (((150 : Int32) ≤ p1 → K (0 : Int32) s) ∧ (¬ ((150 : Int32) ≤ p1) → (pin p1 150 = true ∧ K ((s.2.1 13) (p1).toNatClampNeg) s)))))
theorem q_122 {d : Nat} {K : Int32 → ST → Prop} (p1 : Int32) (s : ST) (k : w_122 p1 s K) : Rn sc (d + 0) 122 [.ref 8, .int p1] (hpS s) (kI K) := by
  have hq : prog[122]? = some pm122 := rfl
  refine Rn.of (L := [.ref 8, .int p1]) hq rfl rfl ?_
  unfold w_122 at k
  refine Ex.seg hq 1 (j := 1) (L' := [.ref 8, .int p1]) (S' := [.int p1]) (h' := hpS s) rfl ?_
  refine Ex.i1 hq rfl (fun c => ?_) (fun c => ?_)
  · have k := k.1 c
    refine Ex.seg hq 1 (j := 11) (L' := [.ref 8, .int p1]) (S' := [.int (0 : Int32)]) (h' := hpS s) rfl ?_
    exact Ex.rt hq rfl rfl ⟨(0 : Int32), s, rfl, rfl, k⟩
  · have k := k.2 c
    refine Ex.seg hq 2 (j := 4) (L' := [.ref 8, .int p1]) (S' := [.int (150 : Int32), .int p1]) (h' := hpS s) rfl ?_
    refine Ex.i2 hq rfl (fun c => ?_) (fun c => ?_)
    · have k := k.1 c
      refine Ex.seg hq 1 (j := 11) (L' := [.ref 8, .int p1]) (S' := [.int (0 : Int32)]) (h' := hpS s) rfl ?_
      exact Ex.rt hq rfl rfl ⟨(0 : Int32), s, rfl, rfl, k⟩
    · have k := k.2 c
      refine Ex.seg hq 3 (j := 8) (L' := [.ref 8, .int p1]) (S' := [.int p1, .ref 13]) (h' := hpS s) rfl ?_
      obtain ⟨hin, k⟩ := k
      refine Ex.ial hq rfl rfl hin ?_
      refine Ex.seg hq 1 (j := 11) (L' := [.ref 8, .int p1]) (S' := [.int ((s.2.1 13) (p1).toNatClampNeg)]) (h' := hpS s) rfl ?_
      exact Ex.rt hq rfl rfl ⟨((s.2.1 13) (p1).toNatClampNeg), s, rfl, rfl, k⟩
/-- RowAuditor$Facts.face(I)V -/
def w_20 (p1 : Int32) (s : ST) (K : ST → Prop) : Prop := w_9 p1 (7 : Int32) s (fun r2 s1 => w_9 p1 (0 : Int32) s1 (fun r4 s3 => (pin (0 : Int32) 13 = true ∧ w_119 p1 (sL s3 17 (vp_updL (s3.2.2.1 17) ((0 : Int32)).toNatClampNeg ((r4).toInt64))) (fun r6 s5 => (pin (1 : Int32) 13 = true ∧ w_9 p1 (3 : Int32) (sL s5 17 (vp_updL (s5.2.2.1 17) ((1 : Int32)).toNatClampNeg ((r6).toInt64))) (fun r8 s7 => (pin (2 : Int32) 13 = true ∧ w_9 p1 (4 : Int32) (sL s7 17 (vp_updL (s7.2.2.1 17) ((2 : Int32)).toNatClampNeg ((r8).toInt64))) (fun r10 s9 => (pin (3 : Int32) 13 = true ∧ w_9 p1 (6 : Int32) (sL s9 17 (vp_updL (s9.2.2.1 17) ((3 : Int32)).toNatClampNeg ((r10).toInt64))) (fun r12 s11 => (pin (4 : Int32) 13 = true ∧ ((¬ r2 = (s11.1 1600) → (pin (5 : Int32) 13 = true ∧ w_9 p1 (1 : Int32) (sL s11 17 (vp_updL (vp_updL (s11.2.2.1 17) ((4 : Int32)).toNatClampNeg ((r12).toInt64)) ((5 : Int32)).toNatClampNeg ((r2).toInt64))) (fun r14 s13 => (pin (6 : Int32) 13 = true ∧ w_16 p1 (sL s13 17 (vp_updL (s13.2.2.1 17) ((6 : Int32)).toNatClampNeg ((r14).toInt64))) (fun r16 s15 => (pin (7 : Int32) 13 = true ∧ w_15 p1 (sL s15 17 (vp_updL (s15.2.2.1 17) ((7 : Int32)).toNatClampNeg ((r16).toInt64))) (fun r18 s17 => (pin (8 : Int32) 13 = true ∧ w_9 p1 (8 : Int32) (sL s17 17 (vp_updL (s17.2.2.1 17) ((8 : Int32)).toNatClampNeg ((r18).toInt64))) (fun r20 s19 => (pin (9 : Int32) 13 = true ∧ w_9 p1 (9 : Int32) (sL s19 17 (vp_updL (s19.2.2.1 17) ((9 : Int32)).toNatClampNeg ((r20).toInt64))) (fun r22 s21 => w_9 p1 (3 : Int32) s21 (fun r24 s23 => (pin (10 : Int32) 13 = true ∧ w_121 p1 (sL s23 17 (vp_updL (s23.2.2.1 17) ((10 : Int32)).toNatClampNeg (((r22 - r24)).toInt64))) (fun r26 s25 => (pin (11 : Int32) 13 = true ∧ w_122 p1 (sL s25 17 (vp_updL (s25.2.2.1 17) ((11 : Int32)).toNatClampNeg ((r26).toInt64))) (fun r28 s27 => (pin (12 : Int32) 13 = true ∧ K (sL s27 17 (vp_updL (s27.2.2.1 17) ((12 : Int32)).toNatClampNeg ((r28).toInt64)))))))))))))))))))) ∧ (¬ (¬ r2 = (s11.1 1600)) → (pin (5 : Int32) 13 = true ∧ w_9 p1 (1 : Int32) (sL s11 17 (vp_updL (vp_updL (s11.2.2.1 17) ((4 : Int32)).toNatClampNeg ((r12).toInt64)) ((5 : Int32)).toNatClampNeg (-1 : Int64))) (fun r30 s29 => (pin (6 : Int32) 13 = true ∧ w_16 p1 (sL s29 17 (vp_updL (s29.2.2.1 17) ((6 : Int32)).toNatClampNeg ((r30).toInt64))) (fun r32 s31 => (pin (7 : Int32) 13 = true ∧ w_15 p1 (sL s31 17 (vp_updL (s31.2.2.1 17) ((7 : Int32)).toNatClampNeg ((r32).toInt64))) (fun r34 s33 => (pin (8 : Int32) 13 = true ∧ w_9 p1 (8 : Int32) (sL s33 17 (vp_updL (s33.2.2.1 17) ((8 : Int32)).toNatClampNeg ((r34).toInt64))) (fun r36 s35 => (pin (9 : Int32) 13 = true ∧ w_9 p1 (9 : Int32) (sL s35 17 (vp_updL (s35.2.2.1 17) ((9 : Int32)).toNatClampNeg ((r36).toInt64))) (fun r38 s37 => w_9 p1 (3 : Int32) s37 (fun r40 s39 => (pin (10 : Int32) 13 = true ∧ w_121 p1 (sL s39 17 (vp_updL (s39.2.2.1 17) ((10 : Int32)).toNatClampNeg (((r38 - r40)).toInt64))) (fun r42 s41 => (pin (11 : Int32) 13 = true ∧ w_122 p1 (sL s41 17 (vp_updL (s41.2.2.1 17) ((11 : Int32)).toNatClampNeg ((r42).toInt64))) (fun r44 s43 => (pin (12 : Int32) 13 = true ∧ K (sL s43 17 (vp_updL (s43.2.2.1 17) ((12 : Int32)).toNatClampNeg ((r44).toInt64))))))))))))))))))))))))))))))))
theorem q_20 {d : Nat} {K : ST → Prop} (p1 : Int32) (s : ST) (k : w_20 p1 s K) : Rn sc (d + 2) 20 [.ref 16, .int p1] (hpS s) (kV K) := by
  have hq : prog[20]? = some pm20 := rfl
  refine Rn.of (L := [.ref 16, .int p1, pu]) hq rfl rfl ?_
  unfold w_20 at k
  refine Ex.seg hq 4 (j := 4) (L' := [.ref 16, .int p1, pu]) (S' := [.int (7 : Int32), .int p1, .ref 1]) (h' := hpS s) rfl ?_
  refine Ex.cl hq rfl rfl ?_
  refine Rn.mono (q_9 (d := d + 1) p1 (7 : Int32) s k) ?_
  rintro _ _ ⟨r2, s1, rfl, rfl, k⟩
  show Ex sc (d + 2) 20 5 [.ref 16, .int p1, pu] [.int r2] (hpS s1) _
  refine Ex.seg hq 8 (j := 13) (L' := [.ref 16, .int p1, .int r2]) (S' := [.int (0 : Int32), .int p1, .ref 1, .int (0 : Int32), .ref 17]) (h' := hpS s1) rfl ?_
  refine Ex.cl hq rfl rfl ?_
  refine Rn.mono (q_9 (d := d + 1) p1 (0 : Int32) s1 k) ?_
  rintro _ _ ⟨r4, s3, rfl, rfl, k⟩
  show Ex sc (d + 2) 20 14 [.ref 16, .int p1, .int r2] [.int r4, .int (0 : Int32), .ref 17] (hpS s3) _
  refine Ex.seg hq 1 (j := 15) (L' := [.ref 16, .int p1, .int r2]) (S' := [.long ((r4).toInt64), .int (0 : Int32), .ref 17]) (h' := hpS s3) rfl ?_
  obtain ⟨hin, k⟩ := k
  refine Ex.las hq rfl rfl hin (h' := hpS (sL s3 17 (vp_updL (s3.2.2.1 17) ((0 : Int32)).toNatClampNeg ((r4).toInt64)))) (hset_17 _ _) ?_
  refine Ex.seg hq 6 (j := 22) (L' := [.ref 16, .int p1, .int r2]) (S' := [.int p1, .ref 8, .int (1 : Int32), .ref 17]) (h' := hpS (sL s3 17 (vp_updL (s3.2.2.1 17) ((0 : Int32)).toNatClampNeg ((r4).toInt64)))) rfl ?_
  refine Ex.cl hq rfl rfl ?_
  refine Rn.mono (q_119 (d := d + 1) p1 (sL s3 17 (vp_updL (s3.2.2.1 17) ((0 : Int32)).toNatClampNeg ((r4).toInt64))) k) ?_
  rintro _ _ ⟨r6, s5, rfl, rfl, k⟩
  show Ex sc (d + 2) 20 23 [.ref 16, .int p1, .int r2] [.int r6, .int (1 : Int32), .ref 17] (hpS s5) _
  refine Ex.seg hq 1 (j := 24) (L' := [.ref 16, .int p1, .int r2]) (S' := [.long ((r6).toInt64), .int (1 : Int32), .ref 17]) (h' := hpS s5) rfl ?_
  obtain ⟨hin, k⟩ := k
  refine Ex.las hq rfl rfl hin (h' := hpS (sL s5 17 (vp_updL (s5.2.2.1 17) ((1 : Int32)).toNatClampNeg ((r6).toInt64)))) (hset_17 _ _) ?_
  refine Ex.seg hq 7 (j := 32) (L' := [.ref 16, .int p1, .int r2]) (S' := [.int (3 : Int32), .int p1, .ref 1, .int (2 : Int32), .ref 17]) (h' := hpS (sL s5 17 (vp_updL (s5.2.2.1 17) ((1 : Int32)).toNatClampNeg ((r6).toInt64)))) rfl ?_
  refine Ex.cl hq rfl rfl ?_
  refine Rn.mono (q_9 (d := d + 1) p1 (3 : Int32) (sL s5 17 (vp_updL (s5.2.2.1 17) ((1 : Int32)).toNatClampNeg ((r6).toInt64))) k) ?_
  rintro _ _ ⟨r8, s7, rfl, rfl, k⟩
  show Ex sc (d + 2) 20 33 [.ref 16, .int p1, .int r2] [.int r8, .int (2 : Int32), .ref 17] (hpS s7) _
  refine Ex.seg hq 1 (j := 34) (L' := [.ref 16, .int p1, .int r2]) (S' := [.long ((r8).toInt64), .int (2 : Int32), .ref 17]) (h' := hpS s7) rfl ?_
  obtain ⟨hin, k⟩ := k
  refine Ex.las hq rfl rfl hin (h' := hpS (sL s7 17 (vp_updL (s7.2.2.1 17) ((2 : Int32)).toNatClampNeg ((r8).toInt64)))) (hset_17 _ _) ?_
  refine Ex.seg hq 7 (j := 42) (L' := [.ref 16, .int p1, .int r2]) (S' := [.int (4 : Int32), .int p1, .ref 1, .int (3 : Int32), .ref 17]) (h' := hpS (sL s7 17 (vp_updL (s7.2.2.1 17) ((2 : Int32)).toNatClampNeg ((r8).toInt64)))) rfl ?_
  refine Ex.cl hq rfl rfl ?_
  refine Rn.mono (q_9 (d := d + 1) p1 (4 : Int32) (sL s7 17 (vp_updL (s7.2.2.1 17) ((2 : Int32)).toNatClampNeg ((r8).toInt64))) k) ?_
  rintro _ _ ⟨r10, s9, rfl, rfl, k⟩
  show Ex sc (d + 2) 20 43 [.ref 16, .int p1, .int r2] [.int r10, .int (3 : Int32), .ref 17] (hpS s9) _
  refine Ex.seg hq 1 (j := 44) (L' := [.ref 16, .int p1, .int r2]) (S' := [.long ((r10).toInt64), .int (3 : Int32), .ref 17]) (h' := hpS s9) rfl ?_
  obtain ⟨hin, k⟩ := k
  refine Ex.las hq rfl rfl hin (h' := hpS (sL s9 17 (vp_updL (s9.2.2.1 17) ((3 : Int32)).toNatClampNeg ((r10).toInt64)))) (hset_17 _ _) ?_
  refine Ex.seg hq 7 (j := 52) (L' := [.ref 16, .int p1, .int r2]) (S' := [.int (6 : Int32), .int p1, .ref 1, .int (4 : Int32), .ref 17]) (h' := hpS (sL s9 17 (vp_updL (s9.2.2.1 17) ((3 : Int32)).toNatClampNeg ((r10).toInt64)))) rfl ?_
  refine Ex.cl hq rfl rfl ?_
  refine Rn.mono (q_9 (d := d + 1) p1 (6 : Int32) (sL s9 17 (vp_updL (s9.2.2.1 17) ((3 : Int32)).toNatClampNeg ((r10).toInt64))) k) ?_
  rintro _ _ ⟨r12, s11, rfl, rfl, k⟩
  show Ex sc (d + 2) 20 53 [.ref 16, .int p1, .int r2] [.int r12, .int (4 : Int32), .ref 17] (hpS s11) _
  refine Ex.seg hq 1 (j := 54) (L' := [.ref 16, .int p1, .int r2]) (S' := [.long ((r12).toInt64), .int (4 : Int32), .ref 17]) (h' := hpS s11) rfl ?_
  obtain ⟨hin, k⟩ := k
  refine Ex.las hq rfl rfl hin (h' := hpS (sL s11 17 (vp_updL (s11.2.2.1 17) ((4 : Int32)).toNatClampNeg ((r12).toInt64)))) (hset_17 _ _) ?_
  refine Ex.seg hq 6 (j := 61) (L' := [.ref 16, .int p1, .int r2]) (S' := [.int (s11.1 1600), .int r2, .int (5 : Int32), .ref 17]) (h' := hpS (sL s11 17 (vp_updL (s11.2.2.1 17) ((4 : Int32)).toNatClampNeg ((r12).toInt64)))) rfl ?_
  refine Ex.i2 hq rfl (fun c => ?_) (fun c => ?_)
  · have k := k.1 c
    refine Ex.seg hq 2 (j := 66) (L' := [.ref 16, .int p1, .int r2]) (S' := [.long ((r2).toInt64), .int (5 : Int32), .ref 17]) (h' := hpS (sL s11 17 (vp_updL (s11.2.2.1 17) ((4 : Int32)).toNatClampNeg ((r12).toInt64)))) rfl ?_
    obtain ⟨hin, k⟩ := k
    refine Ex.las hq rfl rfl hin (h' := hpS (sL s11 17 (vp_updL (vp_updL (s11.2.2.1 17) ((4 : Int32)).toNatClampNeg ((r12).toInt64)) ((5 : Int32)).toNatClampNeg ((r2).toInt64)))) (hset_17 _ _) ?_
    refine Ex.seg hq 7 (j := 74) (L' := [.ref 16, .int p1, .int r2]) (S' := [.int (1 : Int32), .int p1, .ref 1, .int (6 : Int32), .ref 17]) (h' := hpS (sL s11 17 (vp_updL (vp_updL (s11.2.2.1 17) ((4 : Int32)).toNatClampNeg ((r12).toInt64)) ((5 : Int32)).toNatClampNeg ((r2).toInt64)))) rfl ?_
    refine Ex.cl hq rfl rfl ?_
    refine Rn.mono (q_9 (d := d + 1) p1 (1 : Int32) (sL s11 17 (vp_updL (vp_updL (s11.2.2.1 17) ((4 : Int32)).toNatClampNeg ((r12).toInt64)) ((5 : Int32)).toNatClampNeg ((r2).toInt64))) k) ?_
    rintro _ _ ⟨r14, s13, rfl, rfl, k⟩
    show Ex sc (d + 2) 20 75 [.ref 16, .int p1, .int r2] [.int r14, .int (6 : Int32), .ref 17] (hpS s13) _
    refine Ex.seg hq 1 (j := 76) (L' := [.ref 16, .int p1, .int r2]) (S' := [.long ((r14).toInt64), .int (6 : Int32), .ref 17]) (h' := hpS s13) rfl ?_
    obtain ⟨hin, k⟩ := k
    refine Ex.las hq rfl rfl hin (h' := hpS (sL s13 17 (vp_updL (s13.2.2.1 17) ((6 : Int32)).toNatClampNeg ((r14).toInt64)))) (hset_17 _ _) ?_
    refine Ex.seg hq 6 (j := 83) (L' := [.ref 16, .int p1, .int r2]) (S' := [.int p1, .ref 1, .int (7 : Int32), .ref 17]) (h' := hpS (sL s13 17 (vp_updL (s13.2.2.1 17) ((6 : Int32)).toNatClampNeg ((r14).toInt64)))) rfl ?_
    refine Ex.cl hq rfl rfl ?_
    refine Rn.mono (q_16 (d := d + 0) p1 (sL s13 17 (vp_updL (s13.2.2.1 17) ((6 : Int32)).toNatClampNeg ((r14).toInt64))) k) ?_
    rintro _ _ ⟨r16, s15, rfl, rfl, k⟩
    show Ex sc (d + 2) 20 84 [.ref 16, .int p1, .int r2] [.int r16, .int (7 : Int32), .ref 17] (hpS s15) _
    refine Ex.seg hq 1 (j := 85) (L' := [.ref 16, .int p1, .int r2]) (S' := [.long ((r16).toInt64), .int (7 : Int32), .ref 17]) (h' := hpS s15) rfl ?_
    obtain ⟨hin, k⟩ := k
    refine Ex.las hq rfl rfl hin (h' := hpS (sL s15 17 (vp_updL (s15.2.2.1 17) ((7 : Int32)).toNatClampNeg ((r16).toInt64)))) (hset_17 _ _) ?_
    refine Ex.seg hq 6 (j := 92) (L' := [.ref 16, .int p1, .int r2]) (S' := [.int p1, .ref 1, .int (8 : Int32), .ref 17]) (h' := hpS (sL s15 17 (vp_updL (s15.2.2.1 17) ((7 : Int32)).toNatClampNeg ((r16).toInt64)))) rfl ?_
    refine Ex.cl hq rfl rfl ?_
    refine Rn.mono (q_15 (d := d + 0) p1 (sL s15 17 (vp_updL (s15.2.2.1 17) ((7 : Int32)).toNatClampNeg ((r16).toInt64))) k) ?_
    rintro _ _ ⟨r18, s17, rfl, rfl, k⟩
    show Ex sc (d + 2) 20 93 [.ref 16, .int p1, .int r2] [.int r18, .int (8 : Int32), .ref 17] (hpS s17) _
    refine Ex.seg hq 1 (j := 94) (L' := [.ref 16, .int p1, .int r2]) (S' := [.long ((r18).toInt64), .int (8 : Int32), .ref 17]) (h' := hpS s17) rfl ?_
    obtain ⟨hin, k⟩ := k
    refine Ex.las hq rfl rfl hin (h' := hpS (sL s17 17 (vp_updL (s17.2.2.1 17) ((8 : Int32)).toNatClampNeg ((r18).toInt64)))) (hset_17 _ _) ?_
    refine Ex.seg hq 7 (j := 102) (L' := [.ref 16, .int p1, .int r2]) (S' := [.int (8 : Int32), .int p1, .ref 1, .int (9 : Int32), .ref 17]) (h' := hpS (sL s17 17 (vp_updL (s17.2.2.1 17) ((8 : Int32)).toNatClampNeg ((r18).toInt64)))) rfl ?_
    refine Ex.cl hq rfl rfl ?_
    refine Rn.mono (q_9 (d := d + 1) p1 (8 : Int32) (sL s17 17 (vp_updL (s17.2.2.1 17) ((8 : Int32)).toNatClampNeg ((r18).toInt64))) k) ?_
    rintro _ _ ⟨r20, s19, rfl, rfl, k⟩
    show Ex sc (d + 2) 20 103 [.ref 16, .int p1, .int r2] [.int r20, .int (9 : Int32), .ref 17] (hpS s19) _
    refine Ex.seg hq 1 (j := 104) (L' := [.ref 16, .int p1, .int r2]) (S' := [.long ((r20).toInt64), .int (9 : Int32), .ref 17]) (h' := hpS s19) rfl ?_
    obtain ⟨hin, k⟩ := k
    refine Ex.las hq rfl rfl hin (h' := hpS (sL s19 17 (vp_updL (s19.2.2.1 17) ((9 : Int32)).toNatClampNeg ((r20).toInt64)))) (hset_17 _ _) ?_
    refine Ex.seg hq 7 (j := 112) (L' := [.ref 16, .int p1, .int r2]) (S' := [.int (9 : Int32), .int p1, .ref 1, .int (10 : Int32), .ref 17]) (h' := hpS (sL s19 17 (vp_updL (s19.2.2.1 17) ((9 : Int32)).toNatClampNeg ((r20).toInt64)))) rfl ?_
    refine Ex.cl hq rfl rfl ?_
    refine Rn.mono (q_9 (d := d + 1) p1 (9 : Int32) (sL s19 17 (vp_updL (s19.2.2.1 17) ((9 : Int32)).toNatClampNeg ((r20).toInt64))) k) ?_
    rintro _ _ ⟨r22, s21, rfl, rfl, k⟩
    show Ex sc (d + 2) 20 113 [.ref 16, .int p1, .int r2] [.int r22, .int (10 : Int32), .ref 17] (hpS s21) _
    refine Ex.seg hq 4 (j := 117) (L' := [.ref 16, .int p1, .int r2]) (S' := [.int (3 : Int32), .int p1, .ref 1, .int r22, .int (10 : Int32), .ref 17]) (h' := hpS s21) rfl ?_
    refine Ex.cl hq rfl rfl ?_
    refine Rn.mono (q_9 (d := d + 1) p1 (3 : Int32) s21 k) ?_
    rintro _ _ ⟨r24, s23, rfl, rfl, k⟩
    show Ex sc (d + 2) 20 118 [.ref 16, .int p1, .int r2] [.int r24, .int r22, .int (10 : Int32), .ref 17] (hpS s23) _
    refine Ex.seg hq 2 (j := 120) (L' := [.ref 16, .int p1, .int r2]) (S' := [.long (((r22 - r24)).toInt64), .int (10 : Int32), .ref 17]) (h' := hpS s23) rfl ?_
    obtain ⟨hin, k⟩ := k
    refine Ex.las hq rfl rfl hin (h' := hpS (sL s23 17 (vp_updL (s23.2.2.1 17) ((10 : Int32)).toNatClampNeg (((r22 - r24)).toInt64)))) (hset_17 _ _) ?_
    refine Ex.seg hq 6 (j := 127) (L' := [.ref 16, .int p1, .int r2]) (S' := [.int p1, .ref 8, .int (11 : Int32), .ref 17]) (h' := hpS (sL s23 17 (vp_updL (s23.2.2.1 17) ((10 : Int32)).toNatClampNeg (((r22 - r24)).toInt64)))) rfl ?_
    refine Ex.cl hq rfl rfl ?_
    refine Rn.mono (q_121 (d := d + 1) p1 (sL s23 17 (vp_updL (s23.2.2.1 17) ((10 : Int32)).toNatClampNeg (((r22 - r24)).toInt64))) k) ?_
    rintro _ _ ⟨r26, s25, rfl, rfl, k⟩
    show Ex sc (d + 2) 20 128 [.ref 16, .int p1, .int r2] [.int r26, .int (11 : Int32), .ref 17] (hpS s25) _
    refine Ex.seg hq 1 (j := 129) (L' := [.ref 16, .int p1, .int r2]) (S' := [.long ((r26).toInt64), .int (11 : Int32), .ref 17]) (h' := hpS s25) rfl ?_
    obtain ⟨hin, k⟩ := k
    refine Ex.las hq rfl rfl hin (h' := hpS (sL s25 17 (vp_updL (s25.2.2.1 17) ((11 : Int32)).toNatClampNeg ((r26).toInt64)))) (hset_17 _ _) ?_
    refine Ex.seg hq 6 (j := 136) (L' := [.ref 16, .int p1, .int r2]) (S' := [.int p1, .ref 8, .int (12 : Int32), .ref 17]) (h' := hpS (sL s25 17 (vp_updL (s25.2.2.1 17) ((11 : Int32)).toNatClampNeg ((r26).toInt64)))) rfl ?_
    refine Ex.cl hq rfl rfl ?_
    refine Rn.mono (q_122 (d := d + 1) p1 (sL s25 17 (vp_updL (s25.2.2.1 17) ((11 : Int32)).toNatClampNeg ((r26).toInt64))) k) ?_
    rintro _ _ ⟨r28, s27, rfl, rfl, k⟩
    show Ex sc (d + 2) 20 137 [.ref 16, .int p1, .int r2] [.int r28, .int (12 : Int32), .ref 17] (hpS s27) _
    refine Ex.seg hq 1 (j := 138) (L' := [.ref 16, .int p1, .int r2]) (S' := [.long ((r28).toInt64), .int (12 : Int32), .ref 17]) (h' := hpS s27) rfl ?_
    obtain ⟨hin, k⟩ := k
    refine Ex.las hq rfl rfl hin (h' := hpS (sL s27 17 (vp_updL (s27.2.2.1 17) ((12 : Int32)).toNatClampNeg ((r28).toInt64)))) (hset_17 _ _) ?_
    exact Ex.rt hq rfl rfl ⟨(sL s27 17 (vp_updL (s27.2.2.1 17) ((12 : Int32)).toNatClampNeg ((r28).toInt64))), rfl, rfl, k⟩
  · have k := k.2 c
    refine Ex.seg hq 2 (j := 66) (L' := [.ref 16, .int p1, .int r2]) (S' := [.long (-1 : Int64), .int (5 : Int32), .ref 17]) (h' := hpS (sL s11 17 (vp_updL (s11.2.2.1 17) ((4 : Int32)).toNatClampNeg ((r12).toInt64)))) rfl ?_
    obtain ⟨hin, k⟩ := k
    refine Ex.las hq rfl rfl hin (h' := hpS (sL s11 17 (vp_updL (vp_updL (s11.2.2.1 17) ((4 : Int32)).toNatClampNeg ((r12).toInt64)) ((5 : Int32)).toNatClampNeg (-1 : Int64)))) (hset_17 _ _) ?_
    refine Ex.seg hq 7 (j := 74) (L' := [.ref 16, .int p1, .int r2]) (S' := [.int (1 : Int32), .int p1, .ref 1, .int (6 : Int32), .ref 17]) (h' := hpS (sL s11 17 (vp_updL (vp_updL (s11.2.2.1 17) ((4 : Int32)).toNatClampNeg ((r12).toInt64)) ((5 : Int32)).toNatClampNeg (-1 : Int64)))) rfl ?_
    refine Ex.cl hq rfl rfl ?_
    refine Rn.mono (q_9 (d := d + 1) p1 (1 : Int32) (sL s11 17 (vp_updL (vp_updL (s11.2.2.1 17) ((4 : Int32)).toNatClampNeg ((r12).toInt64)) ((5 : Int32)).toNatClampNeg (-1 : Int64))) k) ?_
    rintro _ _ ⟨r30, s29, rfl, rfl, k⟩
    show Ex sc (d + 2) 20 75 [.ref 16, .int p1, .int r2] [.int r30, .int (6 : Int32), .ref 17] (hpS s29) _
    refine Ex.seg hq 1 (j := 76) (L' := [.ref 16, .int p1, .int r2]) (S' := [.long ((r30).toInt64), .int (6 : Int32), .ref 17]) (h' := hpS s29) rfl ?_
    obtain ⟨hin, k⟩ := k
    refine Ex.las hq rfl rfl hin (h' := hpS (sL s29 17 (vp_updL (s29.2.2.1 17) ((6 : Int32)).toNatClampNeg ((r30).toInt64)))) (hset_17 _ _) ?_
    refine Ex.seg hq 6 (j := 83) (L' := [.ref 16, .int p1, .int r2]) (S' := [.int p1, .ref 1, .int (7 : Int32), .ref 17]) (h' := hpS (sL s29 17 (vp_updL (s29.2.2.1 17) ((6 : Int32)).toNatClampNeg ((r30).toInt64)))) rfl ?_
    refine Ex.cl hq rfl rfl ?_
    refine Rn.mono (q_16 (d := d + 0) p1 (sL s29 17 (vp_updL (s29.2.2.1 17) ((6 : Int32)).toNatClampNeg ((r30).toInt64))) k) ?_
    rintro _ _ ⟨r32, s31, rfl, rfl, k⟩
    show Ex sc (d + 2) 20 84 [.ref 16, .int p1, .int r2] [.int r32, .int (7 : Int32), .ref 17] (hpS s31) _
    refine Ex.seg hq 1 (j := 85) (L' := [.ref 16, .int p1, .int r2]) (S' := [.long ((r32).toInt64), .int (7 : Int32), .ref 17]) (h' := hpS s31) rfl ?_
    obtain ⟨hin, k⟩ := k
    refine Ex.las hq rfl rfl hin (h' := hpS (sL s31 17 (vp_updL (s31.2.2.1 17) ((7 : Int32)).toNatClampNeg ((r32).toInt64)))) (hset_17 _ _) ?_
    refine Ex.seg hq 6 (j := 92) (L' := [.ref 16, .int p1, .int r2]) (S' := [.int p1, .ref 1, .int (8 : Int32), .ref 17]) (h' := hpS (sL s31 17 (vp_updL (s31.2.2.1 17) ((7 : Int32)).toNatClampNeg ((r32).toInt64)))) rfl ?_
    refine Ex.cl hq rfl rfl ?_
    refine Rn.mono (q_15 (d := d + 0) p1 (sL s31 17 (vp_updL (s31.2.2.1 17) ((7 : Int32)).toNatClampNeg ((r32).toInt64))) k) ?_
    rintro _ _ ⟨r34, s33, rfl, rfl, k⟩
    show Ex sc (d + 2) 20 93 [.ref 16, .int p1, .int r2] [.int r34, .int (8 : Int32), .ref 17] (hpS s33) _
    refine Ex.seg hq 1 (j := 94) (L' := [.ref 16, .int p1, .int r2]) (S' := [.long ((r34).toInt64), .int (8 : Int32), .ref 17]) (h' := hpS s33) rfl ?_
    obtain ⟨hin, k⟩ := k
    refine Ex.las hq rfl rfl hin (h' := hpS (sL s33 17 (vp_updL (s33.2.2.1 17) ((8 : Int32)).toNatClampNeg ((r34).toInt64)))) (hset_17 _ _) ?_
    refine Ex.seg hq 7 (j := 102) (L' := [.ref 16, .int p1, .int r2]) (S' := [.int (8 : Int32), .int p1, .ref 1, .int (9 : Int32), .ref 17]) (h' := hpS (sL s33 17 (vp_updL (s33.2.2.1 17) ((8 : Int32)).toNatClampNeg ((r34).toInt64)))) rfl ?_
    refine Ex.cl hq rfl rfl ?_
    refine Rn.mono (q_9 (d := d + 1) p1 (8 : Int32) (sL s33 17 (vp_updL (s33.2.2.1 17) ((8 : Int32)).toNatClampNeg ((r34).toInt64))) k) ?_
    rintro _ _ ⟨r36, s35, rfl, rfl, k⟩
    show Ex sc (d + 2) 20 103 [.ref 16, .int p1, .int r2] [.int r36, .int (9 : Int32), .ref 17] (hpS s35) _
    refine Ex.seg hq 1 (j := 104) (L' := [.ref 16, .int p1, .int r2]) (S' := [.long ((r36).toInt64), .int (9 : Int32), .ref 17]) (h' := hpS s35) rfl ?_
    obtain ⟨hin, k⟩ := k
    refine Ex.las hq rfl rfl hin (h' := hpS (sL s35 17 (vp_updL (s35.2.2.1 17) ((9 : Int32)).toNatClampNeg ((r36).toInt64)))) (hset_17 _ _) ?_
    refine Ex.seg hq 7 (j := 112) (L' := [.ref 16, .int p1, .int r2]) (S' := [.int (9 : Int32), .int p1, .ref 1, .int (10 : Int32), .ref 17]) (h' := hpS (sL s35 17 (vp_updL (s35.2.2.1 17) ((9 : Int32)).toNatClampNeg ((r36).toInt64)))) rfl ?_
    refine Ex.cl hq rfl rfl ?_
    refine Rn.mono (q_9 (d := d + 1) p1 (9 : Int32) (sL s35 17 (vp_updL (s35.2.2.1 17) ((9 : Int32)).toNatClampNeg ((r36).toInt64))) k) ?_
    rintro _ _ ⟨r38, s37, rfl, rfl, k⟩
    show Ex sc (d + 2) 20 113 [.ref 16, .int p1, .int r2] [.int r38, .int (10 : Int32), .ref 17] (hpS s37) _
    refine Ex.seg hq 4 (j := 117) (L' := [.ref 16, .int p1, .int r2]) (S' := [.int (3 : Int32), .int p1, .ref 1, .int r38, .int (10 : Int32), .ref 17]) (h' := hpS s37) rfl ?_
    refine Ex.cl hq rfl rfl ?_
    refine Rn.mono (q_9 (d := d + 1) p1 (3 : Int32) s37 k) ?_
    rintro _ _ ⟨r40, s39, rfl, rfl, k⟩
    show Ex sc (d + 2) 20 118 [.ref 16, .int p1, .int r2] [.int r40, .int r38, .int (10 : Int32), .ref 17] (hpS s39) _
    refine Ex.seg hq 2 (j := 120) (L' := [.ref 16, .int p1, .int r2]) (S' := [.long (((r38 - r40)).toInt64), .int (10 : Int32), .ref 17]) (h' := hpS s39) rfl ?_
    obtain ⟨hin, k⟩ := k
    refine Ex.las hq rfl rfl hin (h' := hpS (sL s39 17 (vp_updL (s39.2.2.1 17) ((10 : Int32)).toNatClampNeg (((r38 - r40)).toInt64)))) (hset_17 _ _) ?_
    refine Ex.seg hq 6 (j := 127) (L' := [.ref 16, .int p1, .int r2]) (S' := [.int p1, .ref 8, .int (11 : Int32), .ref 17]) (h' := hpS (sL s39 17 (vp_updL (s39.2.2.1 17) ((10 : Int32)).toNatClampNeg (((r38 - r40)).toInt64)))) rfl ?_
    refine Ex.cl hq rfl rfl ?_
    refine Rn.mono (q_121 (d := d + 1) p1 (sL s39 17 (vp_updL (s39.2.2.1 17) ((10 : Int32)).toNatClampNeg (((r38 - r40)).toInt64))) k) ?_
    rintro _ _ ⟨r42, s41, rfl, rfl, k⟩
    show Ex sc (d + 2) 20 128 [.ref 16, .int p1, .int r2] [.int r42, .int (11 : Int32), .ref 17] (hpS s41) _
    refine Ex.seg hq 1 (j := 129) (L' := [.ref 16, .int p1, .int r2]) (S' := [.long ((r42).toInt64), .int (11 : Int32), .ref 17]) (h' := hpS s41) rfl ?_
    obtain ⟨hin, k⟩ := k
    refine Ex.las hq rfl rfl hin (h' := hpS (sL s41 17 (vp_updL (s41.2.2.1 17) ((11 : Int32)).toNatClampNeg ((r42).toInt64)))) (hset_17 _ _) ?_
    refine Ex.seg hq 6 (j := 136) (L' := [.ref 16, .int p1, .int r2]) (S' := [.int p1, .ref 8, .int (12 : Int32), .ref 17]) (h' := hpS (sL s41 17 (vp_updL (s41.2.2.1 17) ((11 : Int32)).toNatClampNeg ((r42).toInt64)))) rfl ?_
    refine Ex.cl hq rfl rfl ?_
    refine Rn.mono (q_122 (d := d + 1) p1 (sL s41 17 (vp_updL (s41.2.2.1 17) ((11 : Int32)).toNatClampNeg ((r42).toInt64))) k) ?_
    rintro _ _ ⟨r44, s43, rfl, rfl, k⟩
    show Ex sc (d + 2) 20 137 [.ref 16, .int p1, .int r2] [.int r44, .int (12 : Int32), .ref 17] (hpS s43) _
    refine Ex.seg hq 1 (j := 138) (L' := [.ref 16, .int p1, .int r2]) (S' := [.long ((r44).toInt64), .int (12 : Int32), .ref 17]) (h' := hpS s43) rfl ?_
    obtain ⟨hin, k⟩ := k
    refine Ex.las hq rfl rfl hin (h' := hpS (sL s43 17 (vp_updL (s43.2.2.1 17) ((12 : Int32)).toNatClampNeg ((r44).toInt64)))) (hset_17 _ _) ?_
    exact Ex.rt hq rfl rfl ⟨(sL s43 17 (vp_updL (s43.2.2.1 17) ((12 : Int32)).toNatClampNeg ((r44).toInt64))), rfl, rfl, k⟩
/-- RowAuditor$Facts.letter(I)J -/
def w_22 (p1 : Int32) (s : ST) (K : Int64 → ST → Prop) : Prop := ((p1 < 0 → K (0 : Int64) s) ∧ (¬ (p1 < 0) → (((Int32.ofNat 13) ≤ p1 → K (0 : Int64) s) ∧ (¬ ((Int32.ofNat 13) ≤ p1) → (pin p1 13 = true ∧ K ((s.2.2.1 17) (p1).toNatClampNeg) s)))))
theorem q_22 {d : Nat} {K : Int64 → ST → Prop} (p1 : Int32) (s : ST) (k : w_22 p1 s K) : Rn sc (d + 0) 22 [.ref 16, .int p1] (hpS s) (kJ K) := by
  have hq : prog[22]? = some pm22 := rfl
  refine Rn.of (L := [.ref 16, .int p1]) hq rfl rfl ?_
  unfold w_22 at k
  refine Ex.seg hq 1 (j := 1) (L' := [.ref 16, .int p1]) (S' := [.int p1]) (h' := hpS s) rfl ?_
  refine Ex.i1 hq rfl (fun c => ?_) (fun c => ?_)
  · have k := k.1 c
    refine Ex.seg hq 1 (j := 13) (L' := [.ref 16, .int p1]) (S' := [.long (0 : Int64)]) (h' := hpS s) rfl ?_
    exact Ex.rt hq rfl rfl ⟨(0 : Int64), s, rfl, rfl, k⟩
  · have k := k.2 c
    refine Ex.seg hq 4 (j := 6) (L' := [.ref 16, .int p1]) (S' := [.int (Int32.ofNat 13), .int p1]) (h' := hpS s) rfl ?_
    refine Ex.i2 hq rfl (fun c => ?_) (fun c => ?_)
    · have k := k.1 c
      refine Ex.seg hq 1 (j := 13) (L' := [.ref 16, .int p1]) (S' := [.long (0 : Int64)]) (h' := hpS s) rfl ?_
      exact Ex.rt hq rfl rfl ⟨(0 : Int64), s, rfl, rfl, k⟩
    · have k := k.2 c
      refine Ex.seg hq 3 (j := 10) (L' := [.ref 16, .int p1]) (S' := [.int p1, .ref 17]) (h' := hpS s) rfl ?_
      obtain ⟨hin, k⟩ := k
      refine Ex.lal hq rfl rfl hin ?_
      refine Ex.seg hq 1 (j := 13) (L' := [.ref 16, .int p1]) (S' := [.long ((s.2.2.1 17) (p1).toNatClampNeg)]) (h' := hpS s) rfl ?_
      exact Ex.rt hq rfl rfl ⟨((s.2.2.1 17) (p1).toNatClampNeg), s, rfl, rfl, k⟩
/-- RowAuditor$Facts.isRefused(IJ)Z -/
def w_23 (p0 : Int32) (p1 : Int64) (s : ST) (K : Int32 → ST → Prop) : Prop := ((¬ (lg_cmp p1 (0 : Int64)) = 0 → K (0 : Int32) s) ∧ (¬ (¬ (lg_cmp p1 (0 : Int64)) = 0) → ((p0 = (8 : Int32) → K (1 : Int32) s) ∧ (¬ (p0 = (8 : Int32)) → ((¬ p0 = (9 : Int32) → K (0 : Int32) s) ∧ (¬ (¬ p0 = (9 : Int32)) → K (1 : Int32) s))))))
theorem q_23 {d : Nat} {K : Int32 → ST → Prop} (p0 : Int32) (p1 : Int64) (s : ST) (k : w_23 p0 p1 s K) : Rn sc (d + 0) 23 [.int p0, .long p1] (hpS s) (kZ K) := by
  have hq : prog[23]? = some pm23 := rfl
  refine Rn.of (L := [.int p0, .long p1, pu]) hq rfl rfl ?_
  unfold w_23 at k
  refine Ex.seg hq 3 (j := 3) (L' := [.int p0, .long p1, pu]) (S' := [.int (lg_cmp p1 (0 : Int64))]) (h' := hpS s) rfl ?_
  refine Ex.i1 hq rfl (fun c => ?_) (fun c => ?_)
  · have k := k.1 c
    refine Ex.seg hq 1 (j := 13) (L' := [.int p0, .long p1, pu]) (S' := [.int (0 : Int32)]) (h' := hpS s) rfl ?_
    exact Ex.zr hq rfl rfl (Or.inl rfl) ⟨(0 : Int32), s, rfl, (Or.inl rfl), rfl, k⟩
  · have k := k.2 c
    refine Ex.seg hq 2 (j := 6) (L' := [.int p0, .long p1, pu]) (S' := [.int (8 : Int32), .int p0]) (h' := hpS s) rfl ?_
    refine Ex.i2 hq rfl (fun c => ?_) (fun c => ?_)
    · have k := k.1 c
      refine Ex.seg hq 2 (j := 13) (L' := [.int p0, .long p1, pu]) (S' := [.int (1 : Int32)]) (h' := hpS s) rfl ?_
      exact Ex.zr hq rfl rfl (Or.inr rfl) ⟨(1 : Int32), s, rfl, (Or.inr rfl), rfl, k⟩
    · have k := k.2 c
      refine Ex.seg hq 2 (j := 9) (L' := [.int p0, .long p1, pu]) (S' := [.int (9 : Int32), .int p0]) (h' := hpS s) rfl ?_
      refine Ex.i2 hq rfl (fun c => ?_) (fun c => ?_)
      · have k := k.1 c
        refine Ex.seg hq 1 (j := 13) (L' := [.int p0, .long p1, pu]) (S' := [.int (0 : Int32)]) (h' := hpS s) rfl ?_
        exact Ex.zr hq rfl rfl (Or.inl rfl) ⟨(0 : Int32), s, rfl, (Or.inl rfl), rfl, k⟩
      · have k := k.2 c
        refine Ex.seg hq 2 (j := 13) (L' := [.int p0, .long p1, pu]) (S' := [.int (1 : Int32)]) (h' := hpS s) rfl ?_
        exact Ex.zr hq rfl rfl (Or.inr rfl) ⟨(1 : Int32), s, rfl, (Or.inr rfl), rfl, k⟩
/-- RowAuditor$Facts.reckon(IJJ)J -/
def w_24 (p0 : Int32) (p1 : Int64) (p2 : Int64) (s : ST) (K : Int64 → ST → Prop) : Prop := (((p0).toInt < 5 ∨ 11 < (p0).toInt → ((¬ (lg_cmp p1 p2) = 0 → K (0 : Int64) s) ∧ (¬ (¬ (lg_cmp p1 p2) = 0) → K (1 : Int64) s))) ∧ (p0 = (5 : Int32) → K (p1 + p2) s) ∧ (p0 = (6 : Int32) → K (p1 - p2) s) ∧ (p0 = (7 : Int32) → K (p1 * p2) s) ∧ (p0 = (8 : Int32) → ((¬ (lg_cmp p2 (0 : Int64)) = 0 → (¬ p2 = 0 ∧ K (p1 / p2) s)) ∧ (¬ (¬ (lg_cmp p2 (0 : Int64)) = 0) → K (0 : Int64) s))) ∧ (p0 = (9 : Int32) → ((¬ (lg_cmp p2 (0 : Int64)) = 0 → (¬ p2 = 0 ∧ K (p1 - p1 / p2 * p2) s)) ∧ (¬ (¬ (lg_cmp p2 (0 : Int64)) = 0) → K (0 : Int64) s))) ∧ (p0 = (10 : Int32) → ((0 ≤ (lg_cmp p1 p2) → K (0 : Int64) s) ∧ (¬ (0 ≤ (lg_cmp p1 p2)) → K (1 : Int64) s))) ∧ (p0 = (11 : Int32) → (((lg_cmp p1 p2) ≤ 0 → K (0 : Int64) s) ∧ (¬ ((lg_cmp p1 p2) ≤ 0) → K (1 : Int64) s))))
theorem q_24 {d : Nat} {K : Int64 → ST → Prop} (p0 : Int32) (p1 : Int64) (p2 : Int64) (s : ST) (k : w_24 p0 p1 p2 s K) : Rn sc (d + 0) 24 [.int p0, .long p1, .long p2] (hpS s) (kJ K) := by
  have hq : prog[24]? = some pm24 := rfl
  refine Rn.of (L := [.int p0, .long p1, pu, .long p2, pu]) hq rfl rfl ?_
  unfold w_24 at k
  refine Ex.seg hq 1 (j := 1) (L' := [.int p0, .long p1, pu, .long p2, pu]) (S' := [.int p0]) (h' := hpS s) rfl ?_
  refine Ex.tsw hq rfl (fun c => ?_) (fun t c ht => ?_) (by decide)
  · have k := k.1 c
    refine Ex.seg hq 3 (j := 53) (L' := [.int p0, .long p1, pu, .long p2, pu]) (S' := [.int (lg_cmp p1 p2)]) (h' := hpS s) rfl ?_
    refine Ex.i1 hq rfl (fun c => ?_) (fun c => ?_)
    · have k := k.1 c
      refine Ex.seg hq 1 (j := 57) (L' := [.int p0, .long p1, pu, .long p2, pu]) (S' := [.long (0 : Int64)]) (h' := hpS s) rfl ?_
      exact Ex.rt hq rfl rfl ⟨(0 : Int64), s, rfl, rfl, k⟩
    · have k := k.2 c
      refine Ex.seg hq 2 (j := 57) (L' := [.int p0, .long p1, pu, .long p2, pu]) (S' := [.long (1 : Int64)]) (h' := hpS s) rfl ?_
      exact Ex.rt hq rfl rfl ⟨(1 : Int64), s, rfl, rfl, k⟩
  · have k := k.2
    rcases (show (p0).toInt = 5 ∨ (p0).toInt = 6 ∨ (p0).toInt = 7 ∨ (p0).toInt = 8 ∨ (p0).toInt = 9 ∨ (p0).toInt = 10 ∨ (p0).toInt = 11 by omega) with e | e | e | e | e | e | e
    · have cx : p0 = (5 : Int32) := Int32.toInt_inj.mp (by rw [e]; rfl)
      have k := k.1 cx
      rw [e] at ht
      have ht : (some 2 : Option Nat) = some t := ht
      cases ht
      refine Ex.seg hq 3 (j := 5) (L' := [.int p0, .long p1, pu, .long p2, pu]) (S' := [.long (p1 + p2)]) (h' := hpS s) rfl ?_
      exact Ex.rt hq rfl rfl ⟨(p1 + p2), s, rfl, rfl, k⟩
    · have cx : p0 = (6 : Int32) := Int32.toInt_inj.mp (by rw [e]; rfl)
      have k := k.2.1 cx
      rw [e] at ht
      have ht : (some 6 : Option Nat) = some t := ht
      cases ht
      refine Ex.seg hq 3 (j := 9) (L' := [.int p0, .long p1, pu, .long p2, pu]) (S' := [.long (p1 - p2)]) (h' := hpS s) rfl ?_
      exact Ex.rt hq rfl rfl ⟨(p1 - p2), s, rfl, rfl, k⟩
    · have cx : p0 = (7 : Int32) := Int32.toInt_inj.mp (by rw [e]; rfl)
      have k := k.2.2.1 cx
      rw [e] at ht
      have ht : (some 10 : Option Nat) = some t := ht
      cases ht
      refine Ex.seg hq 3 (j := 13) (L' := [.int p0, .long p1, pu, .long p2, pu]) (S' := [.long (p1 * p2)]) (h' := hpS s) rfl ?_
      exact Ex.rt hq rfl rfl ⟨(p1 * p2), s, rfl, rfl, k⟩
    · have cx : p0 = (8 : Int32) := Int32.toInt_inj.mp (by rw [e]; rfl)
      have k := k.2.2.2.1 cx
      rw [e] at ht
      have ht : (some 14 : Option Nat) = some t := ht
      cases ht
      refine Ex.seg hq 3 (j := 17) (L' := [.int p0, .long p1, pu, .long p2, pu]) (S' := [.int (lg_cmp p2 (0 : Int64))]) (h' := hpS s) rfl ?_
      refine Ex.i1 hq rfl (fun c => ?_) (fun c => ?_)
      · have k := k.1 c
        refine Ex.seg hq 2 (j := 22) (L' := [.int p0, .long p1, pu, .long p2, pu]) (S' := [.long p2, .long p1]) (h' := hpS s) rfl ?_
        obtain ⟨hz, k⟩ := k
        refine Ex.ldv hq rfl hz ?_
        exact Ex.rt hq rfl rfl ⟨(p1 / p2), s, rfl, rfl, k⟩
      · have k := k.2 c
        refine Ex.seg hq 2 (j := 23) (L' := [.int p0, .long p1, pu, .long p2, pu]) (S' := [.long (0 : Int64)]) (h' := hpS s) rfl ?_
        exact Ex.rt hq rfl rfl ⟨(0 : Int64), s, rfl, rfl, k⟩
    · have cx : p0 = (9 : Int32) := Int32.toInt_inj.mp (by rw [e]; rfl)
      have k := k.2.2.2.2.1 cx
      rw [e] at ht
      have ht : (some 24 : Option Nat) = some t := ht
      cases ht
      refine Ex.seg hq 3 (j := 27) (L' := [.int p0, .long p1, pu, .long p2, pu]) (S' := [.int (lg_cmp p2 (0 : Int64))]) (h' := hpS s) rfl ?_
      refine Ex.i1 hq rfl (fun c => ?_) (fun c => ?_)
      · have k := k.1 c
        refine Ex.seg hq 2 (j := 32) (L' := [.int p0, .long p1, pu, .long p2, pu]) (S' := [.long p2, .long p1]) (h' := hpS s) rfl ?_
        obtain ⟨hz, k⟩ := k
        refine Ex.lrm hq rfl hz ?_
        exact Ex.rt hq rfl rfl ⟨(p1 - p1 / p2 * p2), s, rfl, rfl, k⟩
      · have k := k.2 c
        refine Ex.seg hq 2 (j := 33) (L' := [.int p0, .long p1, pu, .long p2, pu]) (S' := [.long (0 : Int64)]) (h' := hpS s) rfl ?_
        exact Ex.rt hq rfl rfl ⟨(0 : Int64), s, rfl, rfl, k⟩
    · have cx : p0 = (10 : Int32) := Int32.toInt_inj.mp (by rw [e]; rfl)
      have k := k.2.2.2.2.2.1 cx
      rw [e] at ht
      have ht : (some 34 : Option Nat) = some t := ht
      cases ht
      refine Ex.seg hq 3 (j := 37) (L' := [.int p0, .long p1, pu, .long p2, pu]) (S' := [.int (lg_cmp p1 p2)]) (h' := hpS s) rfl ?_
      refine Ex.i1 hq rfl (fun c => ?_) (fun c => ?_)
      · have k := k.1 c
        refine Ex.seg hq 1 (j := 41) (L' := [.int p0, .long p1, pu, .long p2, pu]) (S' := [.long (0 : Int64)]) (h' := hpS s) rfl ?_
        exact Ex.rt hq rfl rfl ⟨(0 : Int64), s, rfl, rfl, k⟩
      · have k := k.2 c
        refine Ex.seg hq 2 (j := 41) (L' := [.int p0, .long p1, pu, .long p2, pu]) (S' := [.long (1 : Int64)]) (h' := hpS s) rfl ?_
        exact Ex.rt hq rfl rfl ⟨(1 : Int64), s, rfl, rfl, k⟩
    · have cx : p0 = (11 : Int32) := Int32.toInt_inj.mp (by rw [e]; rfl)
      have k := k.2.2.2.2.2.2 cx
      rw [e] at ht
      have ht : (some 42 : Option Nat) = some t := ht
      cases ht
      refine Ex.seg hq 3 (j := 45) (L' := [.int p0, .long p1, pu, .long p2, pu]) (S' := [.int (lg_cmp p1 p2)]) (h' := hpS s) rfl ?_
      refine Ex.i1 hq rfl (fun c => ?_) (fun c => ?_)
      · have k := k.1 c
        refine Ex.seg hq 1 (j := 49) (L' := [.int p0, .long p1, pu, .long p2, pu]) (S' := [.long (0 : Int64)]) (h' := hpS s) rfl ?_
        exact Ex.rt hq rfl rfl ⟨(0 : Int64), s, rfl, rfl, k⟩
      · have k := k.2 c
        refine Ex.seg hq 2 (j := 49) (L' := [.int p0, .long p1, pu, .long p2, pu]) (S' := [.long (1 : Int64)]) (h' := hpS s) rfl ?_
        exact Ex.rt hq rfl rfl ⟨(1 : Int64), s, rfl, rfl, k⟩
end WP
