/-! ===== weakest preconditions ===== -/
section WP
variable {sc : Nat × (Nat → Int32)}
/-- RowAuditor$Books.isHouse(I)Z -/
def w_1 (p0 : Int32) (s : ST) (K : Int32 → ST → Prop) : Prop := ((p0 < 0 → K (0 : Int32) s) ∧ (¬ (p0 < 0) → (((s.1 101) ≤ p0 → K (0 : Int32) s) ∧ (¬ ((s.1 101) ≤ p0) → K (1 : Int32) s))))
theorem q_1 {d : Nat} {K : Int32 → ST → Prop} (p0 : Int32) (s : ST) (k : w_1 p0 s K) : Rn sc (d + 0) 1 [.ref 1, .int p0] (hpS s) (kZ K) := by
  have hq : prog[1]? = some pm1 := rfl
  refine Rn.of (L := [.ref 1, .int p0]) hq rfl rfl ?_
  unfold w_1 at k
  refine Ex.seg hq 1 (j := 1) (L' := [.ref 1, .int p0]) (S' := [.int p0]) (h' := hpS s) rfl ?_
  refine Ex.i1 hq rfl (fun c => ?_) (fun c => ?_)
  · have k := k.1 c
    refine Ex.seg hq 1 (j := 9) (L' := [.ref 1, .int p0]) (S' := [.int (0 : Int32)]) (h' := hpS s) rfl ?_
    exact Ex.zr hq rfl rfl (Or.inl rfl) ⟨(0 : Int32), s, rfl, (Or.inl rfl), rfl, k⟩
  · have k := k.2 c
    refine Ex.seg hq 3 (j := 5) (L' := [.ref 1, .int p0]) (S' := [.int (s.1 101), .int p0]) (h' := hpS s) rfl ?_
    refine Ex.i2 hq rfl (fun c => ?_) (fun c => ?_)
    · have k := k.1 c
      refine Ex.seg hq 1 (j := 9) (L' := [.ref 1, .int p0]) (S' := [.int (0 : Int32)]) (h' := hpS s) rfl ?_
      exact Ex.zr hq rfl rfl (Or.inl rfl) ⟨(0 : Int32), s, rfl, (Or.inl rfl), rfl, k⟩
    · have k := k.2 c
      refine Ex.seg hq 2 (j := 9) (L' := [.ref 1, .int p0]) (S' := [.int (1 : Int32)]) (h' := hpS s) rfl ?_
      exact Ex.zr hq rfl rfl (Or.inr rfl) ⟨(1 : Int32), s, rfl, (Or.inr rfl), rfl, k⟩
/-- RowAuditor$Books.isRow(I)Z -/
def w_2 (p0 : Int32) (s : ST) (K : Int32 → ST → Prop) : Prop := ((p0 < 0 → K (0 : Int32) s) ∧ (¬ (p0 < 0) → (((s.1 102) ≤ p0 → K (0 : Int32) s) ∧ (¬ ((s.1 102) ≤ p0) → K (1 : Int32) s))))
theorem q_2 {d : Nat} {K : Int32 → ST → Prop} (p0 : Int32) (s : ST) (k : w_2 p0 s K) : Rn sc (d + 0) 2 [.ref 1, .int p0] (hpS s) (kZ K) := by
  have hq : prog[2]? = some pm2 := rfl
  refine Rn.of (L := [.ref 1, .int p0]) hq rfl rfl ?_
  unfold w_2 at k
  refine Ex.seg hq 1 (j := 1) (L' := [.ref 1, .int p0]) (S' := [.int p0]) (h' := hpS s) rfl ?_
  refine Ex.i1 hq rfl (fun c => ?_) (fun c => ?_)
  · have k := k.1 c
    refine Ex.seg hq 1 (j := 9) (L' := [.ref 1, .int p0]) (S' := [.int (0 : Int32)]) (h' := hpS s) rfl ?_
    exact Ex.zr hq rfl rfl (Or.inl rfl) ⟨(0 : Int32), s, rfl, (Or.inl rfl), rfl, k⟩
  · have k := k.2 c
    refine Ex.seg hq 3 (j := 5) (L' := [.ref 1, .int p0]) (S' := [.int (s.1 102), .int p0]) (h' := hpS s) rfl ?_
    refine Ex.i2 hq rfl (fun c => ?_) (fun c => ?_)
    · have k := k.1 c
      refine Ex.seg hq 1 (j := 9) (L' := [.ref 1, .int p0]) (S' := [.int (0 : Int32)]) (h' := hpS s) rfl ?_
      exact Ex.zr hq rfl rfl (Or.inl rfl) ⟨(0 : Int32), s, rfl, (Or.inl rfl), rfl, k⟩
    · have k := k.2 c
      refine Ex.seg hq 2 (j := 9) (L' := [.ref 1, .int p0]) (S' := [.int (1 : Int32)]) (h' := hpS s) rfl ?_
      exact Ex.zr hq rfl rfl (Or.inr rfl) ⟨(1 : Int32), s, rfl, (Or.inr rfl), rfl, k⟩
/-- RowAuditor$Books.addHouse(I)I -/
def w_3 (p0 : Int32) (s : ST) (K : Int32 → ST → Prop) : Prop := (((s.1 101) < (10 : Int32) → (pin (s.1 101) 10 = true ∧ K (((s.1 101) + (1 : Int32)) - (1 : Int32)) (sA (sI s 101 ((s.1 101) + (1 : Int32))) 2 (upd (s.2.1 2) ((s.1 101)).toNatClampNeg p0)))) ∧ (¬ ((s.1 101) < (10 : Int32)) → K (-1 : Int32) s))
theorem q_3 {d : Nat} {K : Int32 → ST → Prop} (p0 : Int32) (s : ST) (k : w_3 p0 s K) : Rn sc (d + 0) 3 [.ref 1, .int p0] (hpS s) (kI K) := by
  have hq : prog[3]? = some pm3 := rfl
  refine Rn.of (L := [.ref 1, .int p0]) hq rfl rfl ?_
  unfold w_3 at k
  refine Ex.seg hq 3 (j := 3) (L' := [.ref 1, .int p0]) (S' := [.int (10 : Int32), .int (s.1 101)]) (h' := hpS s) rfl ?_
  refine Ex.i2 hq rfl (fun c => ?_) (fun c => ?_)
  · have k := k.1 c
    refine Ex.seg hq 5 (j := 11) (L' := [.ref 1, .int p0]) (S' := [.int p0, .int (s.1 101), .ref 2]) (h' := hpS s) rfl ?_
    obtain ⟨hin, k⟩ := k
    refine Ex.ias hq rfl rfl hin (h' := hpS (sA s 2 (upd (s.2.1 2) ((s.1 101)).toNatClampNeg p0))) rfl ?_
    refine Ex.seg hq 10 (j := 22) (L' := [.ref 1, .int p0]) (S' := [.int (((s.1 101) + (1 : Int32)) - (1 : Int32))]) (h' := hpS (sA (sI s 101 ((s.1 101) + (1 : Int32))) 2 (upd (s.2.1 2) ((s.1 101)).toNatClampNeg p0))) rfl ?_
    exact Ex.rt hq rfl rfl ⟨(((s.1 101) + (1 : Int32)) - (1 : Int32)), (sA (sI s 101 ((s.1 101) + (1 : Int32))) 2 (upd (s.2.1 2) ((s.1 101)).toNatClampNeg p0)), rfl, rfl, k⟩
  · have k := k.2 c
    refine Ex.seg hq 1 (j := 5) (L' := [.ref 1, .int p0]) (S' := [.int (-1 : Int32)]) (h' := hpS s) rfl ?_
    exact Ex.rt hq rfl rfl ⟨(-1 : Int32), s, rfl, rfl, k⟩
/-- RowAuditor$Books.atFirst(I)I -/
def w_4 (p0 : Int32) (s : ST) (K : Int32 → ST → Prop) : Prop := ((p0 < 0 → K (0 : Int32) s) ∧ (¬ (p0 < 0) → (((s.1 101) ≤ p0 → K (0 : Int32) s) ∧ (¬ ((s.1 101) ≤ p0) → (pin p0 10 = true ∧ K ((s.2.1 2) (p0).toNatClampNeg) s)))))
theorem q_4 {d : Nat} {K : Int32 → ST → Prop} (p0 : Int32) (s : ST) (k : w_4 p0 s K) : Rn sc (d + 0) 4 [.ref 1, .int p0] (hpS s) (kI K) := by
  have hq : prog[4]? = some pm4 := rfl
  refine Rn.of (L := [.ref 1, .int p0]) hq rfl rfl ?_
  unfold w_4 at k
  refine Ex.seg hq 1 (j := 1) (L' := [.ref 1, .int p0]) (S' := [.int p0]) (h' := hpS s) rfl ?_
  refine Ex.i1 hq rfl (fun c => ?_) (fun c => ?_)
  · have k := k.1 c
    refine Ex.seg hq 1 (j := 12) (L' := [.ref 1, .int p0]) (S' := [.int (0 : Int32)]) (h' := hpS s) rfl ?_
    exact Ex.rt hq rfl rfl ⟨(0 : Int32), s, rfl, rfl, k⟩
  · have k := k.2 c
    refine Ex.seg hq 3 (j := 5) (L' := [.ref 1, .int p0]) (S' := [.int (s.1 101), .int p0]) (h' := hpS s) rfl ?_
    refine Ex.i2 hq rfl (fun c => ?_) (fun c => ?_)
    · have k := k.1 c
      refine Ex.seg hq 1 (j := 12) (L' := [.ref 1, .int p0]) (S' := [.int (0 : Int32)]) (h' := hpS s) rfl ?_
      exact Ex.rt hq rfl rfl ⟨(0 : Int32), s, rfl, rfl, k⟩
    · have k := k.2 c
      refine Ex.seg hq 3 (j := 9) (L' := [.ref 1, .int p0]) (S' := [.int p0, .ref 2]) (h' := hpS s) rfl ?_
      obtain ⟨hin, k⟩ := k
      refine Ex.ial hq rfl rfl hin ?_
      refine Ex.seg hq 1 (j := 12) (L' := [.ref 1, .int p0]) (S' := [.int ((s.2.1 2) (p0).toNatClampNeg)]) (h' := hpS s) rfl ?_
      exact Ex.rt hq rfl rfl ⟨((s.2.1 2) (p0).toNatClampNeg), s, rfl, rfl, k⟩
/-- RowAuditor$Books.rowAt(I)I -/
def w_8 (p0 : Int32) (s : ST) (K : Int32 → ST → Prop) : Prop := ((p0 < 0 → K (-1 : Int32) s) ∧ (¬ (p0 < 0) → (((s.1 102) ≤ p0 → K (-1 : Int32) s) ∧ (¬ ((s.1 102) ≤ p0) → (pin p0 150 = true ∧ K ((s.2.1 4) (p0).toNatClampNeg) s)))))
theorem q_8 {d : Nat} {K : Int32 → ST → Prop} (p0 : Int32) (s : ST) (k : w_8 p0 s K) : Rn sc (d + 0) 8 [.ref 1, .int p0] (hpS s) (kI K) := by
  have hq : prog[8]? = some pm8 := rfl
  refine Rn.of (L := [.ref 1, .int p0]) hq rfl rfl ?_
  unfold w_8 at k
  refine Ex.seg hq 1 (j := 1) (L' := [.ref 1, .int p0]) (S' := [.int p0]) (h' := hpS s) rfl ?_
  refine Ex.i1 hq rfl (fun c => ?_) (fun c => ?_)
  · have k := k.1 c
    refine Ex.seg hq 1 (j := 12) (L' := [.ref 1, .int p0]) (S' := [.int (-1 : Int32)]) (h' := hpS s) rfl ?_
    exact Ex.rt hq rfl rfl ⟨(-1 : Int32), s, rfl, rfl, k⟩
  · have k := k.2 c
    refine Ex.seg hq 3 (j := 5) (L' := [.ref 1, .int p0]) (S' := [.int (s.1 102), .int p0]) (h' := hpS s) rfl ?_
    refine Ex.i2 hq rfl (fun c => ?_) (fun c => ?_)
    · have k := k.1 c
      refine Ex.seg hq 1 (j := 12) (L' := [.ref 1, .int p0]) (S' := [.int (-1 : Int32)]) (h' := hpS s) rfl ?_
      exact Ex.rt hq rfl rfl ⟨(-1 : Int32), s, rfl, rfl, k⟩
    · have k := k.2 c
      refine Ex.seg hq 3 (j := 9) (L' := [.ref 1, .int p0]) (S' := [.int p0, .ref 4]) (h' := hpS s) rfl ?_
      obtain ⟨hin, k⟩ := k
      refine Ex.ial hq rfl rfl hin ?_
      refine Ex.seg hq 1 (j := 12) (L' := [.ref 1, .int p0]) (S' := [.int ((s.2.1 4) (p0).toNatClampNeg)]) (h' := hpS s) rfl ?_
      exact Ex.rt hq rfl rfl ⟨((s.2.1 4) (p0).toNatClampNeg), s, rfl, rfl, k⟩
/-- RowAuditor$Books.cell(II)I -/
def w_9 (p0 : Int32) (p1 : Int32) (s : ST) (K : Int32 → ST → Prop) : Prop := ((p0 < 0 → K (-1 : Int32) s) ∧ (¬ (p0 < 0) → (((s.1 102) ≤ p0 → K (-1 : Int32) s) ∧ (¬ ((s.1 102) ≤ p0) → ((p1 < 0 → K (-1 : Int32) s) ∧ (¬ (p1 < 0) → (((11 : Int32) ≤ p1 → K (-1 : Int32) s) ∧ (¬ ((11 : Int32) ≤ p1) → (pin ((p0 * (11 : Int32)) + p1) 1650 = true ∧ K ((s.2.1 3) (((p0 * (11 : Int32)) + p1)).toNatClampNeg) s)))))))))
theorem q_9 {d : Nat} {K : Int32 → ST → Prop} (p0 : Int32) (p1 : Int32) (s : ST) (k : w_9 p0 p1 s K) : Rn sc (d + 0) 9 [.ref 1, .int p0, .int p1] (hpS s) (kI K) := by
  have hq : prog[9]? = some pm9 := rfl
  refine Rn.of (L := [.ref 1, .int p0, .int p1]) hq rfl rfl ?_
  unfold w_9 at k
  refine Ex.seg hq 1 (j := 1) (L' := [.ref 1, .int p0, .int p1]) (S' := [.int p0]) (h' := hpS s) rfl ?_
  refine Ex.i1 hq rfl (fun c => ?_) (fun c => ?_)
  · have k := k.1 c
    refine Ex.seg hq 1 (j := 21) (L' := [.ref 1, .int p0, .int p1]) (S' := [.int (-1 : Int32)]) (h' := hpS s) rfl ?_
    exact Ex.rt hq rfl rfl ⟨(-1 : Int32), s, rfl, rfl, k⟩
  · have k := k.2 c
    refine Ex.seg hq 3 (j := 5) (L' := [.ref 1, .int p0, .int p1]) (S' := [.int (s.1 102), .int p0]) (h' := hpS s) rfl ?_
    refine Ex.i2 hq rfl (fun c => ?_) (fun c => ?_)
    · have k := k.1 c
      refine Ex.seg hq 1 (j := 21) (L' := [.ref 1, .int p0, .int p1]) (S' := [.int (-1 : Int32)]) (h' := hpS s) rfl ?_
      exact Ex.rt hq rfl rfl ⟨(-1 : Int32), s, rfl, rfl, k⟩
    · have k := k.2 c
      refine Ex.seg hq 1 (j := 7) (L' := [.ref 1, .int p0, .int p1]) (S' := [.int p1]) (h' := hpS s) rfl ?_
      refine Ex.i1 hq rfl (fun c => ?_) (fun c => ?_)
      · have k := k.1 c
        refine Ex.seg hq 1 (j := 21) (L' := [.ref 1, .int p0, .int p1]) (S' := [.int (-1 : Int32)]) (h' := hpS s) rfl ?_
        exact Ex.rt hq rfl rfl ⟨(-1 : Int32), s, rfl, rfl, k⟩
      · have k := k.2 c
        refine Ex.seg hq 2 (j := 10) (L' := [.ref 1, .int p0, .int p1]) (S' := [.int (11 : Int32), .int p1]) (h' := hpS s) rfl ?_
        refine Ex.i2 hq rfl (fun c => ?_) (fun c => ?_)
        · have k := k.1 c
          refine Ex.seg hq 1 (j := 21) (L' := [.ref 1, .int p0, .int p1]) (S' := [.int (-1 : Int32)]) (h' := hpS s) rfl ?_
          exact Ex.rt hq rfl rfl ⟨(-1 : Int32), s, rfl, rfl, k⟩
        · have k := k.2 c
          refine Ex.seg hq 7 (j := 18) (L' := [.ref 1, .int p0, .int p1]) (S' := [.int ((p0 * (11 : Int32)) + p1), .ref 3]) (h' := hpS s) rfl ?_
          obtain ⟨hin, k⟩ := k
          refine Ex.ial hq rfl rfl hin ?_
          refine Ex.seg hq 1 (j := 21) (L' := [.ref 1, .int p0, .int p1]) (S' := [.int ((s.2.1 3) (((p0 * (11 : Int32)) + p1)).toNatClampNeg)]) (h' := hpS s) rfl ?_
          exact Ex.rt hq rfl rfl ⟨((s.2.1 3) (((p0 * (11 : Int32)) + p1)).toNatClampNeg), s, rfl, rfl, k⟩
/-- RowAuditor$Books.setCleared(I)V -/
def w_10 (p0 : Int32) (s : ST) (K : ST → Prop) : Prop := w_2 p0 s (fun r2 s1 => ((r2 = 0 → K s1) ∧ (¬ (r2 = 0) → (pin ((p0 * (11 : Int32)) + (10 : Int32)) 1650 = true ∧ K (sA s1 3 (upd (s1.2.1 3) (((p0 * (11 : Int32)) + (10 : Int32))).toNatClampNeg (s1.1 100)))))))
theorem q_10 {d : Nat} {K : ST → Prop} (p0 : Int32) (s : ST) (k : w_10 p0 s K) : Rn sc (d + 1) 10 [.ref 1, .int p0] (hpS s) (kV K) := by
  have hq : prog[10]? = some pm10 := rfl
  refine Rn.of (L := [.ref 1, .int p0]) hq rfl rfl ?_
  unfold w_10 at k
  refine Ex.seg hq 2 (j := 2) (L' := [.ref 1, .int p0]) (S' := [.int p0, .ref 1]) (h' := hpS s) rfl ?_
  refine Ex.cl hq rfl rfl ?_
  refine Rn.mono (q_2 (d := d + 0) p0 s k) ?_
  rintro _ _ ⟨r2, s1, rfl, hzr2, rfl, k⟩
  show Ex sc (d + 1) 10 3 [.ref 1, .int p0] [.int r2] (hpS s1) _
  refine Ex.i1 hq rfl (fun c => ?_) (fun c => ?_)
  · have k := k.1 c
    exact Ex.rt hq rfl rfl ⟨s1, rfl, rfl, k⟩
  · have k := k.2 c
    refine Ex.seg hq 9 (j := 13) (L' := [.ref 1, .int p0]) (S' := [.int (s1.1 100), .int ((p0 * (11 : Int32)) + (10 : Int32)), .ref 3]) (h' := hpS s1) rfl ?_
    obtain ⟨hin, k⟩ := k
    refine Ex.ias hq rfl rfl hin (h' := hpS (sA s1 3 (upd (s1.2.1 3) (((p0 * (11 : Int32)) + (10 : Int32))).toNatClampNeg (s1.1 100)))) rfl ?_
    exact Ex.rt hq rfl rfl ⟨(sA s1 3 (upd (s1.2.1 3) (((p0 * (11 : Int32)) + (10 : Int32))).toNatClampNeg (s1.1 100))), rfl, rfl, k⟩
/-- RowAuditor$Books.addMending(II)V -/
def w_11 (p0 : Int32) (p1 : Int32) (s : ST) (K : ST → Prop) : Prop := (((100 : Int32) ≤ (s.1 103) → K s) ∧ (¬ ((100 : Int32) ≤ (s.1 103)) → (pin (s.1 103) 100 = true ∧ (pin (s.1 103) 100 = true ∧ (pin (s.1 103) 100 = true ∧ K (sA (sA (sA (sI s 103 ((s.1 103) + (1 : Int32))) 5 (upd (s.2.1 5) ((s.1 103)).toNatClampNeg p0)) 6 (upd (s.2.1 6) ((s.1 103)).toNatClampNeg p1)) 7 (upd (s.2.1 7) ((s.1 103)).toNatClampNeg (s.1 100))))))))
theorem q_11 {d : Nat} {K : ST → Prop} (p0 : Int32) (p1 : Int32) (s : ST) (k : w_11 p0 p1 s K) : Rn sc (d + 0) 11 [.ref 1, .int p0, .int p1] (hpS s) (kV K) := by
  have hq : prog[11]? = some pm11 := rfl
  refine Rn.of (L := [.ref 1, .int p0, .int p1]) hq rfl rfl ?_
  unfold w_11 at k
  refine Ex.seg hq 3 (j := 3) (L' := [.ref 1, .int p0, .int p1]) (S' := [.int (100 : Int32), .int (s.1 103)]) (h' := hpS s) rfl ?_
  refine Ex.i2 hq rfl (fun c => ?_) (fun c => ?_)
  · have k := k.1 c
    exact Ex.rt hq rfl rfl ⟨s, rfl, rfl, k⟩
  · have k := k.2 c
    refine Ex.seg hq 5 (j := 9) (L' := [.ref 1, .int p0, .int p1]) (S' := [.int p0, .int (s.1 103), .ref 5]) (h' := hpS s) rfl ?_
    obtain ⟨hin, k⟩ := k
    refine Ex.ias hq rfl rfl hin (h' := hpS (sA s 5 (upd (s.2.1 5) ((s.1 103)).toNatClampNeg p0))) rfl ?_
    refine Ex.seg hq 5 (j := 15) (L' := [.ref 1, .int p0, .int p1]) (S' := [.int p1, .int (s.1 103), .ref 6]) (h' := hpS (sA s 5 (upd (s.2.1 5) ((s.1 103)).toNatClampNeg p0))) rfl ?_
    obtain ⟨hin, k⟩ := k
    refine Ex.ias hq rfl rfl hin (h' := hpS (sA (sA s 5 (upd (s.2.1 5) ((s.1 103)).toNatClampNeg p0)) 6 (upd (s.2.1 6) ((s.1 103)).toNatClampNeg p1))) rfl ?_
    refine Ex.seg hq 6 (j := 22) (L' := [.ref 1, .int p0, .int p1]) (S' := [.int (s.1 100), .int (s.1 103), .ref 7]) (h' := hpS (sA (sA s 5 (upd (s.2.1 5) ((s.1 103)).toNatClampNeg p0)) 6 (upd (s.2.1 6) ((s.1 103)).toNatClampNeg p1))) rfl ?_
    obtain ⟨hin, k⟩ := k
    refine Ex.ias hq rfl rfl hin (h' := hpS (sA (sA (sA s 5 (upd (s.2.1 5) ((s.1 103)).toNatClampNeg p0)) 6 (upd (s.2.1 6) ((s.1 103)).toNatClampNeg p1)) 7 (upd (s.2.1 7) ((s.1 103)).toNatClampNeg (s.1 100)))) rfl ?_
    refine Ex.seg hq 6 (j := 29) (L' := [.ref 1, .int p0, .int p1]) (S' := []) (h' := hpS (sA (sA (sA (sI s 103 ((s.1 103) + (1 : Int32))) 5 (upd (s.2.1 5) ((s.1 103)).toNatClampNeg p0)) 6 (upd (s.2.1 6) ((s.1 103)).toNatClampNeg p1)) 7 (upd (s.2.1 7) ((s.1 103)).toNatClampNeg (s.1 100)))) rfl ?_
    exact Ex.rt hq rfl rfl ⟨(sA (sA (sA (sI s 103 ((s.1 103) + (1 : Int32))) 5 (upd (s.2.1 5) ((s.1 103)).toNatClampNeg p0)) 6 (upd (s.2.1 6) ((s.1 103)).toNatClampNeg p1)) 7 (upd (s.2.1 7) ((s.1 103)).toNatClampNeg (s.1 100))), rfl, rfl, k⟩
/-- RowAuditor$Books.mendedRow(I)I -/
def w_12 (p0 : Int32) (s : ST) (K : Int32 → ST → Prop) : Prop := ((p0 < 0 → K (-1 : Int32) s) ∧ (¬ (p0 < 0) → (((s.1 103) ≤ p0 → K (-1 : Int32) s) ∧ (¬ ((s.1 103) ≤ p0) → (pin p0 100 = true ∧ K ((s.2.1 5) (p0).toNatClampNeg) s)))))
theorem q_12 {d : Nat} {K : Int32 → ST → Prop} (p0 : Int32) (s : ST) (k : w_12 p0 s K) : Rn sc (d + 0) 12 [.ref 1, .int p0] (hpS s) (kI K) := by
  have hq : prog[12]? = some pm12 := rfl
  refine Rn.of (L := [.ref 1, .int p0]) hq rfl rfl ?_
  unfold w_12 at k
  refine Ex.seg hq 1 (j := 1) (L' := [.ref 1, .int p0]) (S' := [.int p0]) (h' := hpS s) rfl ?_
  refine Ex.i1 hq rfl (fun c => ?_) (fun c => ?_)
  · have k := k.1 c
    refine Ex.seg hq 1 (j := 12) (L' := [.ref 1, .int p0]) (S' := [.int (-1 : Int32)]) (h' := hpS s) rfl ?_
    exact Ex.rt hq rfl rfl ⟨(-1 : Int32), s, rfl, rfl, k⟩
  · have k := k.2 c
    refine Ex.seg hq 3 (j := 5) (L' := [.ref 1, .int p0]) (S' := [.int (s.1 103), .int p0]) (h' := hpS s) rfl ?_
    refine Ex.i2 hq rfl (fun c => ?_) (fun c => ?_)
    · have k := k.1 c
      refine Ex.seg hq 1 (j := 12) (L' := [.ref 1, .int p0]) (S' := [.int (-1 : Int32)]) (h' := hpS s) rfl ?_
      exact Ex.rt hq rfl rfl ⟨(-1 : Int32), s, rfl, rfl, k⟩
    · have k := k.2 c
      refine Ex.seg hq 3 (j := 9) (L' := [.ref 1, .int p0]) (S' := [.int p0, .ref 5]) (h' := hpS s) rfl ?_
      obtain ⟨hin, k⟩ := k
      refine Ex.ial hq rfl rfl hin ?_
      refine Ex.seg hq 1 (j := 12) (L' := [.ref 1, .int p0]) (S' := [.int ((s.2.1 5) (p0).toNatClampNeg)]) (h' := hpS s) rfl ?_
      exact Ex.rt hq rfl rfl ⟨((s.2.1 5) (p0).toNatClampNeg), s, rfl, rfl, k⟩
/-- RowAuditor$Books.mendedSum(I)I -/
def w_13 (p0 : Int32) (s : ST) (K : Int32 → ST → Prop) : Prop := ((p0 < 0 → K (0 : Int32) s) ∧ (¬ (p0 < 0) → (((s.1 103) ≤ p0 → K (0 : Int32) s) ∧ (¬ ((s.1 103) ≤ p0) → (pin p0 100 = true ∧ K ((s.2.1 6) (p0).toNatClampNeg) s)))))
theorem q_13 {d : Nat} {K : Int32 → ST → Prop} (p0 : Int32) (s : ST) (k : w_13 p0 s K) : Rn sc (d + 0) 13 [.ref 1, .int p0] (hpS s) (kI K) := by
  have hq : prog[13]? = some pm13 := rfl
  refine Rn.of (L := [.ref 1, .int p0]) hq rfl rfl ?_
  unfold w_13 at k
  refine Ex.seg hq 1 (j := 1) (L' := [.ref 1, .int p0]) (S' := [.int p0]) (h' := hpS s) rfl ?_
  refine Ex.i1 hq rfl (fun c => ?_) (fun c => ?_)
  · have k := k.1 c
    refine Ex.seg hq 1 (j := 12) (L' := [.ref 1, .int p0]) (S' := [.int (0 : Int32)]) (h' := hpS s) rfl ?_
    exact Ex.rt hq rfl rfl ⟨(0 : Int32), s, rfl, rfl, k⟩
  · have k := k.2 c
    refine Ex.seg hq 3 (j := 5) (L' := [.ref 1, .int p0]) (S' := [.int (s.1 103), .int p0]) (h' := hpS s) rfl ?_
    refine Ex.i2 hq rfl (fun c => ?_) (fun c => ?_)
    · have k := k.1 c
      refine Ex.seg hq 1 (j := 12) (L' := [.ref 1, .int p0]) (S' := [.int (0 : Int32)]) (h' := hpS s) rfl ?_
      exact Ex.rt hq rfl rfl ⟨(0 : Int32), s, rfl, rfl, k⟩
    · have k := k.2 c
      refine Ex.seg hq 3 (j := 9) (L' := [.ref 1, .int p0]) (S' := [.int p0, .ref 6]) (h' := hpS s) rfl ?_
      obtain ⟨hin, k⟩ := k
      refine Ex.ial hq rfl rfl hin ?_
      refine Ex.seg hq 1 (j := 12) (L' := [.ref 1, .int p0]) (S' := [.int ((s.2.1 6) (p0).toNatClampNeg)]) (h' := hpS s) rfl ?_
      exact Ex.rt hq rfl rfl ⟨((s.2.1 6) (p0).toNatClampNeg), s, rfl, rfl, k⟩
/-- RowAuditor$Books.mendedDay(I)I -/
def w_14 (p0 : Int32) (s : ST) (K : Int32 → ST → Prop) : Prop := ((p0 < 0 → K (-1 : Int32) s) ∧ (¬ (p0 < 0) → (((s.1 103) ≤ p0 → K (-1 : Int32) s) ∧ (¬ ((s.1 103) ≤ p0) → (pin p0 100 = true ∧ K ((s.2.1 7) (p0).toNatClampNeg) s)))))
theorem q_14 {d : Nat} {K : Int32 → ST → Prop} (p0 : Int32) (s : ST) (k : w_14 p0 s K) : Rn sc (d + 0) 14 [.ref 1, .int p0] (hpS s) (kI K) := by
  have hq : prog[14]? = some pm14 := rfl
  refine Rn.of (L := [.ref 1, .int p0]) hq rfl rfl ?_
  unfold w_14 at k
  refine Ex.seg hq 1 (j := 1) (L' := [.ref 1, .int p0]) (S' := [.int p0]) (h' := hpS s) rfl ?_
  refine Ex.i1 hq rfl (fun c => ?_) (fun c => ?_)
  · have k := k.1 c
    refine Ex.seg hq 1 (j := 12) (L' := [.ref 1, .int p0]) (S' := [.int (-1 : Int32)]) (h' := hpS s) rfl ?_
    exact Ex.rt hq rfl rfl ⟨(-1 : Int32), s, rfl, rfl, k⟩
  · have k := k.2 c
    refine Ex.seg hq 3 (j := 5) (L' := [.ref 1, .int p0]) (S' := [.int (s.1 103), .int p0]) (h' := hpS s) rfl ?_
    refine Ex.i2 hq rfl (fun c => ?_) (fun c => ?_)
    · have k := k.1 c
      refine Ex.seg hq 1 (j := 12) (L' := [.ref 1, .int p0]) (S' := [.int (-1 : Int32)]) (h' := hpS s) rfl ?_
      exact Ex.rt hq rfl rfl ⟨(-1 : Int32), s, rfl, rfl, k⟩
    · have k := k.2 c
      refine Ex.seg hq 3 (j := 9) (L' := [.ref 1, .int p0]) (S' := [.int p0, .ref 7]) (h' := hpS s) rfl ?_
      obtain ⟨hin, k⟩ := k
      refine Ex.ial hq rfl rfl hin ?_
      refine Ex.seg hq 1 (j := 12) (L' := [.ref 1, .int p0]) (S' := [.int ((s.2.1 7) (p0).toNatClampNeg)]) (h' := hpS s) rfl ?_
      exact Ex.rt hq rfl rfl ⟨((s.2.1 7) (p0).toNatClampNeg), s, rfl, rfl, k⟩
/-- RowAuditor$Books.payeeOf(I)I -/
def w_15 (p0 : Int32) (s : ST) (K : Int32 → ST → Prop) : Prop := w_9 p0 (0 : Int32) s (fun r2 s1 => ((r2 = 0 → w_9 p0 (2 : Int32) s1 (fun r4 s3 => K r4 s3)) ∧ (¬ (r2 = 0) → ((¬ r2 = (1 : Int32) → K (-1 : Int32) s1) ∧ (¬ (¬ r2 = (1 : Int32)) → w_9 p0 (2 : Int32) s1 (fun r6 s5 => K r6 s5))))))
theorem q_15 {d : Nat} {K : Int32 → ST → Prop} (p0 : Int32) (s : ST) (k : w_15 p0 s K) : Rn sc (d + 1) 15 [.ref 1, .int p0] (hpS s) (kI K) := by
  have hq : prog[15]? = some pm15 := rfl
  refine Rn.of (L := [.ref 1, .int p0, pu]) hq rfl rfl ?_
  unfold w_15 at k
  refine Ex.seg hq 3 (j := 3) (L' := [.ref 1, .int p0, pu]) (S' := [.int (0 : Int32), .int p0, .ref 1]) (h' := hpS s) rfl ?_
  refine Ex.cl hq rfl rfl ?_
  refine Rn.mono (q_9 (d := d + 0) p0 (0 : Int32) s k) ?_
  rintro _ _ ⟨r2, s1, rfl, rfl, k⟩
  show Ex sc (d + 1) 15 4 [.ref 1, .int p0, pu] [.int r2] (hpS s1) _
  refine Ex.seg hq 2 (j := 6) (L' := [.ref 1, .int p0, .int r2]) (S' := [.int r2]) (h' := hpS s1) rfl ?_
  refine Ex.i1 hq rfl (fun c => ?_) (fun c => ?_)
  · have k := k.1 c
    refine Ex.seg hq 3 (j := 13) (L' := [.ref 1, .int p0, .int r2]) (S' := [.int (2 : Int32), .int p0, .ref 1]) (h' := hpS s1) rfl ?_
    refine Ex.cl hq rfl rfl ?_
    refine Rn.mono (q_9 (d := d + 0) p0 (2 : Int32) s1 k) ?_
    rintro _ _ ⟨r4, s3, rfl, rfl, k⟩
    show Ex sc (d + 1) 15 14 [.ref 1, .int p0, .int r2] [.int r4] (hpS s3) _
    refine Ex.seg hq 1 (j := 16) (L' := [.ref 1, .int p0, .int r2]) (S' := [.int r4]) (h' := hpS s3) rfl ?_
    exact Ex.rt hq rfl rfl ⟨r4, s3, rfl, rfl, k⟩
  · have k := k.2 c
    refine Ex.seg hq 2 (j := 9) (L' := [.ref 1, .int p0, .int r2]) (S' := [.int (1 : Int32), .int r2]) (h' := hpS s1) rfl ?_
    refine Ex.i2 hq rfl (fun c => ?_) (fun c => ?_)
    · have k := k.1 c
      refine Ex.seg hq 1 (j := 16) (L' := [.ref 1, .int p0, .int r2]) (S' := [.int (-1 : Int32)]) (h' := hpS s1) rfl ?_
      exact Ex.rt hq rfl rfl ⟨(-1 : Int32), s1, rfl, rfl, k⟩
    · have k := k.2 c
      refine Ex.seg hq 3 (j := 13) (L' := [.ref 1, .int p0, .int r2]) (S' := [.int (2 : Int32), .int p0, .ref 1]) (h' := hpS s1) rfl ?_
      refine Ex.cl hq rfl rfl ?_
      refine Rn.mono (q_9 (d := d + 0) p0 (2 : Int32) s1 k) ?_
      rintro _ _ ⟨r6, s5, rfl, rfl, k⟩
      show Ex sc (d + 1) 15 14 [.ref 1, .int p0, .int r2] [.int r6] (hpS s5) _
      refine Ex.seg hq 1 (j := 16) (L' := [.ref 1, .int p0, .int r2]) (S' := [.int r6]) (h' := hpS s5) rfl ?_
      exact Ex.rt hq rfl rfl ⟨r6, s5, rfl, rfl, k⟩
end WP
