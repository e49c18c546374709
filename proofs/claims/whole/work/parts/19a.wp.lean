/-! ===== weakest preconditions, printed by wip/whole/genwp.py ===== -/
section WP
variable {sc : Nat × (Nat → Int32)}
/-- RowAuditor$Books.isHouse(I)Z -/
def w_1 (p0 : Int32) (s : ST) (K : Int32 → ST → Prop) : Prop := ((p0 < 0 → K (0 : Int32) s) ∧ (¬ (p0 < 0) → (((s.1 101) ≤ p0 → K (0 : Int32) s) ∧ (¬ ((s.1 101) ≤ p0) → K (1 : Int32) s))))
theorem q_1 {d : Nat} {K : Int32 → ST → Prop} (p0 : Int32) (s : ST) (k : w_1 p0 s K) : Rn sc (d + 0) 1 [.ref 1, .int p0] (hpS s) (kZ K) := by
  have hq : prog[1]? = some pm1 := rfl
  refine Rn.of (L := [.ref 1, .int p0]) hq rfl rfl ?_
  unfold w_1 at k
  refine Ex.seg hq 1 (j := 1) (L' := [.ref 1, .int p0]) (S' := [.int p0]) (h' := hpS s) rfl ?_
  refine Ex.i1 hq rfl (fun c => ?_) (fun c => ?_)
  · have k := k.1 c
    refine Ex.seg hq 1 (j := 9) (L' := [.ref 1, .int p0]) (S' := [.int (0 : Int32)]) (h' := hpS s) rfl ?_
    exact Ex.zr hq rfl rfl (Or.inl rfl) ⟨(0 : Int32), s, rfl, (Or.inl rfl), rfl, k⟩
  · have k := k.2 c
    refine Ex.seg hq 3 (j := 5) (L' := [.ref 1, .int p0]) (S' := [.int (s.1 101), .int p0]) (h' := hpS s) rfl ?_
    refine Ex.i2 hq rfl (fun c => ?_) (fun c => ?_)
    · have k := k.1 c
      refine Ex.seg hq 1 (j := 9) (L' := [.ref 1, .int p0]) (S' := [.int (0 : Int32)]) (h' := hpS s) rfl ?_
      exact Ex.zr hq rfl rfl (Or.inl rfl) ⟨(0 : Int32), s, rfl, (Or.inl rfl), rfl, k⟩
    · have k := k.2 c
      refine Ex.seg hq 2 (j := 9) (L' := [.ref 1, .int p0]) (S' := [.int (1 : Int32)]) (h' := hpS s) rfl ?_
      exact Ex.zr hq rfl rfl (Or.inr rfl) ⟨(1 : Int32), s, rfl, (Or.inr rfl), rfl, k⟩
/-- RowAuditor$Books.isRow(I)Z -/
def w_2 (p0 : Int32) (s : ST) (K : Int32 → ST → Prop) : Prop := ((p0 < 0 → K (0 : Int32) s) ∧ (¬ (p0 < 0) → (((s.1 102) ≤ p0 → K (0 : Int32) s) ∧ (¬ ((s.1 102) ≤ p0) → K (1 : Int32) s))))
theorem q_2 {d : Nat} {K : Int32 → ST → Prop} (p0 : Int32) (s : ST) (k : w_2 p0 s K) : Rn sc (d + 0) 2 [.ref 1, .int p0] (hpS s) (kZ K) := by
  have hq : prog[2]? = some pm2 := rfl
  refine Rn.of (L := [.ref 1, .int p0]) hq rfl rfl ?_
  unfold w_2 at k
  refine Ex.seg hq 1 (j := 1) (L' := [.ref 1, .int p0]) (S' := [.int p0]) (h' := hpS s) rfl ?_
  refine Ex.i1 hq rfl (fun c => ?_) (fun c => ?_)
  · have k := k.1 c
    refine Ex.seg hq 1 (j := 9) (L' := [.ref 1, .int p0]) (S' := [.int (0 : Int32)]) (h' := hpS s) rfl ?_
    exact Ex.zr hq rfl rfl (Or.inl rfl) ⟨(0 : Int32), s, rfl, (Or.inl rfl), rfl, k⟩
  · have k := k.2 c
    refine Ex.seg hq 3 (j := 5) (L' := [.ref 1, .int p0]) (S' := [.int (s.1 102), .int p0]) (h' := hpS s) rfl ?_
    refine Ex.i2 hq rfl (fun c => ?_) (fun c => ?_)
    · have k := k.1 c
      refine Ex.seg hq 1 (j := 9) (L' := [.ref 1, .int p0]) (S' := [.int (0 : Int32)]) (h' := hpS s) rfl ?_
      exact Ex.zr hq rfl rfl (Or.inl rfl) ⟨(0 : Int32), s, rfl, (Or.inl rfl), rfl, k⟩
    · have k := k.2 c
      refine Ex.seg hq 2 (j := 9) (L' := [.ref 1, .int p0]) (S' := [.int (1 : Int32)]) (h' := hpS s) rfl ?_
      exact Ex.zr hq rfl rfl (Or.inr rfl) ⟨(1 : Int32), s, rfl, (Or.inr rfl), rfl, k⟩
/-- RowAuditor$Books.addHouse(I)I -/
def w_3 (p0 : Int32) (s : ST) (K : Int32 → ST → Prop) : Prop := (((s.1 101) < (10 : Int32) → (pin (s.1 101) 10 = true ∧ K (((s.1 101) + (1 : Int32)) - (1 : Int32)) (sA (sI s 101 ((s.1 101) + (1 : Int32))) 2 (upd (s.2.1 2) ((s.1 101)).toNatClampNeg p0)))) ∧ (¬ ((s.1 101) < (10 : Int32)) → K (-1 : Int32) s))
theorem q_3 {d : Nat} {K : Int32 → ST → Prop} (p0 : Int32) (s : ST) (k : w_3 p0 s K) : Rn sc (d + 0) 3 [.ref 1, .int p0] (hpS s) (kI K) := by
  have hq : prog[3]? = some pm3 := rfl
  refine Rn.of (L := [.ref 1, .int p0]) hq rfl rfl ?_
  unfold w_3 at k
  refine Ex.seg hq 3 (j := 3) (L' := [.ref 1, .int p0]) (S' := [.int (10 : Int32), .int (s.1 101)]) (h' := hpS s) rfl ?_
  refine Ex.i2 hq rfl (fun c => ?_) (fun c => ?_)
  · have k := k.1 c
    refine Ex.seg hq 5 (j := 11) (L' := [.ref 1, .int p0]) (S' := [.int p0, .int (s.1 101), .ref 2]) (h' := hpS s) rfl ?_
    obtain ⟨hin, k⟩ := k
    refine Ex.ias hq rfl rfl hin (h' := hpS (sA s 2 (upd (s.2.1 2) ((s.1 101)).toNatClampNeg p0))) (hset_2 _ _) ?_
    refine Ex.seg hq 10 (j := 22) (L' := [.ref 1, .int p0]) (S' := [.int (((s.1 101) + (1 : Int32)) - (1 : Int32))]) (h' := hpS (sA (sI s 101 ((s.1 101) + (1 : Int32))) 2 (upd (s.2.1 2) ((s.1 101)).toNatClampNeg p0))) rfl ?_
    exact Ex.rt hq rfl rfl ⟨(((s.1 101) + (1 : Int32)) - (1 : Int32)), (sA (sI s 101 ((s.1 101) + (1 : Int32))) 2 (upd (s.2.1 2) ((s.1 101)).toNatClampNeg p0)), rfl, rfl, k⟩
  · have k := k.2 c
    refine Ex.seg hq 1 (j := 5) (L' := [.ref 1, .int p0]) (S' := [.int (-1 : Int32)]) (h' := hpS s) rfl ?_
    exact Ex.rt hq rfl rfl ⟨(-1 : Int32), s, rfl, rfl, k⟩
/-- RowAuditor$Books.atFirst(I)I -/
def w_4 (p0 : Int32) (s : ST) (K : Int32 → ST → Prop) : Prop := ((p0 < 0 → K (0 : Int32) s) ∧ (¬ (p0 < 0) → (((s.1 101) ≤ p0 → K (0 : Int32) s) ∧ (¬ ((s.1 101) ≤ p0) → (pin p0 10 = true ∧ K ((s.2.1 2) (p0).toNatClampNeg) s)))))
theorem q_4 {d : Nat} {K : Int32 → ST → Prop} (p0 : Int32) (s : ST) (k : w_4 p0 s K) : Rn sc (d + 0) 4 [.ref 1, .int p0] (hpS s) (kI K) := by
  have hq : prog[4]? = some pm4 := rfl
  refine Rn.of (L := [.ref 1, .int p0]) hq rfl rfl ?_
  unfold w_4 at k
  refine Ex.seg hq 1 (j := 1) (L' := [.ref 1, .int p0]) (S' := [.int p0]) (h' := hpS s) rfl ?_
  refine Ex.i1 hq rfl (fun c => ?_) (fun c => ?_)
  · have k := k.1 c
    refine Ex.seg hq 1 (j := 12) (L' := [.ref 1, .int p0]) (S' := [.int (0 : Int32)]) (h' := hpS s) rfl ?_
    exact Ex.rt hq rfl rfl ⟨(0 : Int32), s, rfl, rfl, k⟩
  · have k := k.2 c
    refine Ex.seg hq 3 (j := 5) (L' := [.ref 1, .int p0]) (S' := [.int (s.1 101), .int p0]) (h' := hpS s) rfl ?_
    refine Ex.i2 hq rfl (fun c => ?_) (fun c => ?_)
    · have k := k.1 c
      refine Ex.seg hq 1 (j := 12) (L' := [.ref 1, .int p0]) (S' := [.int (0 : Int32)]) (h' := hpS s) rfl ?_
      exact Ex.rt hq rfl rfl ⟨(0 : Int32), s, rfl, rfl, k⟩
    · have k := k.2 c
      refine Ex.seg hq 3 (j := 9) (L' := [.ref 1, .int p0]) (S' := [.int p0, .ref 2]) (h' := hpS s) rfl ?_
      obtain ⟨hin, k⟩ := k
      refine Ex.ial hq rfl rfl hin ?_
      refine Ex.seg hq 1 (j := 12) (L' := [.ref 1, .int p0]) (S' := [.int ((s.2.1 2) (p0).toNatClampNeg)]) (h' := hpS s) rfl ?_
      exact Ex.rt hq rfl rfl ⟨((s.2.1 2) (p0).toNatClampNeg), s, rfl, rfl, k⟩
/-- RowAuditor$Books.rowAt(I)I -/
def w_8 (p0 : Int32) (s : ST) (K : Int32 → ST → Prop) : Prop := ((p0 < 0 → K (-1 : Int32) s) ∧ (¬ (p0 < 0) → (((s.1 102) ≤ p0 → K (-1 : Int32) s) ∧ (¬ ((s.1 102) ≤ p0) → (pin p0 150 = true ∧ K ((s.2.1 4) (p0).toNatClampNeg) s)))))
theorem q_8 {d : Nat} {K : Int32 → ST → Prop} (p0 : Int32) (s : ST) (k : w_8 p0 s K) : Rn sc (d + 0) 8 [.ref 1, .int p0] (hpS s) (kI K) := by
  have hq : prog[8]? = some pm8 := rfl
  refine Rn.of (L := [.ref 1, .int p0]) hq rfl rfl ?_
  unfold w_8 at k
  refine Ex.seg hq 1 (j := 1) (L' := [.ref 1, .int p0]) (S' := [.int p0]) (h' := hpS s) rfl ?_
  refine Ex.i1 hq rfl (fun c => ?_) (fun c => ?_)
  · have k := k.1 c
    refine Ex.seg hq 1 (j := 12) (L' := [.ref 1, .int p0]) (S' := [.int (-1 : Int32)]) (h' := hpS s) rfl ?_
    exact Ex.rt hq rfl rfl ⟨(-1 : Int32), s, rfl, rfl, k⟩
  · have k := k.2 c
    refine Ex.seg hq 3 (j := 5) (L' := [.ref 1, .int p0]) (S' := [.int (s.1 102), .int p0]) (h' := hpS s) rfl ?_
    refine Ex.i2 hq rfl (fun c => ?_) (fun c => ?_)
    · have k := k.1 c
      refine Ex.seg hq 1 (j := 12) (L' := [.ref 1, .int p0]) (S' := [.int (-1 : Int32)]) (h' := hpS s) rfl ?_
      exact Ex.rt hq rfl rfl ⟨(-1 : Int32), s, rfl, rfl, k⟩
    · have k := k.2 c
      refine Ex.seg hq 3 (j := 9) (L' := [.ref 1, .int p0]) (S' := [.int p0, .ref 4]) (h' := hpS s) rfl ?_
      obtain ⟨hin, k⟩ := k
      refine Ex.ial hq rfl rfl hin ?_
      refine Ex.seg hq 1 (j := 12) (L' := [.ref 1, .int p0]) (S' := [.int ((s.2.1 4) (p0).toNatClampNeg)]) (h' := hpS s) rfl ?_
      exact Ex.rt hq rfl rfl ⟨((s.2.1 4) (p0).toNatClampNeg), s, rfl, rfl, k⟩
/-- RowAuditor$Books.cell(II)I -/
def w_9 (p0 : Int32) (p1 : Int32) (s : ST) (K : Int32 → ST → Prop) : Prop := ((p0 < 0 → K (-1 : Int32) s) ∧ (¬ (p0 < 0) → (((s.1 102) ≤ p0 → K (-1 : Int32) s) ∧ (¬ ((s.1 102) ≤ p0) → ((p1 < 0 → K (-1 : Int32) s) ∧ (¬ (p1 < 0) → (((11 : Int32) ≤ p1 → K (-1 : Int32) s) ∧ (¬ ((11 : Int32) ≤ p1) → (pin ((p0 * (11 : Int32)) + p1) 1650 = true ∧ K ((s.2.1 3) (((p0 * (11 : Int32)) + p1)).toNatClampNeg) s)))))))))
theorem q_9 {d : Nat} {K : Int32 → ST → Prop} (p0 : Int32) (p1 : Int32) (s : ST) (k : w_9 p0 p1 s K) : Rn sc (d + 0) 9 [.ref 1, .int p0, .int p1] (hpS s) (kI K) := by
  have hq : prog[9]? = some pm9 := rfl
  refine Rn.of (L := [.ref 1, .int p0, .int p1]) hq rfl rfl ?_
  unfold w_9 at k
  refine Ex.seg hq 1 (j := 1) (L' := [.ref 1, .int p0, .int p1]) (S' := [.int p0]) (h' := hpS s) rfl ?_
  refine Ex.i1 hq rfl (fun c => ?_) (fun c => ?_)
  · have k := k.1 c
    refine Ex.seg hq 1 (j := 21) (L' := [.ref 1, .int p0, .int p1]) (S' := [.int (-1 : Int32)]) (h' := hpS s) rfl ?_
    exact Ex.rt hq rfl rfl ⟨(-1 : Int32), s, rfl, rfl, k⟩
  · have k := k.2 c
    refine Ex.seg hq 3 (j := 5) (L' := [.ref 1, .int p0, .int p1]) (S' := [.int (s.1 102), .int p0]) (h' := hpS s) rfl ?_
    refine Ex.i2 hq rfl (fun c => ?_) (fun c => ?_)
    · have k := k.1 c
      refine Ex.seg hq 1 (j := 21) (L' := [.ref 1, .int p0, .int p1]) (S' := [.int (-1 : Int32)]) (h' := hpS s) rfl ?_
      exact Ex.rt hq rfl rfl ⟨(-1 : Int32), s, rfl, rfl, k⟩
    · have k := k.2 c
      refine Ex.seg hq 1 (j := 7) (L' := [.ref 1, .int p0, .int p1]) (S' := [.int p1]) (h' := hpS s) rfl ?_
      refine Ex.i1 hq rfl (fun c => ?_) (fun c => ?_)
      · have k := k.1 c
        refine Ex.seg hq 1 (j := 21) (L' := [.ref 1, .int p0, .int p1]) (S' := [.int (-1 : Int32)]) (h' := hpS s) rfl ?_
        exact Ex.rt hq rfl rfl ⟨(-1 : Int32), s, rfl, rfl, k⟩
      · have k := k.2 c
        refine Ex.seg hq 2 (j := 10) (L' := [.ref 1, .int p0, .int p1]) (S' := [.int (11 : Int32), .int p1]) (h' := hpS s) rfl ?_
        refine Ex.i2 hq rfl (fun c => ?_) (fun c => ?_)
        · have k := k.1 c
          refine Ex.seg hq 1 (j := 21) (L' := [.ref 1, .int p0, .int p1]) (S' := [.int (-1 : Int32)]) (h' := hpS s) rfl ?_
          exact Ex.rt hq rfl rfl ⟨(-1 : Int32), s, rfl, rfl, k⟩
        · have k := k.2 c
          refine Ex.seg hq 7 (j := 18) (L' := [.ref 1, .int p0, .int p1]) (S' := [.int ((p0 * (11 : Int32)) + p1), .ref 3]) (h' := hpS s) rfl ?_
          obtain ⟨hin, k⟩ := k
          refine Ex.ial hq rfl rfl hin ?_
          refine Ex.seg hq 1 (j := 21) (L' := [.ref 1, .int p0, .int p1]) (S' := [.int ((s.2.1 3) (((p0 * (11 : Int32)) + p1)).toNatClampNeg)]) (h' := hpS s) rfl ?_
          exact Ex.rt hq rfl rfl ⟨((s.2.1 3) (((p0 * (11 : Int32)) + p1)).toNatClampNeg), s, rfl, rfl, k⟩
/-- RowAuditor$Books.setCleared(I)V -/
def w_10 (p0 : Int32) (s : ST) (K : ST → Prop) : Prop := w_2 p0 s (fun r2 s1 => ((r2 = 0 → K s1) ∧ (¬ (r2 = 0) → (pin ((p0 * (11 : Int32)) + (10 : Int32)) 1650 = true ∧ K (sA s1 3 (upd (s1.2.1 3) (((p0 * (11 : Int32)) + (10 : Int32))).toNatClampNeg (s1.1 100)))))))
theorem q_10 {d : Nat} {K : ST → Prop} (p0 : Int32) (s : ST) (k : w_10 p0 s K) : Rn sc (d + 1) 10 [.ref 1, .int p0] (hpS s) (kV K) := by
  have hq : prog[10]? = some pm10 := rfl
  refine Rn.of (L := [.ref 1, .int p0]) hq rfl rfl ?_
  unfold w_10 at k
  refine Ex.seg hq 2 (j := 2) (L' := [.ref 1, .int p0]) (S' := [.int p0, .ref 1]) (h' := hpS s) rfl ?_
  refine Ex.cl hq rfl rfl ?_
  refine Rn.mono (q_2 (d := d + 0) p0 s k) ?_
  rintro _ _ ⟨r2, s1, rfl, hzr2, rfl, k⟩
  show Ex sc (d + 1) 10 3 [.ref 1, .int p0] [.int r2] (hpS s1) _
  refine Ex.i1 hq rfl (fun c => ?_) (fun c => ?_)
  · have k := k.1 c
    exact Ex.rt hq rfl rfl ⟨s1, rfl, rfl, k⟩
  · have k := k.2 c
    refine Ex.seg hq 9 (j := 13) (L' := [.ref 1, .int p0]) (S' := [.int (s1.1 100), .int ((p0 * (11 : Int32)) + (10 : Int32)), .ref 3]) (h' := hpS s1) rfl ?_
    obtain ⟨hin, k⟩ := k
    refine Ex.ias hq rfl rfl hin (h' := hpS (sA s1 3 (upd (s1.2.1 3) (((p0 * (11 : Int32)) + (10 : Int32))).toNatClampNeg (s1.1 100)))) (hset_3 _ _) ?_
    exact Ex.rt hq rfl rfl ⟨(sA s1 3 (upd (s1.2.1 3) (((p0 * (11 : Int32)) + (10 : Int32))).toNatClampNeg (s1.1 100))), rfl, rfl, k⟩
/-- RowAuditor$Books.addMending(II)V -/
def w_11 (p0 : Int32) (p1 : Int32) (s : ST) (K : ST → Prop) : Prop := (((100 : Int32) ≤ (s.1 103) → K s) ∧ (¬ ((100 : Int32) ≤ (s.1 103)) → (pin (s.1 103) 100 = true ∧ (pin (s.1 103) 100 = true ∧ (pin (s.1 103) 100 = true ∧ K (sA (sA (sA (sI s 103 ((s.1 103) + (1 : Int32))) 5 (upd (s.2.1 5) ((s.1 103)).toNatClampNeg p0)) 6 (upd (s.2.1 6) ((s.1 103)).toNatClampNeg p1)) 7 (upd (s.2.1 7) ((s.1 103)).toNatClampNeg (s.1 100))))))))
theorem q_11 {d : Nat} {K : ST → Prop} (p0 : Int32) (p1 : Int32) (s : ST) (k : w_11 p0 p1 s K) : Rn sc (d + 0) 11 [.ref 1, .int p0, .int p1] (hpS s) (kV K) := by
  have hq : prog[11]? = some pm11 := rfl
  refine Rn.of (L := [.ref 1, .int p0, .int p1]) hq rfl rfl ?_
  unfold w_11 at k
  refine Ex.seg hq 3 (j := 3) (L' := [.ref 1, .int p0, .int p1]) (S' := [.int (100 : Int32), .int (s.1 103)]) (h' := hpS s) rfl ?_
  refine Ex.i2 hq rfl (fun c => ?_) (fun c => ?_)
  · have k := k.1 c
    exact Ex.rt hq rfl rfl ⟨s, rfl, rfl, k⟩
  · have k := k.2 c
    refine Ex.seg hq 5 (j := 9) (L' := [.ref 1, .int p0, .int p1]) (S' := [.int p0, .int (s.1 103), .ref 5]) (h' := hpS s) rfl ?_
    obtain ⟨hin, k⟩ := k
    refine Ex.ias hq rfl rfl hin (h' := hpS (sA s 5 (upd (s.2.1 5) ((s.1 103)).toNatClampNeg p0))) (hset_5 _ _) ?_
    refine Ex.seg hq 5 (j := 15) (L' := [.ref 1, .int p0, .int p1]) (S' := [.int p1, .int (s.1 103), .ref 6]) (h' := hpS (sA s 5 (upd (s.2.1 5) ((s.1 103)).toNatClampNeg p0))) rfl ?_
    obtain ⟨hin, k⟩ := k
    refine Ex.ias hq rfl rfl hin (h' := hpS (sA (sA s 5 (upd (s.2.1 5) ((s.1 103)).toNatClampNeg p0)) 6 (upd (s.2.1 6) ((s.1 103)).toNatClampNeg p1))) (hset_6 _ _) ?_
    refine Ex.seg hq 6 (j := 22) (L' := [.ref 1, .int p0, .int p1]) (S' := [.int (s.1 100), .int (s.1 103), .ref 7]) (h' := hpS (sA (sA s 5 (upd (s.2.1 5) ((s.1 103)).toNatClampNeg p0)) 6 (upd (s.2.1 6) ((s.1 103)).toNatClampNeg p1))) rfl ?_
    obtain ⟨hin, k⟩ := k
    refine Ex.ias hq rfl rfl hin (h' := hpS (sA (sA (sA s 5 (upd (s.2.1 5) ((s.1 103)).toNatClampNeg p0)) 6 (upd (s.2.1 6) ((s.1 103)).toNatClampNeg p1)) 7 (upd (s.2.1 7) ((s.1 103)).toNatClampNeg (s.1 100)))) (hset_7 _ _) ?_
    refine Ex.seg hq 6 (j := 29) (L' := [.ref 1, .int p0, .int p1]) (S' := []) (h' := hpS (sA (sA (sA (sI s 103 ((s.1 103) + (1 : Int32))) 5 (upd (s.2.1 5) ((s.1 103)).toNatClampNeg p0)) 6 (upd (s.2.1 6) ((s.1 103)).toNatClampNeg p1)) 7 (upd (s.2.1 7) ((s.1 103)).toNatClampNeg (s.1 100)))) rfl ?_
    exact Ex.rt hq rfl rfl ⟨(sA (sA (sA (sI s 103 ((s.1 103) + (1 : Int32))) 5 (upd (s.2.1 5) ((s.1 103)).toNatClampNeg p0)) 6 (upd (s.2.1 6) ((s.1 103)).toNatClampNeg p1)) 7 (upd (s.2.1 7) ((s.1 103)).toNatClampNeg (s.1 100))), rfl, rfl, k⟩
/-- RowAuditor$Books.mendedRow(I)I -/
def w_12 (p0 : Int32) (s : ST) (K : Int32 → ST → Prop) : Prop := ((p0 < 0 → K (-1 : Int32) s) ∧ (¬ (p0 < 0) → (((s.1 103) ≤ p0 → K (-1 : Int32) s) ∧ (¬ ((s.1 103) ≤ p0) → (pin p0 100 = true ∧ K ((s.2.1 5) (p0).toNatClampNeg) s)))))
theorem q_12 {d : Nat} {K : Int32 → ST → Prop} (p0 : Int32) (s : ST) (k : w_12 p0 s K) : Rn sc (d + 0) 12 [.ref 1, .int p0] (hpS s) (kI K) := by
  have hq : prog[12]? = some pm12 := rfl
  refine Rn.of (L := [.ref 1, .int p0]) hq rfl rfl ?_
  unfold w_12 at k
  refine Ex.seg hq 1 (j := 1) (L' := [.ref 1, .int p0]) (S' := [.int p0]) (h' := hpS s) rfl ?_
  refine Ex.i1 hq rfl (fun c => ?_) (fun c => ?_)
  · have k := k.1 c
    refine Ex.seg hq 1 (j := 12) (L' := [.ref 1, .int p0]) (S' := [.int (-1 : Int32)]) (h' := hpS s) rfl ?_
    exact Ex.rt hq rfl rfl ⟨(-1 : Int32), s, rfl, rfl, k⟩
  · have k := k.2 c
    refine Ex.seg hq 3 (j := 5) (L' := [.ref 1, .int p0]) (S' := [.int (s.1 103), .int p0]) (h' := hpS s) rfl ?_
    refine Ex.i2 hq rfl (fun c => ?_) (fun c => ?_)
    · have k := k.1 c
      refine Ex.seg hq 1 (j := 12) (L' := [.ref 1, .int p0]) (S' := [.int (-1 : Int32)]) (h' := hpS s) rfl ?_
      exact Ex.rt hq rfl rfl ⟨(-1 : Int32), s, rfl, rfl, k⟩
    · have k := k.2 c
      refine Ex.seg hq 3 (j := 9) (L' := [.ref 1, .int p0]) (S' := [.int p0, .ref 5]) (h' := hpS s) rfl ?_
      obtain ⟨hin, k⟩ := k
      refine Ex.ial hq rfl rfl hin ?_
      refine Ex.seg hq 1 (j := 12) (L' := [.ref 1, .int p0]) (S' := [.int ((s.2.1 5) (p0).toNatClampNeg)]) (h' := hpS s) rfl ?_
      exact Ex.rt hq rfl rfl ⟨((s.2.1 5) (p0).toNatClampNeg), s, rfl, rfl, k⟩
/-- RowAuditor$Books.mendedSum(I)I -/
def w_13 (p0 : Int32) (s : ST) (K : Int32 → ST → Prop) : Prop := ((p0 < 0 → K (0 : Int32) s) ∧ (¬ (p0 < 0) → (((s.1 103) ≤ p0 → K (0 : Int32) s) ∧ (¬ ((s.1 103) ≤ p0) → (pin p0 100 = true ∧ K ((s.2.1 6) (p0).toNatClampNeg) s)))))
theorem q_13 {d : Nat} {K : Int32 → ST → Prop} (p0 : Int32) (s : ST) (k : w_13 p0 s K) : Rn sc (d + 0) 13 [.ref 1, .int p0] (hpS s) (kI K) := by
  have hq : prog[13]? = some pm13 := rfl
  refine Rn.of (L := [.ref 1, .int p0]) hq rfl rfl ?_
  unfold w_13 at k
  refine Ex.seg hq 1 (j := 1) (L' := [.ref 1, .int p0]) (S' := [.int p0]) (h' := hpS s) rfl ?_
  refine Ex.i1 hq rfl (fun c => ?_) (fun c => ?_)
  · have k := k.1 c
    refine Ex.seg hq 1 (j := 12) (L' := [.ref 1, .int p0]) (S' := [.int (0 : Int32)]) (h' := hpS s) rfl ?_
    exact Ex.rt hq rfl rfl ⟨(0 : Int32), s, rfl, rfl, k⟩
  · have k := k.2 c
    refine Ex.seg hq 3 (j := 5) (L' := [.ref 1, .int p0]) (S' := [.int (s.1 103), .int p0]) (h' := hpS s) rfl ?_
    refine Ex.i2 hq rfl (fun c => ?_) (fun c => ?_)
    · have k := k.1 c
      refine Ex.seg hq 1 (j := 12) (L' := [.ref 1, .int p0]) (S' := [.int (0 : Int32)]) (h' := hpS s) rfl ?_
      exact Ex.rt hq rfl rfl ⟨(0 : Int32), s, rfl, rfl, k⟩
    · have k := k.2 c
      refine Ex.seg hq 3 (j := 9) (L' := [.ref 1, .int p0]) (S' := [.int p0, .ref 6]) (h' := hpS s) rfl ?_
      obtain ⟨hin, k⟩ := k
      refine Ex.ial hq rfl rfl hin ?_
      refine Ex.seg hq 1 (j := 12) (L' := [.ref 1, .int p0]) (S' := [.int ((s.2.1 6) (p0).toNatClampNeg)]) (h' := hpS s) rfl ?_
      exact Ex.rt hq rfl rfl ⟨((s.2.1 6) (p0).toNatClampNeg), s, rfl, rfl, k⟩
/-- RowAuditor$Books.mendedDay(I)I -/
def w_14 (p0 : Int32) (s : ST) (K : Int32 → ST → Prop) : Prop := ((p0 < 0 → K (-1 : Int32) s) ∧ (¬ (p0 < 0) → (((s.1 103) ≤ p0 → K (-1 : Int32) s) ∧ (¬ ((s.1 103) ≤ p0) → (pin p0 100 = true ∧ K ((s.2.1 7) (p0).toNatClampNeg) s)))))
theorem q_14 {d : Nat} {K : Int32 → ST → Prop} (p0 : Int32) (s : ST) (k : w_14 p0 s K) : Rn sc (d + 0) 14 [.ref 1, .int p0] (hpS s) (kI K) := by
  have hq : prog[14]? = some pm14 := rfl
  refine Rn.of (L := [.ref 1, .int p0]) hq rfl rfl ?_
  unfold w_14 at k
  refine Ex.seg hq 1 (j := 1) (L' := [.ref 1, .int p0]) (S' := [.int p0]) (h' := hpS s) rfl ?_
  refine Ex.i1 hq rfl (fun c => ?_) (fun c => ?_)
  · have k := k.1 c
    refine Ex.seg hq 1 (j := 12) (L' := [.ref 1, .int p0]) (S' := [.int (-1 : Int32)]) (h' := hpS s) rfl ?_
    exact Ex.rt hq rfl rfl ⟨(-1 : Int32), s, rfl, rfl, k⟩
  · have k := k.2 c
    refine Ex.seg hq 3 (j := 5) (L' := [.ref 1, .int p0]) (S' := [.int (s.1 103), .int p0]) (h' := hpS s) rfl ?_
    refine Ex.i2 hq rfl (fun c => ?_) (fun c => ?_)
    · have k := k.1 c
      refine Ex.seg hq 1 (j := 12) (L' := [.ref 1, .int p0]) (S' := [.int (-1 : Int32)]) (h' := hpS s) rfl ?_
      exact Ex.rt hq rfl rfl ⟨(-1 : Int32), s, rfl, rfl, k⟩
    · have k := k.2 c
      refine Ex.seg hq 3 (j := 9) (L' := [.ref 1, .int p0]) (S' := [.int p0, .ref 7]) (h' := hpS s) rfl ?_
      obtain ⟨hin, k⟩ := k
      refine Ex.ial hq rfl rfl hin ?_
      refine Ex.seg hq 1 (j := 12) (L' := [.ref 1, .int p0]) (S' := [.int ((s.2.1 7) (p0).toNatClampNeg)]) (h' := hpS s) rfl ?_
      exact Ex.rt hq rfl rfl ⟨((s.2.1 7) (p0).toNatClampNeg), s, rfl, rfl, k⟩
/-- RowAuditor$Books.payeeOf(I)I -/
def w_15 (p0 : Int32) (s : ST) (K : Int32 → ST → Prop) : Prop := w_9 p0 (0 : Int32) s (fun r2 s1 => ((r2 = 0 → w_9 p0 (2 : Int32) s1 (fun r4 s3 => K r4 s3)) ∧ (¬ (r2 = 0) → ((¬ r2 = (1 : Int32) → K (-1 : Int32) s1) ∧ (¬ (¬ r2 = (1 : Int32)) → w_9 p0 (2 : Int32) s1 (fun r6 s5 => K r6 s5))))))
theorem q_15 {d : Nat} {K : Int32 → ST → Prop} (p0 : Int32) (s : ST) (k : w_15 p0 s K) : Rn sc (d + 1) 15 [.ref 1, .int p0] (hpS s) (kI K) := by
  have hq : prog[15]? = some pm15 := rfl
  refine Rn.of (L := [.ref 1, .int p0, pu]) hq rfl rfl ?_
  unfold w_15 at k
  refine Ex.seg hq 3 (j := 3) (L' := [.ref 1, .int p0, pu]) (S' := [.int (0 : Int32), .int p0, .ref 1]) (h' := hpS s) rfl ?_
  refine Ex.cl hq rfl rfl ?_
  refine Rn.mono (q_9 (d := d + 0) p0 (0 : Int32) s k) ?_
  rintro _ _ ⟨r2, s1, rfl, rfl, k⟩
  show Ex sc (d + 1) 15 4 [.ref 1, .int p0, pu] [.int r2] (hpS s1) _
  refine Ex.seg hq 2 (j := 6) (L' := [.ref 1, .int p0, .int r2]) (S' := [.int r2]) (h' := hpS s1) rfl ?_
  refine Ex.i1 hq rfl (fun c => ?_) (fun c => ?_)
  · have k := k.1 c
    refine Ex.seg hq 3 (j := 13) (L' := [.ref 1, .int p0, .int r2]) (S' := [.int (2 : Int32), .int p0, .ref 1]) (h' := hpS s1) rfl ?_
    refine Ex.cl hq rfl rfl ?_
    refine Rn.mono (q_9 (d := d + 0) p0 (2 : Int32) s1 k) ?_
    rintro _ _ ⟨r4, s3, rfl, rfl, k⟩
    show Ex sc (d + 1) 15 14 [.ref 1, .int p0, .int r2] [.int r4] (hpS s3) _
    refine Ex.seg hq 1 (j := 16) (L' := [.ref 1, .int p0, .int r2]) (S' := [.int r4]) (h' := hpS s3) rfl ?_
    exact Ex.rt hq rfl rfl ⟨r4, s3, rfl, rfl, k⟩
  · have k := k.2 c
    refine Ex.seg hq 2 (j := 9) (L' := [.ref 1, .int p0, .int r2]) (S' := [.int (1 : Int32), .int r2]) (h' := hpS s1) rfl ?_
    refine Ex.i2 hq rfl (fun c => ?_) (fun c => ?_)
    · have k := k.1 c
      refine Ex.seg hq 1 (j := 16) (L' := [.ref 1, .int p0, .int r2]) (S' := [.int (-1 : Int32)]) (h' := hpS s1) rfl ?_
      exact Ex.rt hq rfl rfl ⟨(-1 : Int32), s1, rfl, rfl, k⟩
    · have k := k.2 c
      refine Ex.seg hq 3 (j := 13) (L' := [.ref 1, .int p0, .int r2]) (S' := [.int (2 : Int32), .int p0, .ref 1]) (h' := hpS s1) rfl ?_
      refine Ex.cl hq rfl rfl ?_
      refine Rn.mono (q_9 (d := d + 0) p0 (2 : Int32) s1 k) ?_
      rintro _ _ ⟨r6, s5, rfl, rfl, k⟩
      show Ex sc (d + 1) 15 14 [.ref 1, .int p0, .int r2] [.int r6] (hpS s5) _
      refine Ex.seg hq 1 (j := 16) (L' := [.ref 1, .int p0, .int r2]) (S' := [.int r6]) (h' := hpS s5) rfl ?_
      exact Ex.rt hq rfl rfl ⟨r6, s5, rfl, rfl, k⟩
/-- RowAuditor$Books.houseInto(I)I -/
def w_16 (p0 : Int32) (s : ST) (K : Int32 → ST → Prop) : Prop := w_9 p0 (0 : Int32) s (fun r2 s1 => ((¬ r2 = (2 : Int32) → K (-1 : Int32) s1) ∧ (¬ (¬ r2 = (2 : Int32)) → w_9 p0 (2 : Int32) s1 (fun r4 s3 => K r4 s3))))
theorem q_16 {d : Nat} {K : Int32 → ST → Prop} (p0 : Int32) (s : ST) (k : w_16 p0 s K) : Rn sc (d + 1) 16 [.ref 1, .int p0] (hpS s) (kI K) := by
  have hq : prog[16]? = some pm16 := rfl
  refine Rn.of (L := [.ref 1, .int p0]) hq rfl rfl ?_
  unfold w_16 at k
  refine Ex.seg hq 3 (j := 3) (L' := [.ref 1, .int p0]) (S' := [.int (0 : Int32), .int p0, .ref 1]) (h' := hpS s) rfl ?_
  refine Ex.cl hq rfl rfl ?_
  refine Rn.mono (q_9 (d := d + 0) p0 (0 : Int32) s k) ?_
  rintro _ _ ⟨r2, s1, rfl, rfl, k⟩
  show Ex sc (d + 1) 16 4 [.ref 1, .int p0] [.int r2] (hpS s1) _
  refine Ex.seg hq 1 (j := 5) (L' := [.ref 1, .int p0]) (S' := [.int (2 : Int32), .int r2]) (h' := hpS s1) rfl ?_
  refine Ex.i2 hq rfl (fun c => ?_) (fun c => ?_)
  · have k := k.1 c
    refine Ex.seg hq 1 (j := 12) (L' := [.ref 1, .int p0]) (S' := [.int (-1 : Int32)]) (h' := hpS s1) rfl ?_
    exact Ex.rt hq rfl rfl ⟨(-1 : Int32), s1, rfl, rfl, k⟩
  · have k := k.2 c
    refine Ex.seg hq 3 (j := 9) (L' := [.ref 1, .int p0]) (S' := [.int (2 : Int32), .int p0, .ref 1]) (h' := hpS s1) rfl ?_
    refine Ex.cl hq rfl rfl ?_
    refine Rn.mono (q_9 (d := d + 0) p0 (2 : Int32) s1 k) ?_
    rintro _ _ ⟨r4, s3, rfl, rfl, k⟩
    show Ex sc (d + 1) 16 10 [.ref 1, .int p0] [.int r4] (hpS s3) _
    refine Ex.seg hq 1 (j := 12) (L' := [.ref 1, .int p0]) (S' := [.int r4]) (h' := hpS s3) rfl ?_
    exact Ex.rt hq rfl rfl ⟨r4, s3, rfl, rfl, k⟩
/-- RowAuditor$Books.direction(II)I -/
def w_17 (p0 : Int32) (p1 : Int32) (s : ST) (K : Int32 → ST → Prop) : Prop := w_16 p0 s (fun r2 s1 => ((¬ r2 = p1 → w_9 p0 (0 : Int32) s1 (fun r4 s3 => w_9 p0 (1 : Int32) s3 (fun r6 s5 => ((¬ r6 = p1 → K (0 : Int32) s5) ∧ (¬ (¬ r6 = p1) → ((¬ r4 = (3 : Int32) → ((¬ r4 = 0 → K (-1 : Int32) s5) ∧ (¬ (¬ r4 = 0) → K (1 : Int32) s5))) ∧ (¬ (¬ r4 = (3 : Int32)) → K (0 : Int32) s5))))))) ∧ (¬ (¬ r2 = p1) → K (1 : Int32) s1)))
theorem q_17 {d : Nat} {K : Int32 → ST → Prop} (p0 : Int32) (p1 : Int32) (s : ST) (k : w_17 p0 p1 s K) : Rn sc (d + 2) 17 [.ref 1, .int p0, .int p1] (hpS s) (kI K) := by
  have hq : prog[17]? = some pm17 := rfl
  refine Rn.of (L := [.ref 1, .int p0, .int p1, pu]) hq rfl rfl ?_
  unfold w_17 at k
  refine Ex.seg hq 2 (j := 2) (L' := [.ref 1, .int p0, .int p1, pu]) (S' := [.int p0, .ref 1]) (h' := hpS s) rfl ?_
  refine Ex.cl hq rfl rfl ?_
  refine Rn.mono (q_16 (d := d + 0) p0 s k) ?_
  rintro _ _ ⟨r2, s1, rfl, rfl, k⟩
  show Ex sc (d + 2) 17 3 [.ref 1, .int p0, .int p1, pu] [.int r2] (hpS s1) _
  refine Ex.seg hq 1 (j := 4) (L' := [.ref 1, .int p0, .int p1, pu]) (S' := [.int p1, .int r2]) (h' := hpS s1) rfl ?_
  refine Ex.i2 hq rfl (fun c => ?_) (fun c => ?_)
  · have k := k.1 c
    refine Ex.seg hq 3 (j := 10) (L' := [.ref 1, .int p0, .int p1, pu]) (S' := [.int (0 : Int32), .int p0, .ref 1]) (h' := hpS s1) rfl ?_
    refine Ex.cl hq rfl rfl ?_
    refine Rn.mono (q_9 (d := d + 1) p0 (0 : Int32) s1 k) ?_
    rintro _ _ ⟨r4, s3, rfl, rfl, k⟩
    show Ex sc (d + 2) 17 11 [.ref 1, .int p0, .int p1, pu] [.int r4] (hpS s3) _
    refine Ex.seg hq 4 (j := 15) (L' := [.ref 1, .int p0, .int p1, .int r4]) (S' := [.int (1 : Int32), .int p0, .ref 1]) (h' := hpS s3) rfl ?_
    refine Ex.cl hq rfl rfl ?_
    refine Rn.mono (q_9 (d := d + 1) p0 (1 : Int32) s3 k) ?_
    rintro _ _ ⟨r6, s5, rfl, rfl, k⟩
    show Ex sc (d + 2) 17 16 [.ref 1, .int p0, .int p1, .int r4] [.int r6] (hpS s5) _
    refine Ex.seg hq 1 (j := 17) (L' := [.ref 1, .int p0, .int p1, .int r4]) (S' := [.int p1, .int r6]) (h' := hpS s5) rfl ?_
    refine Ex.i2 hq rfl (fun c => ?_) (fun c => ?_)
    · have k := k.1 c
      refine Ex.seg hq 1 (j := 22) (L' := [.ref 1, .int p0, .int p1, .int r4]) (S' := [.int (0 : Int32)]) (h' := hpS s5) rfl ?_
      exact Ex.rt hq rfl rfl ⟨(0 : Int32), s5, rfl, rfl, k⟩
    · have k := k.2 c
      refine Ex.seg hq 2 (j := 20) (L' := [.ref 1, .int p0, .int p1, .int r4]) (S' := [.int (3 : Int32), .int r4]) (h' := hpS s5) rfl ?_
      refine Ex.i2 hq rfl (fun c => ?_) (fun c => ?_)
      · have k := k.1 c
        refine Ex.seg hq 1 (j := 24) (L' := [.ref 1, .int p0, .int p1, .int r4]) (S' := [.int r4]) (h' := hpS s5) rfl ?_
        refine Ex.i1 hq rfl (fun c => ?_) (fun c => ?_)
        · have k := k.1 c
          refine Ex.seg hq 1 (j := 28) (L' := [.ref 1, .int p0, .int p1, .int r4]) (S' := [.int (-1 : Int32)]) (h' := hpS s5) rfl ?_
          exact Ex.rt hq rfl rfl ⟨(-1 : Int32), s5, rfl, rfl, k⟩
        · have k := k.2 c
          refine Ex.seg hq 2 (j := 28) (L' := [.ref 1, .int p0, .int p1, .int r4]) (S' := [.int (1 : Int32)]) (h' := hpS s5) rfl ?_
          exact Ex.rt hq rfl rfl ⟨(1 : Int32), s5, rfl, rfl, k⟩
      · have k := k.2 c
        refine Ex.seg hq 1 (j := 22) (L' := [.ref 1, .int p0, .int p1, .int r4]) (S' := [.int (0 : Int32)]) (h' := hpS s5) rfl ?_
        exact Ex.rt hq rfl rfl ⟨(0 : Int32), s5, rfl, rfl, k⟩
  · have k := k.2 c
    refine Ex.seg hq 1 (j := 6) (L' := [.ref 1, .int p0, .int p1, pu]) (S' := [.int (1 : Int32)]) (h' := hpS s1) rfl ?_
    exact Ex.rt hq rfl rfl ⟨(1 : Int32), s1, rfl, rfl, k⟩
/-- RowAuditor$Facts.letter(I)J -/
def w_22 (p0 : Int32) (s : ST) (K : Int64 → ST → Prop) : Prop := ((p0 < 0 → K (0 : Int64) s) ∧ (¬ (p0 < 0) → (((Int32.ofNat 13) ≤ p0 → K (0 : Int64) s) ∧ (¬ ((Int32.ofNat 13) ≤ p0) → (pin p0 13 = true ∧ K ((s.2.2.1 17) (p0).toNatClampNeg) s)))))
theorem q_22 {d : Nat} {K : Int64 → ST → Prop} (p0 : Int32) (s : ST) (k : w_22 p0 s K) : Rn sc (d + 0) 22 [.ref 16, .int p0] (hpS s) (kJ K) := by
  have hq : prog[22]? = some pm22 := rfl
  refine Rn.of (L := [.ref 16, .int p0]) hq rfl rfl ?_
  unfold w_22 at k
  refine Ex.seg hq 1 (j := 1) (L' := [.ref 16, .int p0]) (S' := [.int p0]) (h' := hpS s) rfl ?_
  refine Ex.i1 hq rfl (fun c => ?_) (fun c => ?_)
  · have k := k.1 c
    refine Ex.seg hq 1 (j := 13) (L' := [.ref 16, .int p0]) (S' := [.long (0 : Int64)]) (h' := hpS s) rfl ?_
    exact Ex.rt hq rfl rfl ⟨(0 : Int64), s, rfl, rfl, k⟩
  · have k := k.2 c
    refine Ex.seg hq 4 (j := 6) (L' := [.ref 16, .int p0]) (S' := [.int (Int32.ofNat 13), .int p0]) (h' := hpS s) rfl ?_
    refine Ex.i2 hq rfl (fun c => ?_) (fun c => ?_)
    · have k := k.1 c
      refine Ex.seg hq 1 (j := 13) (L' := [.ref 16, .int p0]) (S' := [.long (0 : Int64)]) (h' := hpS s) rfl ?_
      exact Ex.rt hq rfl rfl ⟨(0 : Int64), s, rfl, rfl, k⟩
    · have k := k.2 c
      refine Ex.seg hq 3 (j := 10) (L' := [.ref 16, .int p0]) (S' := [.int p0, .ref 17]) (h' := hpS s) rfl ?_
      obtain ⟨hin, k⟩ := k
      refine Ex.lal hq rfl rfl hin ?_
      refine Ex.seg hq 1 (j := 13) (L' := [.ref 16, .int p0]) (S' := [.long ((s.2.2.1 17) (p0).toNatClampNeg)]) (h' := hpS s) rfl ?_
      exact Ex.rt hq rfl rfl ⟨((s.2.2.1 17) (p0).toNatClampNeg), s, rfl, rfl, k⟩
/-- RowAuditor$Facts.isRefused(IJ)Z -/
def w_23 (p0 : Int32) (p1 : Int64) (s : ST) (K : Int32 → ST → Prop) : Prop := ((¬ (lg_cmp p1 (0 : Int64)) = 0 → K (0 : Int32) s) ∧ (¬ (¬ (lg_cmp p1 (0 : Int64)) = 0) → ((p0 = (8 : Int32) → K (1 : Int32) s) ∧ (¬ (p0 = (8 : Int32)) → ((¬ p0 = (9 : Int32) → K (0 : Int32) s) ∧ (¬ (¬ p0 = (9 : Int32)) → K (1 : Int32) s))))))
theorem q_23 {d : Nat} {K : Int32 → ST → Prop} (p0 : Int32) (p1 : Int64) (s : ST) (k : w_23 p0 p1 s K) : Rn sc (d + 0) 23 [.int p0, .long p1] (hpS s) (kZ K) := by
  have hq : prog[23]? = some pm23 := rfl
  refine Rn.of (L := [.int p0, .long p1, pu]) hq rfl rfl ?_
  unfold w_23 at k
  refine Ex.seg hq 3 (j := 3) (L' := [.int p0, .long p1, pu]) (S' := [.int (lg_cmp p1 (0 : Int64))]) (h' := hpS s) rfl ?_
  refine Ex.i1 hq rfl (fun c => ?_) (fun c => ?_)
  · have k := k.1 c
    refine Ex.seg hq 1 (j := 13) (L' := [.int p0, .long p1, pu]) (S' := [.int (0 : Int32)]) (h' := hpS s) rfl ?_
    exact Ex.zr hq rfl rfl (Or.inl rfl) ⟨(0 : Int32), s, rfl, (Or.inl rfl), rfl, k⟩
  · have k := k.2 c
    refine Ex.seg hq 2 (j := 6) (L' := [.int p0, .long p1, pu]) (S' := [.int (8 : Int32), .int p0]) (h' := hpS s) rfl ?_
    refine Ex.i2 hq rfl (fun c => ?_) (fun c => ?_)
    · have k := k.1 c
      refine Ex.seg hq 2 (j := 13) (L' := [.int p0, .long p1, pu]) (S' := [.int (1 : Int32)]) (h' := hpS s) rfl ?_
      exact Ex.zr hq rfl rfl (Or.inr rfl) ⟨(1 : Int32), s, rfl, (Or.inr rfl), rfl, k⟩
    · have k := k.2 c
      refine Ex.seg hq 2 (j := 9) (L' := [.int p0, .long p1, pu]) (S' := [.int (9 : Int32), .int p0]) (h' := hpS s) rfl ?_
      refine Ex.i2 hq rfl (fun c => ?_) (fun c => ?_)
      · have k := k.1 c
        refine Ex.seg hq 1 (j := 13) (L' := [.int p0, .long p1, pu]) (S' := [.int (0 : Int32)]) (h' := hpS s) rfl ?_
        exact Ex.zr hq rfl rfl (Or.inl rfl) ⟨(0 : Int32), s, rfl, (Or.inl rfl), rfl, k⟩
      · have k := k.2 c
        refine Ex.seg hq 2 (j := 13) (L' := [.int p0, .long p1, pu]) (S' := [.int (1 : Int32)]) (h' := hpS s) rfl ?_
        exact Ex.zr hq rfl rfl (Or.inr rfl) ⟨(1 : Int32), s, rfl, (Or.inr rfl), rfl, k⟩
/-- RowAuditor$Facts.reckon(IJJ)J -/
def w_24 (p0 : Int32) (p1 : Int64) (p2 : Int64) (s : ST) (K : Int64 → ST → Prop) : Prop := (((p0).toInt < 5 ∨ 11 < (p0).toInt → ((¬ (lg_cmp p1 p2) = 0 → K (0 : Int64) s) ∧ (¬ (¬ (lg_cmp p1 p2) = 0) → K (1 : Int64) s))) ∧ (p0 = (5 : Int32) → K (p1 + p2) s) ∧ (p0 = (6 : Int32) → K (p1 - p2) s) ∧ (p0 = (7 : Int32) → K (p1 * p2) s) ∧ (p0 = (8 : Int32) → ((¬ (lg_cmp p2 (0 : Int64)) = 0 → (¬ p2 = 0 ∧ K (p1 / p2) s)) ∧ (¬ (¬ (lg_cmp p2 (0 : Int64)) = 0) → K (0 : Int64) s))) ∧ (p0 = (9 : Int32) → ((¬ (lg_cmp p2 (0 : Int64)) = 0 → (¬ p2 = 0 ∧ K (p1 - p1 / p2 * p2) s)) ∧ (¬ (¬ (lg_cmp p2 (0 : Int64)) = 0) → K (0 : Int64) s))) ∧ (p0 = (10 : Int32) → ((0 ≤ (lg_cmp p1 p2) → K (0 : Int64) s) ∧ (¬ (0 ≤ (lg_cmp p1 p2)) → K (1 : Int64) s))) ∧ (p0 = (11 : Int32) → (((lg_cmp p1 p2) ≤ 0 → K (0 : Int64) s) ∧ (¬ ((lg_cmp p1 p2) ≤ 0) → K (1 : Int64) s))))
theorem q_24 {d : Nat} {K : Int64 → ST → Prop} (p0 : Int32) (p1 : Int64) (p2 : Int64) (s : ST) (k : w_24 p0 p1 p2 s K) : Rn sc (d + 0) 24 [.int p0, .long p1, .long p2] (hpS s) (kJ K) := by
  have hq : prog[24]? = some pm24 := rfl
  refine Rn.of (L := [.int p0, .long p1, pu, .long p2, pu]) hq rfl rfl ?_
  unfold w_24 at k
  refine Ex.seg hq 1 (j := 1) (L' := [.int p0, .long p1, pu, .long p2, pu]) (S' := [.int p0]) (h' := hpS s) rfl ?_
  refine Ex.tsw hq rfl (fun c => ?_) (fun t c ht => ?_) (by decide)
  · have k := k.1 c
    refine Ex.seg hq 3 (j := 53) (L' := [.int p0, .long p1, pu, .long p2, pu]) (S' := [.int (lg_cmp p1 p2)]) (h' := hpS s) rfl ?_
    refine Ex.i1 hq rfl (fun c => ?_) (fun c => ?_)
    · have k := k.1 c
      refine Ex.seg hq 1 (j := 57) (L' := [.int p0, .long p1, pu, .long p2, pu]) (S' := [.long (0 : Int64)]) (h' := hpS s) rfl ?_
      exact Ex.rt hq rfl rfl ⟨(0 : Int64), s, rfl, rfl, k⟩
    · have k := k.2 c
      refine Ex.seg hq 2 (j := 57) (L' := [.int p0, .long p1, pu, .long p2, pu]) (S' := [.long (1 : Int64)]) (h' := hpS s) rfl ?_
      exact Ex.rt hq rfl rfl ⟨(1 : Int64), s, rfl, rfl, k⟩
  · have k := k.2
    rcases (show (p0).toInt = 5 ∨ (p0).toInt = 6 ∨ (p0).toInt = 7 ∨ (p0).toInt = 8 ∨ (p0).toInt = 9 ∨ (p0).toInt = 10 ∨ (p0).toInt = 11 by omega) with e | e | e | e | e | e | e
    · have cx : p0 = (5 : Int32) := Int32.toInt_inj.mp (by rw [e]; rfl)
      have k := k.1 cx
      rw [e] at ht
      have ht : (some 2 : Option Nat) = some t := ht
      cases ht
      refine Ex.seg hq 3 (j := 5) (L' := [.int p0, .long p1, pu, .long p2, pu]) (S' := [.long (p1 + p2)]) (h' := hpS s) rfl ?_
      exact Ex.rt hq rfl rfl ⟨(p1 + p2), s, rfl, rfl, k⟩
    · have cx : p0 = (6 : Int32) := Int32.toInt_inj.mp (by rw [e]; rfl)
      have k := k.2.1 cx
      rw [e] at ht
      have ht : (some 6 : Option Nat) = some t := ht
      cases ht
      refine Ex.seg hq 3 (j := 9) (L' := [.int p0, .long p1, pu, .long p2, pu]) (S' := [.long (p1 - p2)]) (h' := hpS s) rfl ?_
      exact Ex.rt hq rfl rfl ⟨(p1 - p2), s, rfl, rfl, k⟩
    · have cx : p0 = (7 : Int32) := Int32.toInt_inj.mp (by rw [e]; rfl)
      have k := k.2.2.1 cx
      rw [e] at ht
      have ht : (some 10 : Option Nat) = some t := ht
      cases ht
      refine Ex.seg hq 3 (j := 13) (L' := [.int p0, .long p1, pu, .long p2, pu]) (S' := [.long (p1 * p2)]) (h' := hpS s) rfl ?_
      exact Ex.rt hq rfl rfl ⟨(p1 * p2), s, rfl, rfl, k⟩
    · have cx : p0 = (8 : Int32) := Int32.toInt_inj.mp (by rw [e]; rfl)
      have k := k.2.2.2.1 cx
      rw [e] at ht
      have ht : (some 14 : Option Nat) = some t := ht
      cases ht
      refine Ex.seg hq 3 (j := 17) (L' := [.int p0, .long p1, pu, .long p2, pu]) (S' := [.int (lg_cmp p2 (0 : Int64))]) (h' := hpS s) rfl ?_
      refine Ex.i1 hq rfl (fun c => ?_) (fun c => ?_)
      · have k := k.1 c
        refine Ex.seg hq 2 (j := 22) (L' := [.int p0, .long p1, pu, .long p2, pu]) (S' := [.long p2, .long p1]) (h' := hpS s) rfl ?_
        obtain ⟨hz, k⟩ := k
        refine Ex.ldv hq rfl hz ?_
        exact Ex.rt hq rfl rfl ⟨(p1 / p2), s, rfl, rfl, k⟩
      · have k := k.2 c
        refine Ex.seg hq 2 (j := 23) (L' := [.int p0, .long p1, pu, .long p2, pu]) (S' := [.long (0 : Int64)]) (h' := hpS s) rfl ?_
        exact Ex.rt hq rfl rfl ⟨(0 : Int64), s, rfl, rfl, k⟩
    · have cx : p0 = (9 : Int32) := Int32.toInt_inj.mp (by rw [e]; rfl)
      have k := k.2.2.2.2.1 cx
      rw [e] at ht
      have ht : (some 24 : Option Nat) = some t := ht
      cases ht
      refine Ex.seg hq 3 (j := 27) (L' := [.int p0, .long p1, pu, .long p2, pu]) (S' := [.int (lg_cmp p2 (0 : Int64))]) (h' := hpS s) rfl ?_
      refine Ex.i1 hq rfl (fun c => ?_) (fun c => ?_)
      · have k := k.1 c
        refine Ex.seg hq 2 (j := 32) (L' := [.int p0, .long p1, pu, .long p2, pu]) (S' := [.long p2, .long p1]) (h' := hpS s) rfl ?_
        obtain ⟨hz, k⟩ := k
        refine Ex.lrm hq rfl hz ?_
        exact Ex.rt hq rfl rfl ⟨(p1 - p1 / p2 * p2), s, rfl, rfl, k⟩
      · have k := k.2 c
        refine Ex.seg hq 2 (j := 33) (L' := [.int p0, .long p1, pu, .long p2, pu]) (S' := [.long (0 : Int64)]) (h' := hpS s) rfl ?_
        exact Ex.rt hq rfl rfl ⟨(0 : Int64), s, rfl, rfl, k⟩
    · have cx : p0 = (10 : Int32) := Int32.toInt_inj.mp (by rw [e]; rfl)
      have k := k.2.2.2.2.2.1 cx
      rw [e] at ht
      have ht : (some 34 : Option Nat) = some t := ht
      cases ht
      refine Ex.seg hq 3 (j := 37) (L' := [.int p0, .long p1, pu, .long p2, pu]) (S' := [.int (lg_cmp p1 p2)]) (h' := hpS s) rfl ?_
      refine Ex.i1 hq rfl (fun c => ?_) (fun c => ?_)
      · have k := k.1 c
        refine Ex.seg hq 1 (j := 41) (L' := [.int p0, .long p1, pu, .long p2, pu]) (S' := [.long (0 : Int64)]) (h' := hpS s) rfl ?_
        exact Ex.rt hq rfl rfl ⟨(0 : Int64), s, rfl, rfl, k⟩
      · have k := k.2 c
        refine Ex.seg hq 2 (j := 41) (L' := [.int p0, .long p1, pu, .long p2, pu]) (S' := [.long (1 : Int64)]) (h' := hpS s) rfl ?_
        exact Ex.rt hq rfl rfl ⟨(1 : Int64), s, rfl, rfl, k⟩
    · have cx : p0 = (11 : Int32) := Int32.toInt_inj.mp (by rw [e]; rfl)
      have k := k.2.2.2.2.2.2 cx
      rw [e] at ht
      have ht : (some 42 : Option Nat) = some t := ht
      cases ht
      refine Ex.seg hq 3 (j := 45) (L' := [.int p0, .long p1, pu, .long p2, pu]) (S' := [.int (lg_cmp p1 p2)]) (h' := hpS s) rfl ?_
      refine Ex.i1 hq rfl (fun c => ?_) (fun c => ?_)
      · have k := k.1 c
        refine Ex.seg hq 1 (j := 49) (L' := [.int p0, .long p1, pu, .long p2, pu]) (S' := [.long (0 : Int64)]) (h' := hpS s) rfl ?_
        exact Ex.rt hq rfl rfl ⟨(0 : Int64), s, rfl, rfl, k⟩
      · have k := k.2 c
        refine Ex.seg hq 2 (j := 49) (L' := [.int p0, .long p1, pu, .long p2, pu]) (S' := [.long (1 : Int64)]) (h' := hpS s) rfl ?_
        exact Ex.rt hq rfl rfl ⟨(1 : Int64), s, rfl, rfl, k⟩
def w_33_55 : Nat → Int32 → Int32 → Int32 → ST → (Int32 → ST → Prop) → (Int32 → ST → Prop) → Prop
  | 0, _, _, _, _, _, _ => False
  | n + 1, x3, x4, x5, s, X79, K => (((s.1 5007) ≤ x5 → X79 x4 s) ∧ (¬ ((s.1 5007) ≤ x5) → (((4 : Int32) ≤ x5 → X79 x4 s) ∧ (¬ ((4 : Int32) ≤ x5) → (pin x5 4 = true ∧ ((¬ (((s.2.1 54) (x5).toNatClampNeg) &&& (x3 ^^^ (-1 : Int32))) = 0 → w_33_55 n x3 x4 (x5 + (1 : Int32)) s X79 K) ∧ (¬ (¬ (((s.2.1 54) (x5).toNatClampNeg) &&& (x3 ^^^ (-1 : Int32))) = 0) → w_33_55 n x3 (x4 ||| ((1 : Int32) <<< (x5 &&& 31))) (x5 + (1 : Int32)) s X79 K)))))))
theorem q_33_55 {d : Nat} {X79 : Int32 → ST → Prop} {K : Int32 → ST → Prop} : ∀ (n : Nat) (x3 : Int32) (x4 : Int32) (x5 : Int32) (s : ST), w_33_55 n x3 x4 x5 s X79 K → (∀ (y4 : Int32) (s : ST), X79 y4 s → Ex sc (d + 2) 33 79 [pu, pu, pu, pu, .int y4, pu] [] (hpS s) (kI K)) → Ex sc (d + 2) 33 55 [.ref 50, pu, pu, .int x3, .int x4, .int x5] [] (hpS s) (kI K) := by
  have hq : prog[33]? = some pm33 := rfl
  intro n
  induction n with
  | zero =>
    intro x3 x4 x5 s k
    exact k.elim
  | succ n ih =>
    intro x3 x4 x5 s k hX79
    rw [w_33_55] at k
    refine Ex.seg hq 3 (j := 58) (L' := [.ref 50, pu, pu, .int x3, .int x4, .int x5]) (S' := [.int (s.1 5007), .int x5]) (h' := hpS s) rfl ?_
    refine Ex.i2 hq rfl (fun c => ?_) (fun c => ?_)
    · have k := k.1 c
      refine Ex.fg (L := [pu, pu, pu, pu, .int x4, pu]) ⟨Or.inr ⟨rfl, rfl⟩, ⟨Or.inl rfl, ⟨Or.inl rfl, ⟨Or.inr ⟨rfl, rfl⟩, ⟨Or.inl rfl, ⟨Or.inr ⟨rfl, rfl⟩, trivial⟩⟩⟩⟩⟩⟩ ?_
      exact hX79 x4 s k
    · have k := k.2 c
      refine Ex.seg hq 2 (j := 61) (L' := [.ref 50, pu, pu, .int x3, .int x4, .int x5]) (S' := [.int (4 : Int32), .int x5]) (h' := hpS s) rfl ?_
      refine Ex.i2 hq rfl (fun c => ?_) (fun c => ?_)
      · have k := k.1 c
        refine Ex.fg (L := [pu, pu, pu, pu, .int x4, pu]) ⟨Or.inr ⟨rfl, rfl⟩, ⟨Or.inl rfl, ⟨Or.inl rfl, ⟨Or.inr ⟨rfl, rfl⟩, ⟨Or.inl rfl, ⟨Or.inr ⟨rfl, rfl⟩, trivial⟩⟩⟩⟩⟩⟩ ?_
        exact hX79 x4 s k
      · have k := k.2 c
        refine Ex.seg hq 3 (j := 65) (L' := [.ref 50, pu, pu, .int x3, .int x4, .int x5]) (S' := [.int x5, .ref 54]) (h' := hpS s) rfl ?_
        obtain ⟨hin, k⟩ := k
        refine Ex.ial hq rfl rfl hin ?_
        refine Ex.seg hq 4 (j := 70) (L' := [.ref 50, pu, pu, .int x3, .int x4, .int x5]) (S' := [.int (((s.2.1 54) (x5).toNatClampNeg) &&& (x3 ^^^ (-1 : Int32)))]) (h' := hpS s) rfl ?_
        refine Ex.i1 hq rfl (fun c => ?_) (fun c => ?_)
        · have k := k.1 c
          refine Ex.seg hq 2 (j := 55) (L' := [.ref 50, pu, pu, .int x3, .int x4, .int (x5 + (1 : Int32))]) (S' := []) (h' := hpS s) rfl ?_
          exact ih x3 x4 (x5 + (1 : Int32)) s k hX79
        · have k := k.2 c
          refine Ex.seg hq 8 (j := 55) (L' := [.ref 50, pu, pu, .int x3, .int (x4 ||| ((1 : Int32) <<< (x5 &&& 31))), .int (x5 + (1 : Int32))]) (S' := []) (h' := hpS s) rfl ?_
          exact ih x3 (x4 ||| ((1 : Int32) <<< (x5 &&& 31))) (x5 + (1 : Int32)) s k hX79
/-- RowAuditor$Fitter.stepsAlike(II)I -/
def w_33 (p0 : Int32) (p1 : Int32) (s : ST) (K : Int32 → ST → Prop) : Prop := w_15 p1 s (fun r2 s1 => w_15 p0 s1 (fun r4 s3 => ((¬ r2 = r4 → w_9 p1 (6 : Int32) s3 (fun r6 s5 => w_9 p0 (6 : Int32) s5 (fun r8 s7 => ((¬ r6 = r8 → w_9 p1 (1 : Int32) s7 (fun r10 s9 => w_9 p0 (1 : Int32) s9 (fun r12 s11 => ((¬ r10 = r12 → (∃ m, w_33_55 m ((((0 : Int32) ||| (0 : Int32)) ||| (0 : Int32)) ||| (0 : Int32)) (0 : Int32) (1 : Int32) s11 (fun y4 s13 => K y4 s13) K)) ∧ (¬ (¬ r10 = r12) → (∃ m, w_33_55 m ((((0 : Int32) ||| (0 : Int32)) ||| (0 : Int32)) ||| (4 : Int32)) (0 : Int32) (1 : Int32) s11 (fun y4 s14 => K y4 s14) K)))))) ∧ (¬ (¬ r6 = r8) → w_9 p1 (1 : Int32) s7 (fun r16 s15 => w_9 p0 (1 : Int32) s15 (fun r18 s17 => ((¬ r16 = r18 → (∃ m, w_33_55 m ((((0 : Int32) ||| (0 : Int32)) ||| (2 : Int32)) ||| (0 : Int32)) (0 : Int32) (1 : Int32) s17 (fun y4 s19 => K y4 s19) K)) ∧ (¬ (¬ r16 = r18) → (∃ m, w_33_55 m ((((0 : Int32) ||| (0 : Int32)) ||| (2 : Int32)) ||| (4 : Int32)) (0 : Int32) (1 : Int32) s17 (fun y4 s20 => K y4 s20) K)))))))))) ∧ (¬ (¬ r2 = r4) → w_9 p1 (6 : Int32) s3 (fun r22 s21 => w_9 p0 (6 : Int32) s21 (fun r24 s23 => ((¬ r22 = r24 → w_9 p1 (1 : Int32) s23 (fun r26 s25 => w_9 p0 (1 : Int32) s25 (fun r28 s27 => ((¬ r26 = r28 → (∃ m, w_33_55 m ((((0 : Int32) ||| (1 : Int32)) ||| (0 : Int32)) ||| (0 : Int32)) (0 : Int32) (1 : Int32) s27 (fun y4 s29 => K y4 s29) K)) ∧ (¬ (¬ r26 = r28) → (∃ m, w_33_55 m ((((0 : Int32) ||| (1 : Int32)) ||| (0 : Int32)) ||| (4 : Int32)) (0 : Int32) (1 : Int32) s27 (fun y4 s30 => K y4 s30) K)))))) ∧ (¬ (¬ r22 = r24) → w_9 p1 (1 : Int32) s23 (fun r32 s31 => w_9 p0 (1 : Int32) s31 (fun r34 s33 => ((¬ r32 = r34 → (∃ m, w_33_55 m ((((0 : Int32) ||| (1 : Int32)) ||| (2 : Int32)) ||| (0 : Int32)) (0 : Int32) (1 : Int32) s33 (fun y4 s35 => K y4 s35) K)) ∧ (¬ (¬ r32 = r34) → (∃ m, w_33_55 m ((((0 : Int32) ||| (1 : Int32)) ||| (2 : Int32)) ||| (4 : Int32)) (0 : Int32) (1 : Int32) s33 (fun y4 s36 => K y4 s36) K)))))))))))))
theorem q_33 {d : Nat} {K : Int32 → ST → Prop} (p0 : Int32) (p1 : Int32) (s : ST) (k : w_33 p0 p1 s K) : Rn sc (d + 2) 33 [.ref 50, .int p0, .int p1] (hpS s) (kI K) := by
  have hq : prog[33]? = some pm33 := rfl
  refine Rn.of (L := [.ref 50, .int p0, .int p1, pu, pu, pu]) hq rfl rfl ?_
  unfold w_33 at k
  refine Ex.seg hq 6 (j := 6) (L' := [.ref 50, .int p0, .int p1, .int (0 : Int32), pu, pu]) (S' := [.int p1, .ref 1, .int (0 : Int32)]) (h' := hpS s) rfl ?_
  refine Ex.cl hq rfl rfl ?_
  refine Rn.mono (q_15 (d := d + 0) p1 s k) ?_
  rintro _ _ ⟨r2, s1, rfl, rfl, k⟩
  show Ex sc (d + 2) 33 7 [.ref 50, .int p0, .int p1, .int (0 : Int32), pu, pu] [.int r2, .int (0 : Int32)] (hpS s1) _
  refine Ex.seg hq 3 (j := 10) (L' := [.ref 50, .int p0, .int p1, .int (0 : Int32), pu, pu]) (S' := [.int p0, .ref 1, .int r2, .int (0 : Int32)]) (h' := hpS s1) rfl ?_
  refine Ex.cl hq rfl rfl ?_
  refine Rn.mono (q_15 (d := d + 0) p0 s1 k) ?_
  rintro _ _ ⟨r4, s3, rfl, rfl, k⟩
  show Ex sc (d + 2) 33 11 [.ref 50, .int p0, .int p1, .int (0 : Int32), pu, pu] [.int r4, .int r2, .int (0 : Int32)] (hpS s3) _
  refine Ex.i2 hq rfl (fun c => ?_) (fun c => ?_)
  · have k := k.1 c
    refine Ex.seg hq 8 (j := 22) (L' := [.ref 50, .int p0, .int p1, .int ((0 : Int32) ||| (0 : Int32)), pu, pu]) (S' := [.int (6 : Int32), .int p1, .ref 1, .int ((0 : Int32) ||| (0 : Int32))]) (h' := hpS s3) rfl ?_
    refine Ex.cl hq rfl rfl ?_
    refine Rn.mono (q_9 (d := d + 1) p1 (6 : Int32) s3 k) ?_
    rintro _ _ ⟨r6, s5, rfl, rfl, k⟩
    show Ex sc (d + 2) 33 23 [.ref 50, .int p0, .int p1, .int ((0 : Int32) ||| (0 : Int32)), pu, pu] [.int r6, .int ((0 : Int32) ||| (0 : Int32))] (hpS s5) _
    refine Ex.seg hq 4 (j := 27) (L' := [.ref 50, .int p0, .int p1, .int ((0 : Int32) ||| (0 : Int32)), pu, pu]) (S' := [.int (6 : Int32), .int p0, .ref 1, .int r6, .int ((0 : Int32) ||| (0 : Int32))]) (h' := hpS s5) rfl ?_
    refine Ex.cl hq rfl rfl ?_
    refine Rn.mono (q_9 (d := d + 1) p0 (6 : Int32) s5 k) ?_
    rintro _ _ ⟨r8, s7, rfl, rfl, k⟩
    show Ex sc (d + 2) 33 28 [.ref 50, .int p0, .int p1, .int ((0 : Int32) ||| (0 : Int32)), pu, pu] [.int r8, .int r6, .int ((0 : Int32) ||| (0 : Int32))] (hpS s7) _
    refine Ex.i2 hq rfl (fun c => ?_) (fun c => ?_)
    · have k := k.1 c
      refine Ex.seg hq 8 (j := 39) (L' := [.ref 50, .int p0, .int p1, .int (((0 : Int32) ||| (0 : Int32)) ||| (0 : Int32)), pu, pu]) (S' := [.int (1 : Int32), .int p1, .ref 1, .int (((0 : Int32) ||| (0 : Int32)) ||| (0 : Int32))]) (h' := hpS s7) rfl ?_
      refine Ex.cl hq rfl rfl ?_
      refine Rn.mono (q_9 (d := d + 1) p1 (1 : Int32) s7 k) ?_
      rintro _ _ ⟨r10, s9, rfl, rfl, k⟩
      show Ex sc (d + 2) 33 40 [.ref 50, .int p0, .int p1, .int (((0 : Int32) ||| (0 : Int32)) ||| (0 : Int32)), pu, pu] [.int r10, .int (((0 : Int32) ||| (0 : Int32)) ||| (0 : Int32))] (hpS s9) _
      refine Ex.seg hq 4 (j := 44) (L' := [.ref 50, .int p0, .int p1, .int (((0 : Int32) ||| (0 : Int32)) ||| (0 : Int32)), pu, pu]) (S' := [.int (1 : Int32), .int p0, .ref 1, .int r10, .int (((0 : Int32) ||| (0 : Int32)) ||| (0 : Int32))]) (h' := hpS s9) rfl ?_
      refine Ex.cl hq rfl rfl ?_
      refine Rn.mono (q_9 (d := d + 1) p0 (1 : Int32) s9 k) ?_
      rintro _ _ ⟨r12, s11, rfl, rfl, k⟩
      show Ex sc (d + 2) 33 45 [.ref 50, .int p0, .int p1, .int (((0 : Int32) ||| (0 : Int32)) ||| (0 : Int32)), pu, pu] [.int r12, .int r10, .int (((0 : Int32) ||| (0 : Int32)) ||| (0 : Int32))] (hpS s11) _
      refine Ex.i2 hq rfl (fun c => ?_) (fun c => ?_)
      · have k := k.1 c
        refine Ex.seg hq 7 (j := 55) (L' := [.ref 50, .int p0, .int p1, .int ((((0 : Int32) ||| (0 : Int32)) ||| (0 : Int32)) ||| (0 : Int32)), .int (0 : Int32), .int (1 : Int32)]) (S' := []) (h' := hpS s11) rfl ?_
        obtain ⟨m, k⟩ := k
        refine Ex.fg (L := [.ref 50, pu, pu, .int ((((0 : Int32) ||| (0 : Int32)) ||| (0 : Int32)) ||| (0 : Int32)), .int (0 : Int32), .int (1 : Int32)]) ⟨Or.inl rfl, ⟨Or.inr ⟨rfl, rfl⟩, ⟨Or.inr ⟨rfl, rfl⟩, ⟨Or.inl rfl, ⟨Or.inl rfl, ⟨Or.inl rfl, trivial⟩⟩⟩⟩⟩⟩ ?_
        refine q_33_55 (d := d) m ((((0 : Int32) ||| (0 : Int32)) ||| (0 : Int32)) ||| (0 : Int32)) (0 : Int32) (1 : Int32) s11 k ?_
        · intro y4 s13 k
          refine Ex.seg hq 1 (j := 80) (L' := [pu, pu, pu, pu, .int y4, pu]) (S' := [.int y4]) (h' := hpS s13) rfl ?_
          exact Ex.rt hq rfl rfl ⟨y4, s13, rfl, rfl, k⟩
      · have k := k.2 c
        refine Ex.seg hq 8 (j := 55) (L' := [.ref 50, .int p0, .int p1, .int ((((0 : Int32) ||| (0 : Int32)) ||| (0 : Int32)) ||| (4 : Int32)), .int (0 : Int32), .int (1 : Int32)]) (S' := []) (h' := hpS s11) rfl ?_
        obtain ⟨m, k⟩ := k
        refine Ex.fg (L := [.ref 50, pu, pu, .int ((((0 : Int32) ||| (0 : Int32)) ||| (0 : Int32)) ||| (4 : Int32)), .int (0 : Int32), .int (1 : Int32)]) ⟨Or.inl rfl, ⟨Or.inr ⟨rfl, rfl⟩, ⟨Or.inr ⟨rfl, rfl⟩, ⟨Or.inl rfl, ⟨Or.inl rfl, ⟨Or.inl rfl, trivial⟩⟩⟩⟩⟩⟩ ?_
        refine q_33_55 (d := d) m ((((0 : Int32) ||| (0 : Int32)) ||| (0 : Int32)) ||| (4 : Int32)) (0 : Int32) (1 : Int32) s11 k ?_
        · intro y4 s14 k
          refine Ex.seg hq 1 (j := 80) (L' := [pu, pu, pu, pu, .int y4, pu]) (S' := [.int y4]) (h' := hpS s14) rfl ?_
          exact Ex.rt hq rfl rfl ⟨y4, s14, rfl, rfl, k⟩
    · have k := k.2 c
      refine Ex.seg hq 9 (j := 39) (L' := [.ref 50, .int p0, .int p1, .int (((0 : Int32) ||| (0 : Int32)) ||| (2 : Int32)), pu, pu]) (S' := [.int (1 : Int32), .int p1, .ref 1, .int (((0 : Int32) ||| (0 : Int32)) ||| (2 : Int32))]) (h' := hpS s7) rfl ?_
      refine Ex.cl hq rfl rfl ?_
      refine Rn.mono (q_9 (d := d + 1) p1 (1 : Int32) s7 k) ?_
      rintro _ _ ⟨r16, s15, rfl, rfl, k⟩
      show Ex sc (d + 2) 33 40 [.ref 50, .int p0, .int p1, .int (((0 : Int32) ||| (0 : Int32)) ||| (2 : Int32)), pu, pu] [.int r16, .int (((0 : Int32) ||| (0 : Int32)) ||| (2 : Int32))] (hpS s15) _
      refine Ex.seg hq 4 (j := 44) (L' := [.ref 50, .int p0, .int p1, .int (((0 : Int32) ||| (0 : Int32)) ||| (2 : Int32)), pu, pu]) (S' := [.int (1 : Int32), .int p0, .ref 1, .int r16, .int (((0 : Int32) ||| (0 : Int32)) ||| (2 : Int32))]) (h' := hpS s15) rfl ?_
      refine Ex.cl hq rfl rfl ?_
      refine Rn.mono (q_9 (d := d + 1) p0 (1 : Int32) s15 k) ?_
      rintro _ _ ⟨r18, s17, rfl, rfl, k⟩
      show Ex sc (d + 2) 33 45 [.ref 50, .int p0, .int p1, .int (((0 : Int32) ||| (0 : Int32)) ||| (2 : Int32)), pu, pu] [.int r18, .int r16, .int (((0 : Int32) ||| (0 : Int32)) ||| (2 : Int32))] (hpS s17) _
      refine Ex.i2 hq rfl (fun c => ?_) (fun c => ?_)
      · have k := k.1 c
        refine Ex.seg hq 7 (j := 55) (L' := [.ref 50, .int p0, .int p1, .int ((((0 : Int32) ||| (0 : Int32)) ||| (2 : Int32)) ||| (0 : Int32)), .int (0 : Int32), .int (1 : Int32)]) (S' := []) (h' := hpS s17) rfl ?_
        obtain ⟨m, k⟩ := k
        refine Ex.fg (L := [.ref 50, pu, pu, .int ((((0 : Int32) ||| (0 : Int32)) ||| (2 : Int32)) ||| (0 : Int32)), .int (0 : Int32), .int (1 : Int32)]) ⟨Or.inl rfl, ⟨Or.inr ⟨rfl, rfl⟩, ⟨Or.inr ⟨rfl, rfl⟩, ⟨Or.inl rfl, ⟨Or.inl rfl, ⟨Or.inl rfl, trivial⟩⟩⟩⟩⟩⟩ ?_
        refine q_33_55 (d := d) m ((((0 : Int32) ||| (0 : Int32)) ||| (2 : Int32)) ||| (0 : Int32)) (0 : Int32) (1 : Int32) s17 k ?_
        · intro y4 s19 k
          refine Ex.seg hq 1 (j := 80) (L' := [pu, pu, pu, pu, .int y4, pu]) (S' := [.int y4]) (h' := hpS s19) rfl ?_
          exact Ex.rt hq rfl rfl ⟨y4, s19, rfl, rfl, k⟩
      · have k := k.2 c
        refine Ex.seg hq 8 (j := 55) (L' := [.ref 50, .int p0, .int p1, .int ((((0 : Int32) ||| (0 : Int32)) ||| (2 : Int32)) ||| (4 : Int32)), .int (0 : Int32), .int (1 : Int32)]) (S' := []) (h' := hpS s17) rfl ?_
        obtain ⟨m, k⟩ := k
        refine Ex.fg (L := [.ref 50, pu, pu, .int ((((0 : Int32) ||| (0 : Int32)) ||| (2 : Int32)) ||| (4 : Int32)), .int (0 : Int32), .int (1 : Int32)]) ⟨Or.inl rfl, ⟨Or.inr ⟨rfl, rfl⟩, ⟨Or.inr ⟨rfl, rfl⟩, ⟨Or.inl rfl, ⟨Or.inl rfl, ⟨Or.inl rfl, trivial⟩⟩⟩⟩⟩⟩ ?_
        refine q_33_55 (d := d) m ((((0 : Int32) ||| (0 : Int32)) ||| (2 : Int32)) ||| (4 : Int32)) (0 : Int32) (1 : Int32) s17 k ?_
        · intro y4 s20 k
          refine Ex.seg hq 1 (j := 80) (L' := [pu, pu, pu, pu, .int y4, pu]) (S' := [.int y4]) (h' := hpS s20) rfl ?_
          exact Ex.rt hq rfl rfl ⟨y4, s20, rfl, rfl, k⟩
  · have k := k.2 c
    refine Ex.seg hq 9 (j := 22) (L' := [.ref 50, .int p0, .int p1, .int ((0 : Int32) ||| (1 : Int32)), pu, pu]) (S' := [.int (6 : Int32), .int p1, .ref 1, .int ((0 : Int32) ||| (1 : Int32))]) (h' := hpS s3) rfl ?_
    refine Ex.cl hq rfl rfl ?_
    refine Rn.mono (q_9 (d := d + 1) p1 (6 : Int32) s3 k) ?_
    rintro _ _ ⟨r22, s21, rfl, rfl, k⟩
    show Ex sc (d + 2) 33 23 [.ref 50, .int p0, .int p1, .int ((0 : Int32) ||| (1 : Int32)), pu, pu] [.int r22, .int ((0 : Int32) ||| (1 : Int32))] (hpS s21) _
    refine Ex.seg hq 4 (j := 27) (L' := [.ref 50, .int p0, .int p1, .int ((0 : Int32) ||| (1 : Int32)), pu, pu]) (S' := [.int (6 : Int32), .int p0, .ref 1, .int r22, .int ((0 : Int32) ||| (1 : Int32))]) (h' := hpS s21) rfl ?_
    refine Ex.cl hq rfl rfl ?_
    refine Rn.mono (q_9 (d := d + 1) p0 (6 : Int32) s21 k) ?_
    rintro _ _ ⟨r24, s23, rfl, rfl, k⟩
    show Ex sc (d + 2) 33 28 [.ref 50, .int p0, .int p1, .int ((0 : Int32) ||| (1 : Int32)), pu, pu] [.int r24, .int r22, .int ((0 : Int32) ||| (1 : Int32))] (hpS s23) _
    refine Ex.i2 hq rfl (fun c => ?_) (fun c => ?_)
    · have k := k.1 c
      refine Ex.seg hq 8 (j := 39) (L' := [.ref 50, .int p0, .int p1, .int (((0 : Int32) ||| (1 : Int32)) ||| (0 : Int32)), pu, pu]) (S' := [.int (1 : Int32), .int p1, .ref 1, .int (((0 : Int32) ||| (1 : Int32)) ||| (0 : Int32))]) (h' := hpS s23) rfl ?_
      refine Ex.cl hq rfl rfl ?_
      refine Rn.mono (q_9 (d := d + 1) p1 (1 : Int32) s23 k) ?_
      rintro _ _ ⟨r26, s25, rfl, rfl, k⟩
      show Ex sc (d + 2) 33 40 [.ref 50, .int p0, .int p1, .int (((0 : Int32) ||| (1 : Int32)) ||| (0 : Int32)), pu, pu] [.int r26, .int (((0 : Int32) ||| (1 : Int32)) ||| (0 : Int32))] (hpS s25) _
      refine Ex.seg hq 4 (j := 44) (L' := [.ref 50, .int p0, .int p1, .int (((0 : Int32) ||| (1 : Int32)) ||| (0 : Int32)), pu, pu]) (S' := [.int (1 : Int32), .int p0, .ref 1, .int r26, .int (((0 : Int32) ||| (1 : Int32)) ||| (0 : Int32))]) (h' := hpS s25) rfl ?_
      refine Ex.cl hq rfl rfl ?_
      refine Rn.mono (q_9 (d := d + 1) p0 (1 : Int32) s25 k) ?_
      rintro _ _ ⟨r28, s27, rfl, rfl, k⟩
      show Ex sc (d + 2) 33 45 [.ref 50, .int p0, .int p1, .int (((0 : Int32) ||| (1 : Int32)) ||| (0 : Int32)), pu, pu] [.int r28, .int r26, .int (((0 : Int32) ||| (1 : Int32)) ||| (0 : Int32))] (hpS s27) _
      refine Ex.i2 hq rfl (fun c => ?_) (fun c => ?_)
      · have k := k.1 c
        refine Ex.seg hq 7 (j := 55) (L' := [.ref 50, .int p0, .int p1, .int ((((0 : Int32) ||| (1 : Int32)) ||| (0 : Int32)) ||| (0 : Int32)), .int (0 : Int32), .int (1 : Int32)]) (S' := []) (h' := hpS s27) rfl ?_
        obtain ⟨m, k⟩ := k
        refine Ex.fg (L := [.ref 50, pu, pu, .int ((((0 : Int32) ||| (1 : Int32)) ||| (0 : Int32)) ||| (0 : Int32)), .int (0 : Int32), .int (1 : Int32)]) ⟨Or.inl rfl, ⟨Or.inr ⟨rfl, rfl⟩, ⟨Or.inr ⟨rfl, rfl⟩, ⟨Or.inl rfl, ⟨Or.inl rfl, ⟨Or.inl rfl, trivial⟩⟩⟩⟩⟩⟩ ?_
        refine q_33_55 (d := d) m ((((0 : Int32) ||| (1 : Int32)) ||| (0 : Int32)) ||| (0 : Int32)) (0 : Int32) (1 : Int32) s27 k ?_
        · intro y4 s29 k
          refine Ex.seg hq 1 (j := 80) (L' := [pu, pu, pu, pu, .int y4, pu]) (S' := [.int y4]) (h' := hpS s29) rfl ?_
          exact Ex.rt hq rfl rfl ⟨y4, s29, rfl, rfl, k⟩
      · have k := k.2 c
        refine Ex.seg hq 8 (j := 55) (L' := [.ref 50, .int p0, .int p1, .int ((((0 : Int32) ||| (1 : Int32)) ||| (0 : Int32)) ||| (4 : Int32)), .int (0 : Int32), .int (1 : Int32)]) (S' := []) (h' := hpS s27) rfl ?_
        obtain ⟨m, k⟩ := k
        refine Ex.fg (L := [.ref 50, pu, pu, .int ((((0 : Int32) ||| (1 : Int32)) ||| (0 : Int32)) ||| (4 : Int32)), .int (0 : Int32), .int (1 : Int32)]) ⟨Or.inl rfl, ⟨Or.inr ⟨rfl, rfl⟩, ⟨Or.inr ⟨rfl, rfl⟩, ⟨Or.inl rfl, ⟨Or.inl rfl, ⟨Or.inl rfl, trivial⟩⟩⟩⟩⟩⟩ ?_
        refine q_33_55 (d := d) m ((((0 : Int32) ||| (1 : Int32)) ||| (0 : Int32)) ||| (4 : Int32)) (0 : Int32) (1 : Int32) s27 k ?_
        · intro y4 s30 k
          refine Ex.seg hq 1 (j := 80) (L' := [pu, pu, pu, pu, .int y4, pu]) (S' := [.int y4]) (h' := hpS s30) rfl ?_
          exact Ex.rt hq rfl rfl ⟨y4, s30, rfl, rfl, k⟩
    · have k := k.2 c
      refine Ex.seg hq 9 (j := 39) (L' := [.ref 50, .int p0, .int p1, .int (((0 : Int32) ||| (1 : Int32)) ||| (2 : Int32)), pu, pu]) (S' := [.int (1 : Int32), .int p1, .ref 1, .int (((0 : Int32) ||| (1 : Int32)) ||| (2 : Int32))]) (h' := hpS s23) rfl ?_
      refine Ex.cl hq rfl rfl ?_
      refine Rn.mono (q_9 (d := d + 1) p1 (1 : Int32) s23 k) ?_
      rintro _ _ ⟨r32, s31, rfl, rfl, k⟩
      show Ex sc (d + 2) 33 40 [.ref 50, .int p0, .int p1, .int (((0 : Int32) ||| (1 : Int32)) ||| (2 : Int32)), pu, pu] [.int r32, .int (((0 : Int32) ||| (1 : Int32)) ||| (2 : Int32))] (hpS s31) _
      refine Ex.seg hq 4 (j := 44) (L' := [.ref 50, .int p0, .int p1, .int (((0 : Int32) ||| (1 : Int32)) ||| (2 : Int32)), pu, pu]) (S' := [.int (1 : Int32), .int p0, .ref 1, .int r32, .int (((0 : Int32) ||| (1 : Int32)) ||| (2 : Int32))]) (h' := hpS s31) rfl ?_
      refine Ex.cl hq rfl rfl ?_
      refine Rn.mono (q_9 (d := d + 1) p0 (1 : Int32) s31 k) ?_
      rintro _ _ ⟨r34, s33, rfl, rfl, k⟩
      show Ex sc (d + 2) 33 45 [.ref 50, .int p0, .int p1, .int (((0 : Int32) ||| (1 : Int32)) ||| (2 : Int32)), pu, pu] [.int r34, .int r32, .int (((0 : Int32) ||| (1 : Int32)) ||| (2 : Int32))] (hpS s33) _
      refine Ex.i2 hq rfl (fun c => ?_) (fun c => ?_)
      · have k := k.1 c
        refine Ex.seg hq 7 (j := 55) (L' := [.ref 50, .int p0, .int p1, .int ((((0 : Int32) ||| (1 : Int32)) ||| (2 : Int32)) ||| (0 : Int32)), .int (0 : Int32), .int (1 : Int32)]) (S' := []) (h' := hpS s33) rfl ?_
        obtain ⟨m, k⟩ := k
        refine Ex.fg (L := [.ref 50, pu, pu, .int ((((0 : Int32) ||| (1 : Int32)) ||| (2 : Int32)) ||| (0 : Int32)), .int (0 : Int32), .int (1 : Int32)]) ⟨Or.inl rfl, ⟨Or.inr ⟨rfl, rfl⟩, ⟨Or.inr ⟨rfl, rfl⟩, ⟨Or.inl rfl, ⟨Or.inl rfl, ⟨Or.inl rfl, trivial⟩⟩⟩⟩⟩⟩ ?_
        refine q_33_55 (d := d) m ((((0 : Int32) ||| (1 : Int32)) ||| (2 : Int32)) ||| (0 : Int32)) (0 : Int32) (1 : Int32) s33 k ?_
        · intro y4 s35 k
          refine Ex.seg hq 1 (j := 80) (L' := [pu, pu, pu, pu, .int y4, pu]) (S' := [.int y4]) (h' := hpS s35) rfl ?_
          exact Ex.rt hq rfl rfl ⟨y4, s35, rfl, rfl, k⟩
      · have k := k.2 c
        refine Ex.seg hq 8 (j := 55) (L' := [.ref 50, .int p0, .int p1, .int ((((0 : Int32) ||| (1 : Int32)) ||| (2 : Int32)) ||| (4 : Int32)), .int (0 : Int32), .int (1 : Int32)]) (S' := []) (h' := hpS s33) rfl ?_
        obtain ⟨m, k⟩ := k
        refine Ex.fg (L := [.ref 50, pu, pu, .int ((((0 : Int32) ||| (1 : Int32)) ||| (2 : Int32)) ||| (4 : Int32)), .int (0 : Int32), .int (1 : Int32)]) ⟨Or.inl rfl, ⟨Or.inr ⟨rfl, rfl⟩, ⟨Or.inr ⟨rfl, rfl⟩, ⟨Or.inl rfl, ⟨Or.inl rfl, ⟨Or.inl rfl, trivial⟩⟩⟩⟩⟩⟩ ?_
        refine q_33_55 (d := d) m ((((0 : Int32) ||| (1 : Int32)) ||| (2 : Int32)) ||| (4 : Int32)) (0 : Int32) (1 : Int32) s33 k ?_
        · intro y4 s36 k
          refine Ex.seg hq 1 (j := 80) (L' := [pu, pu, pu, pu, .int y4, pu]) (S' := [.int y4]) (h' := hpS s36) rfl ?_
          exact Ex.rt hq rfl rfl ⟨y4, s36, rfl, rfl, k⟩
/-- RowAuditor$Fitter.mostFrom(II)I -/
def w_37 (p0 : Int32) (p1 : Int32) (s : ST) (K : Int32 → ST → Prop) : Prop := ((p0 < 0 → K (-1 : Int32) s) ∧ (¬ (p0 < 0) → (((4 : Int32) < p0 → K (-1 : Int32) s) ∧ (¬ ((4 : Int32) < p0) → ((p1 < 0 → K (-1 : Int32) s) ∧ (¬ (p1 < 0) → (((151 : Int32) ≤ p1 → K (-1 : Int32) s) ∧ (¬ ((151 : Int32) ≤ p1) → (pin ((p0 * (151 : Int32)) + p1) 755 = true ∧ K ((s.2.1 53) (((p0 * (151 : Int32)) + p1)).toNatClampNeg) s)))))))))
theorem q_37 {d : Nat} {K : Int32 → ST → Prop} (p0 : Int32) (p1 : Int32) (s : ST) (k : w_37 p0 p1 s K) : Rn sc (d + 0) 37 [.ref 50, .int p0, .int p1] (hpS s) (kI K) := by
  have hq : prog[37]? = some pm37 := rfl
  refine Rn.of (L := [.ref 50, .int p0, .int p1]) hq rfl rfl ?_
  unfold w_37 at k
  refine Ex.seg hq 1 (j := 1) (L' := [.ref 50, .int p0, .int p1]) (S' := [.int p0]) (h' := hpS s) rfl ?_
  refine Ex.i1 hq rfl (fun c => ?_) (fun c => ?_)
  · have k := k.1 c
    refine Ex.seg hq 1 (j := 20) (L' := [.ref 50, .int p0, .int p1]) (S' := [.int (-1 : Int32)]) (h' := hpS s) rfl ?_
    exact Ex.rt hq rfl rfl ⟨(-1 : Int32), s, rfl, rfl, k⟩
  · have k := k.2 c
    refine Ex.seg hq 2 (j := 4) (L' := [.ref 50, .int p0, .int p1]) (S' := [.int (4 : Int32), .int p0]) (h' := hpS s) rfl ?_
    refine Ex.i2 hq rfl (fun c => ?_) (fun c => ?_)
    · have k := k.1 c
      refine Ex.seg hq 1 (j := 20) (L' := [.ref 50, .int p0, .int p1]) (S' := [.int (-1 : Int32)]) (h' := hpS s) rfl ?_
      exact Ex.rt hq rfl rfl ⟨(-1 : Int32), s, rfl, rfl, k⟩
    · have k := k.2 c
      refine Ex.seg hq 1 (j := 6) (L' := [.ref 50, .int p0, .int p1]) (S' := [.int p1]) (h' := hpS s) rfl ?_
      refine Ex.i1 hq rfl (fun c => ?_) (fun c => ?_)
      · have k := k.1 c
        refine Ex.seg hq 1 (j := 20) (L' := [.ref 50, .int p0, .int p1]) (S' := [.int (-1 : Int32)]) (h' := hpS s) rfl ?_
        exact Ex.rt hq rfl rfl ⟨(-1 : Int32), s, rfl, rfl, k⟩
      · have k := k.2 c
        refine Ex.seg hq 2 (j := 9) (L' := [.ref 50, .int p0, .int p1]) (S' := [.int (151 : Int32), .int p1]) (h' := hpS s) rfl ?_
        refine Ex.i2 hq rfl (fun c => ?_) (fun c => ?_)
        · have k := k.1 c
          refine Ex.seg hq 1 (j := 20) (L' := [.ref 50, .int p0, .int p1]) (S' := [.int (-1 : Int32)]) (h' := hpS s) rfl ?_
          exact Ex.rt hq rfl rfl ⟨(-1 : Int32), s, rfl, rfl, k⟩
        · have k := k.2 c
          refine Ex.seg hq 7 (j := 17) (L' := [.ref 50, .int p0, .int p1]) (S' := [.int ((p0 * (151 : Int32)) + p1), .ref 53]) (h' := hpS s) rfl ?_
          obtain ⟨hin, k⟩ := k
          refine Ex.ial hq rfl rfl hin ?_
          refine Ex.seg hq 1 (j := 20) (L' := [.ref 50, .int p0, .int p1]) (S' := [.int ((s.2.1 53) (((p0 * (151 : Int32)) + p1)).toNatClampNeg)]) (h' := hpS s) rfl ?_
          exact Ex.rt hq rfl rfl ⟨((s.2.1 53) (((p0 * (151 : Int32)) + p1)).toNatClampNeg), s, rfl, rfl, k⟩
/-- RowAuditor$Fitter.setMost(III)V -/
def w_38 (p0 : Int32) (p1 : Int32) (p2 : Int32) (s : ST) (K : ST → Prop) : Prop := ((p0 < 0 → K s) ∧ (¬ (p0 < 0) → (((4 : Int32) < p0 → K s) ∧ (¬ ((4 : Int32) < p0) → ((p1 < 0 → K s) ∧ (¬ (p1 < 0) → (((151 : Int32) ≤ p1 → K s) ∧ (¬ ((151 : Int32) ≤ p1) → (pin ((p0 * (151 : Int32)) + p1) 755 = true ∧ K (sA s 53 (upd (s.2.1 53) (((p0 * (151 : Int32)) + p1)).toNatClampNeg p2)))))))))))
theorem q_38 {d : Nat} {K : ST → Prop} (p0 : Int32) (p1 : Int32) (p2 : Int32) (s : ST) (k : w_38 p0 p1 p2 s K) : Rn sc (d + 0) 38 [.ref 50, .int p0, .int p1, .int p2] (hpS s) (kV K) := by
  have hq : prog[38]? = some pm38 := rfl
  refine Rn.of (L := [.ref 50, .int p0, .int p1, .int p2]) hq rfl rfl ?_
  unfold w_38 at k
  refine Ex.seg hq 1 (j := 1) (L' := [.ref 50, .int p0, .int p1, .int p2]) (S' := [.int p0]) (h' := hpS s) rfl ?_
  refine Ex.i1 hq rfl (fun c => ?_) (fun c => ?_)
  · have k := k.1 c
    exact Ex.rt hq rfl rfl ⟨s, rfl, rfl, k⟩
  · have k := k.2 c
    refine Ex.seg hq 2 (j := 4) (L' := [.ref 50, .int p0, .int p1, .int p2]) (S' := [.int (4 : Int32), .int p0]) (h' := hpS s) rfl ?_
    refine Ex.i2 hq rfl (fun c => ?_) (fun c => ?_)
    · have k := k.1 c
      exact Ex.rt hq rfl rfl ⟨s, rfl, rfl, k⟩
    · have k := k.2 c
      refine Ex.seg hq 1 (j := 6) (L' := [.ref 50, .int p0, .int p1, .int p2]) (S' := [.int p1]) (h' := hpS s) rfl ?_
      refine Ex.i1 hq rfl (fun c => ?_) (fun c => ?_)
      · have k := k.1 c
        exact Ex.rt hq rfl rfl ⟨s, rfl, rfl, k⟩
      · have k := k.2 c
        refine Ex.seg hq 2 (j := 9) (L' := [.ref 50, .int p0, .int p1, .int p2]) (S' := [.int (151 : Int32), .int p1]) (h' := hpS s) rfl ?_
        refine Ex.i2 hq rfl (fun c => ?_) (fun c => ?_)
        · have k := k.1 c
          exact Ex.rt hq rfl rfl ⟨s, rfl, rfl, k⟩
        · have k := k.2 c
          refine Ex.seg hq 8 (j := 18) (L' := [.ref 50, .int p0, .int p1, .int p2]) (S' := [.int p2, .int ((p0 * (151 : Int32)) + p1), .ref 53]) (h' := hpS s) rfl ?_
          obtain ⟨hin, k⟩ := k
          refine Ex.ias hq rfl rfl hin (h' := hpS (sA s 53 (upd (s.2.1 53) (((p0 * (151 : Int32)) + p1)).toNatClampNeg p2))) (hset_53 _ _) ?_
          exact Ex.rt hq rfl rfl ⟨(sA s 53 (upd (s.2.1 53) (((p0 * (151 : Int32)) + p1)).toNatClampNeg p2)), rfl, rfl, k⟩
/-- RowAuditor$Flow.addNode()I -/
def w_44  (s : ST) (K : Int32 → ST → Prop) : Prop := (((s.1 3710) < (163 : Int32) → (pin (s.1 3710) 163 = true ∧ K (((s.1 3710) + (1 : Int32)) - (1 : Int32)) (sA (sI s 3710 ((s.1 3710) + (1 : Int32))) 40 (upd (s.2.1 40) ((s.1 3710)).toNatClampNeg (-1 : Int32))))) ∧ (¬ ((s.1 3710) < (163 : Int32)) → K (2 : Int32) s))
theorem q_44 {d : Nat} {K : Int32 → ST → Prop}  (s : ST) (k : w_44  s K) : Rn sc (d + 0) 44 [.ref 37] (hpS s) (kI K) := by
  have hq : prog[44]? = some pm44 := rfl
  refine Rn.of (L := [.ref 37]) hq rfl rfl ?_
  unfold w_44 at k
  refine Ex.seg hq 3 (j := 3) (L' := [.ref 37]) (S' := [.int (163 : Int32), .int (s.1 3710)]) (h' := hpS s) rfl ?_
  refine Ex.i2 hq rfl (fun c => ?_) (fun c => ?_)
  · have k := k.1 c
    refine Ex.seg hq 5 (j := 11) (L' := [.ref 37]) (S' := [.int (-1 : Int32), .int (s.1 3710), .ref 40]) (h' := hpS s) rfl ?_
    obtain ⟨hin, k⟩ := k
    refine Ex.ias hq rfl rfl hin (h' := hpS (sA s 40 (upd (s.2.1 40) ((s.1 3710)).toNatClampNeg (-1 : Int32)))) (hset_40 _ _) ?_
    refine Ex.seg hq 10 (j := 22) (L' := [.ref 37]) (S' := [.int (((s.1 3710) + (1 : Int32)) - (1 : Int32))]) (h' := hpS (sA (sI s 3710 ((s.1 3710) + (1 : Int32))) 40 (upd (s.2.1 40) ((s.1 3710)).toNatClampNeg (-1 : Int32)))) rfl ?_
    exact Ex.rt hq rfl rfl ⟨(((s.1 3710) + (1 : Int32)) - (1 : Int32)), (sA (sI s 3710 ((s.1 3710) + (1 : Int32))) 40 (upd (s.2.1 40) ((s.1 3710)).toNatClampNeg (-1 : Int32))), rfl, rfl, k⟩
  · have k := k.2 c
    refine Ex.seg hq 1 (j := 5) (L' := [.ref 37]) (S' := [.int (2 : Int32)]) (h' := hpS s) rfl ?_
    exact Ex.rt hq rfl rfl ⟨(2 : Int32), s, rfl, rfl, k⟩
/-- RowAuditor$Flow.addEdge(III)V -/
def w_46 (p0 : Int32) (p1 : Int32) (p2 : Int32) (s : ST) (K : ST → Prop) : Prop := (pin (s.1 3711) 624 = true ∧ (pin (s.1 3711) 624 = true ∧ (pin p0 163 = true ∧ (pin (s.1 3711) 624 = true ∧ (pin p0 163 = true ∧ K (sA (sA (sA (sA (sI s 3711 ((s.1 3711) + (1 : Int32))) 42 (upd (s.2.1 42) ((s.1 3711)).toNatClampNeg p1)) 43 (upd (s.2.1 43) ((s.1 3711)).toNatClampNeg p2)) 41 (upd (s.2.1 41) ((s.1 3711)).toNatClampNeg ((s.2.1 40) (p0).toNatClampNeg))) 40 (upd (s.2.1 40) (p0).toNatClampNeg (s.1 3711))))))))
theorem q_46 {d : Nat} {K : ST → Prop} (p0 : Int32) (p1 : Int32) (p2 : Int32) (s : ST) (k : w_46 p0 p1 p2 s K) : Rn sc (d + 0) 46 [.ref 37, .int p0, .int p1, .int p2] (hpS s) (kV K) := by
  have hq : prog[46]? = some pm46 := rfl
  refine Rn.of (L := [.ref 37, .int p0, .int p1, .int p2]) hq rfl rfl ?_
  unfold w_46 at k
  refine Ex.seg hq 5 (j := 5) (L' := [.ref 37, .int p0, .int p1, .int p2]) (S' := [.int p1, .int (s.1 3711), .ref 42]) (h' := hpS s) rfl ?_
  obtain ⟨hin, k⟩ := k
  refine Ex.ias hq rfl rfl hin (h' := hpS (sA s 42 (upd (s.2.1 42) ((s.1 3711)).toNatClampNeg p1))) (hset_42 _ _) ?_
  refine Ex.seg hq 5 (j := 11) (L' := [.ref 37, .int p0, .int p1, .int p2]) (S' := [.int p2, .int (s.1 3711), .ref 43]) (h' := hpS (sA s 42 (upd (s.2.1 42) ((s.1 3711)).toNatClampNeg p1))) rfl ?_
  obtain ⟨hin, k⟩ := k
  refine Ex.ias hq rfl rfl hin (h' := hpS (sA (sA s 42 (upd (s.2.1 42) ((s.1 3711)).toNatClampNeg p1)) 43 (upd (s.2.1 43) ((s.1 3711)).toNatClampNeg p2))) (hset_43 _ _) ?_
  refine Ex.seg hq 7 (j := 19) (L' := [.ref 37, .int p0, .int p1, .int p2]) (S' := [.int p0, .ref 40, .int (s.1 3711), .ref 41]) (h' := hpS (sA (sA s 42 (upd (s.2.1 42) ((s.1 3711)).toNatClampNeg p1)) 43 (upd (s.2.1 43) ((s.1 3711)).toNatClampNeg p2))) rfl ?_
  obtain ⟨hin, k⟩ := k
  refine Ex.ial hq rfl rfl hin ?_
  obtain ⟨hin, k⟩ := k
  refine Ex.ias hq rfl rfl hin (h' := hpS (sA (sA (sA s 42 (upd (s.2.1 42) ((s.1 3711)).toNatClampNeg p1)) 43 (upd (s.2.1 43) ((s.1 3711)).toNatClampNeg p2)) 41 (upd (s.2.1 41) ((s.1 3711)).toNatClampNeg ((s.2.1 40) (p0).toNatClampNeg)))) (hset_41 _ _) ?_
  refine Ex.seg hq 5 (j := 26) (L' := [.ref 37, .int p0, .int p1, .int p2]) (S' := [.int (s.1 3711), .int p0, .ref 40]) (h' := hpS (sA (sA (sA s 42 (upd (s.2.1 42) ((s.1 3711)).toNatClampNeg p1)) 43 (upd (s.2.1 43) ((s.1 3711)).toNatClampNeg p2)) 41 (upd (s.2.1 41) ((s.1 3711)).toNatClampNeg ((s.2.1 40) (p0).toNatClampNeg)))) rfl ?_
  obtain ⟨hin, k⟩ := k
  refine Ex.ias hq rfl rfl hin (h' := hpS (sA (sA (sA (sA s 42 (upd (s.2.1 42) ((s.1 3711)).toNatClampNeg p1)) 43 (upd (s.2.1 43) ((s.1 3711)).toNatClampNeg p2)) 41 (upd (s.2.1 41) ((s.1 3711)).toNatClampNeg ((s.2.1 40) (p0).toNatClampNeg))) 40 (upd (s.2.1 40) (p0).toNatClampNeg (s.1 3711)))) (hset_40 _ _) ?_
  refine Ex.seg hq 6 (j := 33) (L' := [.ref 37, .int p0, .int p1, .int p2]) (S' := []) (h' := hpS (sA (sA (sA (sA (sI s 3711 ((s.1 3711) + (1 : Int32))) 42 (upd (s.2.1 42) ((s.1 3711)).toNatClampNeg p1)) 43 (upd (s.2.1 43) ((s.1 3711)).toNatClampNeg p2)) 41 (upd (s.2.1 41) ((s.1 3711)).toNatClampNeg ((s.2.1 40) (p0).toNatClampNeg))) 40 (upd (s.2.1 40) (p0).toNatClampNeg (s.1 3711)))) rfl ?_
  exact Ex.rt hq rfl rfl ⟨(sA (sA (sA (sA (sI s 3711 ((s.1 3711) + (1 : Int32))) 42 (upd (s.2.1 42) ((s.1 3711)).toNatClampNeg p1)) 43 (upd (s.2.1 43) ((s.1 3711)).toNatClampNeg p2)) 41 (upd (s.2.1 41) ((s.1 3711)).toNatClampNeg ((s.2.1 40) (p0).toNatClampNeg))) 40 (upd (s.2.1 40) (p0).toNatClampNeg (s.1 3711))), rfl, rfl, k⟩
/-- RowAuditor$Flow.edgeBefore(I)I -/
def w_50 (p0 : Int32) (s : ST) (K : Int32 → ST → Prop) : Prop := (pin (p0 ^^^ (1 : Int32)) 624 = true ∧ (pin ((s.2.1 42) ((p0 ^^^ (1 : Int32))).toNatClampNeg) 163 = true ∧ K ((s.2.1 44) (((s.2.1 42) ((p0 ^^^ (1 : Int32))).toNatClampNeg)).toNatClampNeg) s))
theorem q_50 {d : Nat} {K : Int32 → ST → Prop} (p0 : Int32) (s : ST) (k : w_50 p0 s K) : Rn sc (d + 0) 50 [.ref 37, .int p0] (hpS s) (kI K) := by
  have hq : prog[50]? = some pm50 := rfl
  refine Rn.of (L := [.ref 37, .int p0]) hq rfl rfl ?_
  unfold w_50 at k
  refine Ex.seg hq 7 (j := 7) (L' := [.ref 37, .int p0]) (S' := [.int (p0 ^^^ (1 : Int32)), .ref 42, .ref 44]) (h' := hpS s) rfl ?_
  obtain ⟨hin, k⟩ := k
  refine Ex.ial hq rfl rfl hin ?_
  obtain ⟨hin, k⟩ := k
  refine Ex.ial hq rfl rfl hin ?_
  exact Ex.rt hq rfl rfl ⟨((s.2.1 44) (((s.2.1 42) ((p0 ^^^ (1 : Int32))).toNatClampNeg)).toNatClampNeg), s, rfl, rfl, k⟩
/-- RowAuditor$Parser.begin(I)V -/
def w_59 (p0 : Int32) (s : ST) (K : ST → Prop) : Prop := K (sI (sI (sI (sI s 3502 (if (Int32.ofNat 200) < p0 then (Int32.ofNat 200) else p0)) 3504 (0 : Int32)) 3505 (0 : Int32)) 3506 (0 : Int32))
theorem q_59 {d : Nat} {K : ST → Prop} (p0 : Int32) (s : ST) (k : w_59 p0 s K) : Rn sc (d + 1) 59 [.ref 35, .int p0] (hpS s) (kV K) := by
  have hq : prog[59]? = some pm59 := rfl
  refine Rn.of (L := [.ref 35, .int p0]) hq rfl rfl ?_
  unfold w_59 at k
  refine Ex.seg hq 16 (j := 16) (L' := [.ref 35, .int p0]) (S' := []) (h' := hpS (sI (sI (sI (sI s 3502 (if (Int32.ofNat 200) < p0 then (Int32.ofNat 200) else p0)) 3504 (0 : Int32)) 3505 (0 : Int32)) 3506 (0 : Int32))) rfl ?_
  exact Ex.rt hq rfl rfl ⟨(sI (sI (sI (sI s 3502 (if (Int32.ofNat 200) < p0 then (Int32.ofNat 200) else p0)) 3504 (0 : Int32)) 3505 (0 : Int32)) 3506 (0 : Int32)), rfl, rfl, k⟩
end WP
