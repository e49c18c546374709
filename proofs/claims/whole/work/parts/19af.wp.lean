/-! ===== weakest preconditions, printed by wip/whole/genwp.py ===== -/
section WP
variable {sc : Nat × (Nat → Int32)}
/-- RowAuditor$Parser.peek()I -/
def w_81  (s : ST) (K : Int32 → ST → Prop) : Prop := ((¬ (s.1 3505) = 0 → K (-1 : Int32) s) ∧ (¬ (¬ (s.1 3505) = 0) → (((s.1 3504) < 0 → K (-1 : Int32) s) ∧ (¬ ((s.1 3504) < 0) → (((s.1 3502) ≤ (s.1 3504) → K (-1 : Int32) s) ∧ (¬ ((s.1 3502) ≤ (s.1 3504)) → (pin (s.1 3504) 200 = true ∧ K ((s.2.1 27) ((s.1 3504)).toNatClampNeg) s)))))))
theorem q_81 {d : Nat} {K : Int32 → ST → Prop}  (s : ST) (k : w_81  s K) : Rn sc (d + 0) 81 [.ref 35] (hpS s) (kI K) := by
  have hq : prog[81]? = some pm81 := rfl
  refine Rn.of (L := [.ref 35]) hq rfl rfl ?_
  unfold w_81 at k
  refine Ex.seg hq 2 (j := 2) (L' := [.ref 35]) (S' := [.int (s.1 3505)]) (h' := hpS s) rfl ?_
  refine Ex.i1 hq rfl (fun c => ?_) (fun c => ?_)
  · have k := k.1 c
    refine Ex.seg hq 1 (j := 18) (L' := [.ref 35]) (S' := [.int (-1 : Int32)]) (h' := hpS s) rfl ?_
    exact Ex.rt hq rfl rfl ⟨(-1 : Int32), s, rfl, rfl, k⟩
  · have k := k.2 c
    refine Ex.seg hq 2 (j := 5) (L' := [.ref 35]) (S' := [.int (s.1 3504)]) (h' := hpS s) rfl ?_
    refine Ex.i1 hq rfl (fun c => ?_) (fun c => ?_)
    · have k := k.1 c
      refine Ex.seg hq 1 (j := 18) (L' := [.ref 35]) (S' := [.int (-1 : Int32)]) (h' := hpS s) rfl ?_
      exact Ex.rt hq rfl rfl ⟨(-1 : Int32), s, rfl, rfl, k⟩
    · have k := k.2 c
      refine Ex.seg hq 4 (j := 10) (L' := [.ref 35]) (S' := [.int (s.1 3502), .int (s.1 3504)]) (h' := hpS s) rfl ?_
      refine Ex.i2 hq rfl (fun c => ?_) (fun c => ?_)
      · have k := k.1 c
        refine Ex.seg hq 1 (j := 18) (L' := [.ref 35]) (S' := [.int (-1 : Int32)]) (h' := hpS s) rfl ?_
        exact Ex.rt hq rfl rfl ⟨(-1 : Int32), s, rfl, rfl, k⟩
      · have k := k.2 c
        refine Ex.seg hq 4 (j := 15) (L' := [.ref 35]) (S' := [.int (s.1 3504), .ref 27]) (h' := hpS s) rfl ?_
        obtain ⟨hin, k⟩ := k
        refine Ex.ial hq rfl rfl hin ?_
        refine Ex.seg hq 1 (j := 18) (L' := [.ref 35]) (S' := [.int ((s.2.1 27) ((s.1 3504)).toNatClampNeg)]) (h' := hpS s) rfl ?_
        exact Ex.rt hq rfl rfl ⟨((s.2.1 27) ((s.1 3504)).toNatClampNeg), s, rfl, rfl, k⟩
/-- RowAuditor$Parser.fail(II)V -/
def w_85 (p1 : Int32) (p2 : Int32) (s : ST) (K : ST → Prop) : Prop := ((¬ (s.1 3505) = 0 → K s) ∧ (¬ (¬ (s.1 3505) = 0) → K (sI (sI s 3505 p1) 3506 p2)))
theorem q_85 {d : Nat} {K : ST → Prop} (p1 : Int32) (p2 : Int32) (s : ST) (k : w_85 p1 p2 s K) : Rn sc (d + 0) 85 [.ref 35, .int p1, .int p2] (hpS s) (kV K) := by
  have hq : prog[85]? = some pm85 := rfl
  refine Rn.of (L := [.ref 35, .int p1, .int p2]) hq rfl rfl ?_
  unfold w_85 at k
  refine Ex.seg hq 2 (j := 2) (L' := [.ref 35, .int p1, .int p2]) (S' := [.int (s.1 3505)]) (h' := hpS s) rfl ?_
  refine Ex.i1 hq rfl (fun c => ?_) (fun c => ?_)
  · have k := k.1 c
    exact Ex.rt hq rfl rfl ⟨s, rfl, rfl, k⟩
  · have k := k.2 c
    refine Ex.seg hq 6 (j := 9) (L' := [.ref 35, .int p1, .int p2]) (S' := []) (h' := hpS (sI (sI s 3505 p1) 3506 p2)) rfl ?_
    exact Ex.rt hq rfl rfl ⟨(sI (sI s 3505 p1) 3506 p2), rfl, rfl, k⟩
/-- RowAuditor$Parser.want(I)V -/
def w_83 (p1 : Int32) (s : ST) (K : ST → Prop) : Prop := w_81 s (fun r2 s1 => ((¬ r2 = p1 → w_85 (1 : Int32) (s1.1 3504) s1 (fun s3 => K s3)) ∧ (¬ (¬ r2 = p1) → K (sI s1 3504 ((s1.1 3504) + (1 : Int32))))))
theorem q_83 {d : Nat} {K : ST → Prop} (p1 : Int32) (s : ST) (k : w_83 p1 s K) : Rn sc (d + 1) 83 [.ref 35, .int p1] (hpS s) (kV K) := by
  have hq : prog[83]? = some pm83 := rfl
  refine Rn.of (L := [.ref 35, .int p1]) hq rfl rfl ?_
  unfold w_83 at k
  refine Ex.seg hq 1 (j := 1) (L' := [.ref 35, .int p1]) (S' := [.ref 35]) (h' := hpS s) rfl ?_
  refine Ex.cl hq rfl rfl ?_
  refine Rn.mono (q_81 (d := d + 0) s k) ?_
  rintro _ _ ⟨r2, s1, rfl, rfl, k⟩
  show Ex sc (d + 1) 83 2 [.ref 35, .int p1] [.int r2] (hpS s1) _
  refine Ex.seg hq 1 (j := 3) (L' := [.ref 35, .int p1]) (S' := [.int p1, .int r2]) (h' := hpS s1) rfl ?_
  refine Ex.i2 hq rfl (fun c => ?_) (fun c => ?_)
  · have k := k.1 c
    refine Ex.seg hq 4 (j := 15) (L' := [.ref 35, .int p1]) (S' := [.int (s1.1 3504), .int (1 : Int32), .ref 35]) (h' := hpS s1) rfl ?_
    refine Ex.cl hq rfl rfl ?_
    refine Rn.mono (q_85 (d := d + 0) (1 : Int32) (s1.1 3504) s1 k) ?_
    rintro _ _ ⟨s3, rfl, rfl, k⟩
    show Ex sc (d + 1) 83 16 [.ref 35, .int p1] [] (hpS s3) _
    exact Ex.rt hq rfl rfl ⟨s3, rfl, rfl, k⟩
  · have k := k.2 c
    refine Ex.seg hq 7 (j := 16) (L' := [.ref 35, .int p1]) (S' := []) (h' := hpS (sI s1 3504 ((s1.1 3504) + (1 : Int32)))) rfl ?_
    exact Ex.rt hq rfl rfl ⟨(sI s1 3504 ((s1.1 3504) + (1 : Int32))), rfl, rfl, k⟩
/-- RowAuditor$Parser.take(I)Z -/
def w_82 (p1 : Int32) (s : ST) (K : Int32 → ST → Prop) : Prop := w_81 s (fun r2 s1 => ((r2 = p1 → K (1 : Int32) (sI s1 3504 ((s1.1 3504) + (1 : Int32)))) ∧ (¬ (r2 = p1) → K (0 : Int32) s1)))
theorem q_82 {d : Nat} {K : Int32 → ST → Prop} (p1 : Int32) (s : ST) (k : w_82 p1 s K) : Rn sc (d + 1) 82 [.ref 35, .int p1] (hpS s) (kZ K) := by
  have hq : prog[82]? = some pm82 := rfl
  refine Rn.of (L := [.ref 35, .int p1]) hq rfl rfl ?_
  unfold w_82 at k
  refine Ex.seg hq 1 (j := 1) (L' := [.ref 35, .int p1]) (S' := [.ref 35]) (h' := hpS s) rfl ?_
  refine Ex.cl hq rfl rfl ?_
  refine Rn.mono (q_81 (d := d + 0) s k) ?_
  rintro _ _ ⟨r2, s1, rfl, rfl, k⟩
  show Ex sc (d + 1) 82 2 [.ref 35, .int p1] [.int r2] (hpS s1) _
  refine Ex.seg hq 1 (j := 3) (L' := [.ref 35, .int p1]) (S' := [.int p1, .int r2]) (h' := hpS s1) rfl ?_
  refine Ex.i2 hq rfl (fun c => ?_) (fun c => ?_)
  · have k := k.1 c
    refine Ex.seg hq 7 (j := 13) (L' := [.ref 35, .int p1]) (S' := [.int (1 : Int32)]) (h' := hpS (sI s1 3504 ((s1.1 3504) + (1 : Int32)))) rfl ?_
    exact Ex.zr hq rfl rfl (Or.inr rfl) ⟨(1 : Int32), (sI s1 3504 ((s1.1 3504) + (1 : Int32))), rfl, (Or.inr rfl), rfl, k⟩
  · have k := k.2 c
    refine Ex.seg hq 1 (j := 5) (L' := [.ref 35, .int p1]) (S' := [.int (0 : Int32)]) (h' := hpS s1) rfl ?_
    exact Ex.zr hq rfl rfl (Or.inl rfl) ⟨(0 : Int32), s1, rfl, (Or.inl rfl), rfl, k⟩
/-- RowAuditor$Parser.emit(II)I -/
def w_86 (p1 : Int32) (p2 : Int32) (s : ST) (K : Int32 → ST → Prop) : Prop := (((s.1 3503) < (Int32.ofNat 160) → (pin (s.1 3503) 160 = true ∧ K (((s.1 3503) + (1 : Int32)) - (1 : Int32)) (sA (sI s 3503 ((s.1 3503) + (1 : Int32))) 36 (upd (s.2.1 36) ((s.1 3503)).toNatClampNeg ((p2 <<< ((4 : Int32) &&& 31)) ||| p1))))) ∧ (¬ ((s.1 3503) < (Int32.ofNat 160)) → K (-1 : Int32) s))
theorem q_86 {d : Nat} {K : Int32 → ST → Prop} (p1 : Int32) (p2 : Int32) (s : ST) (k : w_86 p1 p2 s K) : Rn sc (d + 0) 86 [.ref 35, .int p1, .int p2] (hpS s) (kI K) := by
  have hq : prog[86]? = some pm86 := rfl
  refine Rn.of (L := [.ref 35, .int p1, .int p2]) hq rfl rfl ?_
  unfold w_86 at k
  refine Ex.seg hq 5 (j := 5) (L' := [.ref 35, .int p1, .int p2]) (S' := [.int (Int32.ofNat 160), .int (s.1 3503)]) (h' := hpS s) rfl ?_
  refine Ex.i2 hq rfl (fun c => ?_) (fun c => ?_)
  · have k := k.1 c
    refine Ex.seg hq 9 (j := 17) (L' := [.ref 35, .int p1, .int p2]) (S' := [.int ((p2 <<< ((4 : Int32) &&& 31)) ||| p1), .int (s.1 3503), .ref 36]) (h' := hpS s) rfl ?_
    obtain ⟨hin, k⟩ := k
    refine Ex.ias hq rfl rfl hin (h' := hpS (sA s 36 (upd (s.2.1 36) ((s.1 3503)).toNatClampNeg ((p2 <<< ((4 : Int32) &&& 31)) ||| p1)))) (hset_36 _ _) ?_
    refine Ex.seg hq 10 (j := 28) (L' := [.ref 35, .int p1, .int p2]) (S' := [.int (((s.1 3503) + (1 : Int32)) - (1 : Int32))]) (h' := hpS (sA (sI s 3503 ((s.1 3503) + (1 : Int32))) 36 (upd (s.2.1 36) ((s.1 3503)).toNatClampNeg ((p2 <<< ((4 : Int32) &&& 31)) ||| p1)))) rfl ?_
    exact Ex.rt hq rfl rfl ⟨(((s.1 3503) + (1 : Int32)) - (1 : Int32)), (sA (sI s 3503 ((s.1 3503) + (1 : Int32))) 36 (upd (s.2.1 36) ((s.1 3503)).toNatClampNeg ((p2 <<< ((4 : Int32) &&& 31)) ||| p1))), rfl, rfl, k⟩
  · have k := k.2 c
    refine Ex.seg hq 1 (j := 7) (L' := [.ref 35, .int p1, .int p2]) (S' := [.int (-1 : Int32)]) (h' := hpS s) rfl ?_
    exact Ex.rt hq rfl rfl ⟨(-1 : Int32), s, rfl, rfl, k⟩
/-- RowAuditor$Parser.aim(II)V -/
def w_87 (p1 : Int32) (p2 : Int32) (s : ST) (K : ST → Prop) : Prop := w_181 p1 (0 : Int32) ((Int32.ofNat 160) - (1 : Int32)) s (fun r2 s1 => ((r2 = 0 → K s1) ∧ (¬ (r2 = 0) → (pin p1 160 = true ∧ K (sA s1 36 (upd (s1.2.1 36) (p1).toNatClampNeg (((s1.1 3503) <<< ((4 : Int32) &&& 31)) ||| p2)))))))
theorem q_87 {d : Nat} {K : ST → Prop} (p1 : Int32) (p2 : Int32) (s : ST) (k : w_87 p1 p2 s K) : Rn sc (d + 1) 87 [.ref 35, .int p1, .int p2] (hpS s) (kV K) := by
  have hq : prog[87]? = some pm87 := rfl
  refine Rn.of (L := [.ref 35, .int p1, .int p2]) hq rfl rfl ?_
  unfold w_87 at k
  refine Ex.seg hq 7 (j := 7) (L' := [.ref 35, .int p1, .int p2]) (S' := [.int ((Int32.ofNat 160) - (1 : Int32)), .int (0 : Int32), .int p1]) (h' := hpS s) rfl ?_
  refine Ex.cl hq rfl rfl ?_
  refine Rn.mono (q_181 (d := d + 0) p1 (0 : Int32) ((Int32.ofNat 160) - (1 : Int32)) s k) ?_
  rintro _ _ ⟨r2, s1, rfl, hzr2, rfl, k⟩
  show Ex sc (d + 1) 87 8 [.ref 35, .int p1, .int p2] [.int r2] (hpS s1) _
  refine Ex.i1 hq rfl (fun c => ?_) (fun c => ?_)
  · have k := k.1 c
    exact Ex.rt hq rfl rfl ⟨s1, rfl, rfl, k⟩
  · have k := k.2 c
    refine Ex.seg hq 9 (j := 18) (L' := [.ref 35, .int p1, .int p2]) (S' := [.int (((s1.1 3503) <<< ((4 : Int32) &&& 31)) ||| p2), .int p1, .ref 36]) (h' := hpS s1) rfl ?_
    obtain ⟨hin, k⟩ := k
    refine Ex.ias hq rfl rfl hin (h' := hpS (sA s1 36 (upd (s1.2.1 36) (p1).toNatClampNeg (((s1.1 3503) <<< ((4 : Int32) &&& 31)) ||| p2)))) (hset_36 _ _) ?_
    exact Ex.rt hq rfl rfl ⟨(sA s1 36 (upd (s1.2.1 36) (p1).toNatClampNeg (((s1.1 3503) <<< ((4 : Int32) &&& 31)) ||| p2))), rfl, rfl, k⟩
/-- RowAuditor$Parser.comparison(I)I -/
def w_72 (p1 : Int32) (s : ST) (K : Int32 → ST → Prop) : Prop := (((p1).toInt < 60 ∨ 62 < (p1).toInt → w_85 (1 : Int32) (s.1 3504) s (fun s1 => K (12 : Int32) s1)) ∧ (p1 = (60 : Int32) → K (10 : Int32) s) ∧ (p1 = (61 : Int32) → K (12 : Int32) s) ∧ (p1 = (62 : Int32) → K (11 : Int32) s))
theorem q_72 {d : Nat} {K : Int32 → ST → Prop} (p1 : Int32) (s : ST) (k : w_72 p1 s K) : Rn sc (d + 1) 72 [.ref 35, .int p1] (hpS s) (kI K) := by
  have hq : prog[72]? = some pm72 := rfl
  refine Rn.of (L := [.ref 35, .int p1]) hq rfl rfl ?_
  unfold w_72 at k
  refine Ex.seg hq 1 (j := 1) (L' := [.ref 35, .int p1]) (S' := [.int p1]) (h' := hpS s) rfl ?_
  refine Ex.tsw hq rfl (fun c => ?_) (fun t c ht => ?_) (by decide)
  · have k := k.1 c
    refine Ex.seg hq 4 (j := 12) (L' := [.ref 35, .int p1]) (S' := [.int (s.1 3504), .int (1 : Int32), .ref 35]) (h' := hpS s) rfl ?_
    refine Ex.cl hq rfl rfl ?_
    refine Rn.mono (q_85 (d := d + 0) (1 : Int32) (s.1 3504) s k) ?_
    rintro _ _ ⟨s1, rfl, rfl, k⟩
    show Ex sc (d + 1) 72 13 [.ref 35, .int p1] [] (hpS s1) _
    refine Ex.seg hq 1 (j := 14) (L' := [.ref 35, .int p1]) (S' := [.int (12 : Int32)]) (h' := hpS s1) rfl ?_
    exact Ex.rt hq rfl rfl ⟨(12 : Int32), s1, rfl, rfl, k⟩
  · have k := k.2
    rcases (show (p1).toInt = 60 ∨ (p1).toInt = 61 ∨ (p1).toInt = 62 by omega) with e | e | e
    · have cx : p1 = (60 : Int32) := Int32.toInt_inj.mp (by rw [e]; rfl)
      have k := k.1 cx
      rw [e] at ht
      have ht : (some 2 : Option Nat) = some t := ht
      cases ht
      refine Ex.seg hq 1 (j := 3) (L' := [.ref 35, .int p1]) (S' := [.int (10 : Int32)]) (h' := hpS s) rfl ?_
      exact Ex.rt hq rfl rfl ⟨(10 : Int32), s, rfl, rfl, k⟩
    · have cx : p1 = (61 : Int32) := Int32.toInt_inj.mp (by rw [e]; rfl)
      have k := k.2.1 cx
      rw [e] at ht
      have ht : (some 6 : Option Nat) = some t := ht
      cases ht
      refine Ex.seg hq 1 (j := 7) (L' := [.ref 35, .int p1]) (S' := [.int (12 : Int32)]) (h' := hpS s) rfl ?_
      exact Ex.rt hq rfl rfl ⟨(12 : Int32), s, rfl, rfl, k⟩
    · have cx : p1 = (62 : Int32) := Int32.toInt_inj.mp (by rw [e]; rfl)
      have k := k.2.2 cx
      rw [e] at ht
      have ht : (some 4 : Option Nat) = some t := ht
      cases ht
      refine Ex.seg hq 1 (j := 5) (L' := [.ref 35, .int p1]) (S' := [.int (11 : Int32)]) (h' := hpS s) rfl ?_
      exact Ex.rt hq rfl rfl ⟨(11 : Int32), s, rfl, rfl, k⟩
/-- RowAuditor$Parser.opens(I)Z -/
def w_80 (p1 : Int32) (s : ST) (K : Int32 → ST → Prop) : Prop := ((p1 < (6 : Int32) → K (1 : Int32) (sI s 3504 ((s.1 3504) + (1 : Int32)))) ∧ (¬ (p1 < (6 : Int32)) → w_85 (5 : Int32) (s.1 3504) s (fun s1 => K (0 : Int32) s1)))
theorem q_80 {d : Nat} {K : Int32 → ST → Prop} (p1 : Int32) (s : ST) (k : w_80 p1 s K) : Rn sc (d + 1) 80 [.ref 35, .int p1] (hpS s) (kZ K) := by
  have hq : prog[80]? = some pm80 := rfl
  refine Rn.of (L := [.ref 35, .int p1]) hq rfl rfl ?_
  unfold w_80 at k
  refine Ex.seg hq 2 (j := 2) (L' := [.ref 35, .int p1]) (S' := [.int (6 : Int32), .int p1]) (h' := hpS s) rfl ?_
  refine Ex.i2 hq rfl (fun c => ?_) (fun c => ?_)
  · have k := k.1 c
    refine Ex.seg hq 7 (j := 17) (L' := [.ref 35, .int p1]) (S' := [.int (1 : Int32)]) (h' := hpS (sI s 3504 ((s.1 3504) + (1 : Int32)))) rfl ?_
    exact Ex.zr hq rfl rfl (Or.inr rfl) ⟨(1 : Int32), (sI s 3504 ((s.1 3504) + (1 : Int32))), rfl, (Or.inr rfl), rfl, k⟩
  · have k := k.2 c
    refine Ex.seg hq 4 (j := 7) (L' := [.ref 35, .int p1]) (S' := [.int (s.1 3504), .int (5 : Int32), .ref 35]) (h' := hpS s) rfl ?_
    refine Ex.cl hq rfl rfl ?_
    refine Rn.mono (q_85 (d := d + 0) (5 : Int32) (s.1 3504) s k) ?_
    rintro _ _ ⟨s1, rfl, rfl, k⟩
    show Ex sc (d + 1) 80 8 [.ref 35, .int p1] [] (hpS s1) _
    refine Ex.seg hq 1 (j := 9) (L' := [.ref 35, .int p1]) (S' := [.int (0 : Int32)]) (h' := hpS s1) rfl ?_
    exact Ex.zr hq rfl rfl (Or.inl rfl) ⟨(0 : Int32), s1, rfl, (Or.inl rfl), rfl, k⟩
/-- RowAuditor$Parser.isFactorSign(I)Z -/
def w_75 (p0 : Int32) (s : ST) (K : Int32 → ST → Prop) : Prop := ((p0 = (42 : Int32) → K (1 : Int32) s) ∧ (¬ (p0 = (42 : Int32)) → ((p0 = (47 : Int32) → K (1 : Int32) s) ∧ (¬ (p0 = (47 : Int32)) → ((¬ p0 = (37 : Int32) → K (0 : Int32) s) ∧ (¬ (¬ p0 = (37 : Int32)) → K (1 : Int32) s))))))
theorem q_75 {d : Nat} {K : Int32 → ST → Prop} (p0 : Int32) (s : ST) (k : w_75 p0 s K) : Rn sc (d + 0) 75 [.int p0] (hpS s) (kZ K) := by
  have hq : prog[75]? = some pm75 := rfl
  refine Rn.of (L := [.int p0]) hq rfl rfl ?_
  unfold w_75 at k
  refine Ex.seg hq 2 (j := 2) (L' := [.int p0]) (S' := [.int (42 : Int32), .int p0]) (h' := hpS s) rfl ?_
  refine Ex.i2 hq rfl (fun c => ?_) (fun c => ?_)
  · have k := k.1 c
    refine Ex.seg hq 2 (j := 12) (L' := [.int p0]) (S' := [.int (1 : Int32)]) (h' := hpS s) rfl ?_
    exact Ex.zr hq rfl rfl (Or.inr rfl) ⟨(1 : Int32), s, rfl, (Or.inr rfl), rfl, k⟩
  · have k := k.2 c
    refine Ex.seg hq 2 (j := 5) (L' := [.int p0]) (S' := [.int (47 : Int32), .int p0]) (h' := hpS s) rfl ?_
    refine Ex.i2 hq rfl (fun c => ?_) (fun c => ?_)
    · have k := k.1 c
      refine Ex.seg hq 2 (j := 12) (L' := [.int p0]) (S' := [.int (1 : Int32)]) (h' := hpS s) rfl ?_
      exact Ex.zr hq rfl rfl (Or.inr rfl) ⟨(1 : Int32), s, rfl, (Or.inr rfl), rfl, k⟩
    · have k := k.2 c
      refine Ex.seg hq 2 (j := 8) (L' := [.int p0]) (S' := [.int (37 : Int32), .int p0]) (h' := hpS s) rfl ?_
      refine Ex.i2 hq rfl (fun c => ?_) (fun c => ?_)
      · have k := k.1 c
        refine Ex.seg hq 1 (j := 12) (L' := [.int p0]) (S' := [.int (0 : Int32)]) (h' := hpS s) rfl ?_
        exact Ex.zr hq rfl rfl (Or.inl rfl) ⟨(0 : Int32), s, rfl, (Or.inl rfl), rfl, k⟩
      · have k := k.2 c
        refine Ex.seg hq 2 (j := 12) (L' := [.int p0]) (S' := [.int (1 : Int32)]) (h' := hpS s) rfl ?_
        exact Ex.zr hq rfl rfl (Or.inr rfl) ⟨(1 : Int32), s, rfl, (Or.inr rfl), rfl, k⟩
/-- java/lang/String.isLatin1()Z -/
def w_288_F2  (s : ST) (K : Int32 → ST → Prop) : Prop := K (1 : Int32) s
theorem q_288_F2 {d : Nat} {K : Int32 → ST → Prop}  (s : ST) (k : w_288_F2  s K) : Rn sc (d + 0) 288 [.float 2] (hpS s) (kZ K) := by
  have hq : prog[288]? = some pm288 := rfl
  refine Rn.of (L := [.float 2]) hq rfl rfl ?_
  unfold w_288_F2 at k
  refine Ex.seg hq 7 (j := 8) (L' := [.float 2]) (S' := [.int (1 : Int32)]) (h' := hpS s) rfl ?_
  exact Ex.zr hq rfl rfl (Or.inr rfl) ⟨(1 : Int32), s, rfl, (Or.inr rfl), rfl, k⟩
/-- java/lang/String.coder()B -/
def w_287_F2  (s : ST) (K : Int32 → ST → Prop) : Prop := K (0 : Int32) s
theorem q_287_F2 {d : Nat} {K : Int32 → ST → Prop}  (s : ST) (k : w_287_F2  s K) : Rn sc (d + 0) 287 [.float 2] (hpS s) (kI K) := by
  have hq : prog[287]? = some pm287 := rfl
  refine Rn.of (L := [.float 2]) hq rfl rfl ?_
  unfold w_287_F2 at k
  refine Ex.seg hq 5 (j := 6) (L' := [.float 2]) (S' := [.int (0 : Int32)]) (h' := hpS s) rfl ?_
  exact Ex.rt hq rfl rfl ⟨(0 : Int32), s, rfl, rfl, k⟩
/-- java/lang/String.length()I -/
def w_284_F2  (s : ST) (K : Int32 → ST → Prop) : Prop := w_287_F2 s (fun r2 s1 => K ((13 : Int32) >>> (r2 &&& 31)) s1)
theorem q_284_F2 {d : Nat} {K : Int32 → ST → Prop}  (s : ST) (k : w_284_F2  s K) : Rn sc (d + 1) 284 [.float 2] (hpS s) (kI K) := by
  have hq : prog[284]? = some pm284 := rfl
  refine Rn.of (L := [.float 2]) hq rfl rfl ?_
  unfold w_284_F2 at k
  refine Ex.seg hq 4 (j := 4) (L' := [.float 2]) (S' := [.float 2, .int (13 : Int32)]) (h' := hpS s) rfl ?_
  refine Ex.cl hq rfl rfl ?_
  refine Rn.mono (q_287_F2 (d := d + 0) s k) ?_
  rintro _ _ ⟨r2, s1, rfl, rfl, k⟩
  show Ex sc (d + 1) 284 5 [.float 2] [.int r2, .int (13 : Int32)] (hpS s1) _
  refine Ex.seg hq 1 (j := 6) (L' := [.float 2]) (S' := [.int ((13 : Int32) >>> (r2 &&& 31))]) (h' := hpS s1) rfl ?_
  exact Ex.rt hq rfl rfl ⟨((13 : Int32) >>> (r2 &&& 31)), s1, rfl, rfl, k⟩
/-- java/lang/StringLatin1.canEncode(I)Z -/
def w_289 (p0 : Int32) (s : ST) (K : Int32 → ST → Prop) : Prop := ((p0 < 0 → K (0 : Int32) s) ∧ (¬ (p0 < 0) → (((255 : Int32) < p0 → K (0 : Int32) s) ∧ (¬ ((255 : Int32) < p0) → K (1 : Int32) s))))
theorem q_289 {d : Nat} {K : Int32 → ST → Prop} (p0 : Int32) (s : ST) (k : w_289 p0 s K) : Rn sc (d + 0) 289 [.int p0] (hpS s) (kZ K) := by
  have hq : prog[289]? = some pm289 := rfl
  refine Rn.of (L := [.int p0]) hq rfl rfl ?_
  unfold w_289 at k
  refine Ex.seg hq 1 (j := 1) (L' := [.int p0]) (S' := [.int p0]) (h' := hpS s) rfl ?_
  refine Ex.i1 hq rfl (fun c => ?_) (fun c => ?_)
  · have k := k.1 c
    refine Ex.seg hq 1 (j := 8) (L' := [.int p0]) (S' := [.int (0 : Int32)]) (h' := hpS s) rfl ?_
    exact Ex.zr hq rfl rfl (Or.inl rfl) ⟨(0 : Int32), s, rfl, (Or.inl rfl), rfl, k⟩
  · have k := k.2 c
    refine Ex.seg hq 2 (j := 4) (L' := [.int p0]) (S' := [.int (255 : Int32), .int p0]) (h' := hpS s) rfl ?_
    refine Ex.i2 hq rfl (fun c => ?_) (fun c => ?_)
    · have k := k.1 c
      refine Ex.seg hq 1 (j := 8) (L' := [.int p0]) (S' := [.int (0 : Int32)]) (h' := hpS s) rfl ?_
      exact Ex.zr hq rfl rfl (Or.inl rfl) ⟨(0 : Int32), s, rfl, (Or.inl rfl), rfl, k⟩
    · have k := k.2 c
      refine Ex.seg hq 2 (j := 8) (L' := [.int p0]) (S' := [.int (1 : Int32)]) (h' := hpS s) rfl ?_
      exact Ex.zr hq rfl rfl (Or.inr rfl) ⟨(1 : Int32), s, rfl, (Or.inr rfl), rfl, k⟩
def w_291_F3_L5 : Nat → Int32 → Int32 → Int32 → ST → (ST → Prop) → (Int32 → ST → Prop) → (Int32 → ST → Prop) → Prop
  | 0, _, _, _, _, _, _, _ => False
  | n + 1, x3, x4, x5, s, X17, X13, K => ((x3 ≤ x5 → X17  s) ∧ (¬ (x3 ≤ x5) → (pin x5 13 = true ∧ ((¬ (pbyt.getD (x5).toNatClampNeg 0) = x4 → w_291_F3_L5 n x3 x4 (x5 + (1 : Int32)) s X17 X13 K) ∧ (¬ (¬ (pbyt.getD (x5).toNatClampNeg 0) = x4) → X13 x5 s)))))
theorem q_291_F3_L5 {d : Nat} {X17 : ST → Prop} {X13 : Int32 → ST → Prop} {K : Int32 → ST → Prop} : ∀ (n : Nat) (x3 : Int32) (x4 : Int32) (x5 : Int32) (s : ST), w_291_F3_L5 n x3 x4 x5 s X17 X13 K → (∀ (s : ST), X17  s → Ex sc (d + 0) 291 17 [pu, pu, pu, pu, pu, pu] [] (hpS s) (kI K)) → (∀ (y5 : Int32) (s : ST), X13 y5 s → Ex sc (d + 0) 291 13 [pu, pu, pu, pu, pu, .int y5] [] (hpS s) (kI K)) → Ex sc (d + 0) 291 5 [.float 3, pu, pu, .int x3, .int x4, .int x5] [] (hpS s) (kI K) := by
  have hq : prog[291]? = some pm291 := rfl
  intro n
  induction n with
  | zero =>
    intro x3 x4 x5 s k
    exact k.elim
  | succ n ih =>
    intro x3 x4 x5 s k hX17 hX13
    rw [w_291_F3_L5] at k
    refine Ex.seg hq 2 (j := 7) (L' := [.float 3, pu, pu, .int x3, .int x4, .int x5]) (S' := [.int x3, .int x5]) (h' := hpS s) rfl ?_
    refine Ex.i2 hq rfl (fun c => ?_) (fun c => ?_)
    · have k := k.1 c
      refine Ex.fg (L := [pu, pu, pu, pu, pu, pu]) ⟨Or.inr ⟨rfl, rfl⟩, ⟨Or.inl rfl, ⟨Or.inl rfl, ⟨Or.inr ⟨rfl, rfl⟩, ⟨Or.inr ⟨rfl, rfl⟩, ⟨Or.inr ⟨rfl, rfl⟩, trivial⟩⟩⟩⟩⟩⟩ ?_
      exact hX17  s k
    · have k := k.2 c
      refine Ex.seg hq 2 (j := 10) (L' := [.float 3, pu, pu, .int x3, .int x4, .int x5]) (S' := [.int x5, .float 3]) (h' := hpS s) rfl ?_
      obtain ⟨hin, k⟩ := k
      refine Ex.nx hq rfl (L' := [.float 3, pu, pu, .int x3, .int x4, .int x5]) (S' := [.int (pbyt.getD (x5).toNatClampNeg 0)]) (h' := hpS s) (by simp only [stp, pbal, hin, if_true]) ?_
      refine Ex.seg hq 1 (j := 12) (L' := [.float 3, pu, pu, .int x3, .int x4, .int x5]) (S' := [.int x4, .int (pbyt.getD (x5).toNatClampNeg 0)]) (h' := hpS s) rfl ?_
      refine Ex.i2 hq rfl (fun c => ?_) (fun c => ?_)
      · have k := k.1 c
        refine Ex.seg hq 2 (j := 5) (L' := [.float 3, pu, pu, .int x3, .int x4, .int (x5 + (1 : Int32))]) (S' := []) (h' := hpS s) rfl ?_
        exact ih x3 x4 (x5 + (1 : Int32)) s k hX17 hX13
      · have k := k.2 c
        refine Ex.fg (L := [pu, pu, pu, pu, pu, .int x5]) ⟨Or.inr ⟨rfl, rfl⟩, ⟨Or.inl rfl, ⟨Or.inl rfl, ⟨Or.inr ⟨rfl, rfl⟩, ⟨Or.inr ⟨rfl, rfl⟩, ⟨Or.inl rfl, trivial⟩⟩⟩⟩⟩⟩ ?_
        exact hX13 x5 s k
/-- java/lang/StringLatin1.indexOfChar([BIII)I -/
def w_291_F3 (p1 : Int32) (p2 : Int32) (p3 : Int32) (s : ST) (K : Int32 → ST → Prop) : Prop := (∃ m, w_291_F3_L5 m p3 ((p1).toInt8.toInt32) p2 s (fun s1 => K (-1 : Int32) s1) (fun y5 s2 => K y5 s2) K)
theorem q_291_F3 {d : Nat} {K : Int32 → ST → Prop} (p1 : Int32) (p2 : Int32) (p3 : Int32) (s : ST) (k : w_291_F3 p1 p2 p3 s K) : Rn sc (d + 0) 291 [.float 3, .int p1, .int p2, .int p3] (hpS s) (kI K) := by
  have hq : prog[291]? = some pm291 := rfl
  refine Rn.of (L := [.float 3, .int p1, .int p2, .int p3, pu, pu]) hq rfl rfl ?_
  unfold w_291_F3 at k
  refine Ex.seg hq 5 (j := 5) (L' := [.float 3, .int p1, .int p2, .int p3, .int ((p1).toInt8.toInt32), .int p2]) (S' := []) (h' := hpS s) rfl ?_
  obtain ⟨m, k⟩ := k
  refine Ex.fg (L := [.float 3, pu, pu, .int p3, .int ((p1).toInt8.toInt32), .int p2]) ⟨Or.inl rfl, ⟨Or.inr ⟨rfl, rfl⟩, ⟨Or.inr ⟨rfl, rfl⟩, ⟨Or.inl rfl, ⟨Or.inl rfl, ⟨Or.inl rfl, trivial⟩⟩⟩⟩⟩⟩ ?_
  refine q_291_F3_L5 (d := d) m p3 ((p1).toInt8.toInt32) p2 s k ?_ ?_
  · intro s1 k
    refine Ex.seg hq 1 (j := 18) (L' := [pu, pu, pu, pu, pu, pu]) (S' := [.int (-1 : Int32)]) (h' := hpS s1) rfl ?_
    exact Ex.rt hq rfl rfl ⟨(-1 : Int32), s1, rfl, rfl, k⟩
  · intro y5 s2 k
    refine Ex.seg hq 1 (j := 14) (L' := [pu, pu, pu, pu, pu, .int y5]) (S' := [.int y5]) (h' := hpS s2) rfl ?_
    exact Ex.rt hq rfl rfl ⟨y5, s2, rfl, rfl, k⟩
/-- java/lang/StringLatin1.indexOf([BIII)I -/
def w_290_F3 (p1 : Int32) (p2 : Int32) (p3 : Int32) (s : ST) (K : Int32 → ST → Prop) : Prop := w_289 p1 s (fun r2 s1 => ((¬ r2 = 0 → (((if p2 < (0 : Int32) then (0 : Int32) else p2) < (if (13 : Int32) < p3 then (13 : Int32) else p3) → w_291_F3 p1 (if p2 < (0 : Int32) then (0 : Int32) else p2) (if (13 : Int32) < p3 then (13 : Int32) else p3) s1 (fun r4 s3 => K r4 s3)) ∧ (¬ ((if p2 < (0 : Int32) then (0 : Int32) else p2) < (if (13 : Int32) < p3 then (13 : Int32) else p3)) → K (-1 : Int32) s1))) ∧ (¬ (¬ r2 = 0) → K (-1 : Int32) s1)))
theorem q_290_F3 {d : Nat} {K : Int32 → ST → Prop} (p1 : Int32) (p2 : Int32) (p3 : Int32) (s : ST) (k : w_290_F3 p1 p2 p3 s K) : Rn sc (d + 1) 290 [.float 3, .int p1, .int p2, .int p3] (hpS s) (kI K) := by
  have hq : prog[290]? = some pm290 := rfl
  refine Rn.of (L := [.float 3, .int p1, .int p2, .int p3]) hq rfl rfl ?_
  unfold w_290_F3 at k
  refine Ex.seg hq 1 (j := 1) (L' := [.float 3, .int p1, .int p2, .int p3]) (S' := [.int p1]) (h' := hpS s) rfl ?_
  refine Ex.cl hq rfl rfl ?_
  refine Rn.mono (q_289 (d := d + 0) p1 s k) ?_
  rintro _ _ ⟨r2, s1, rfl, hzr2, rfl, k⟩
  show Ex sc (d + 1) 290 2 [.float 3, .int p1, .int p2, .int p3] [.int r2] (hpS s1) _
  refine Ex.i1 hq rfl (fun c => ?_) (fun c => ?_)
  · have k := k.1 c
    refine Ex.seg hq 11 (j := 16) (L' := [.float 3, .int p1, .int (if p2 < (0 : Int32) then (0 : Int32) else p2), .int (if (13 : Int32) < p3 then (13 : Int32) else p3)]) (S' := [.int (if (13 : Int32) < p3 then (13 : Int32) else p3), .int (if p2 < (0 : Int32) then (0 : Int32) else p2)]) (h' := hpS s1) rfl ?_
    refine Ex.i2 hq rfl (fun c => ?_) (fun c => ?_)
    · have k := k.1 c
      refine Ex.seg hq 4 (j := 23) (L' := [.float 3, .int p1, .int (if p2 < (0 : Int32) then (0 : Int32) else p2), .int (if (13 : Int32) < p3 then (13 : Int32) else p3)]) (S' := [.int (if (13 : Int32) < p3 then (13 : Int32) else p3), .int (if p2 < (0 : Int32) then (0 : Int32) else p2), .int p1, .float 3]) (h' := hpS s1) rfl ?_
      refine Ex.cl hq rfl rfl ?_
      refine Rn.mono (q_291_F3 (d := d + 0) p1 (if p2 < (0 : Int32) then (0 : Int32) else p2) (if (13 : Int32) < p3 then (13 : Int32) else p3) s1 k) ?_
      rintro _ _ ⟨r4, s3, rfl, rfl, k⟩
      show Ex sc (d + 1) 290 24 [.float 3, .int p1, .int (if p2 < (0 : Int32) then (0 : Int32) else p2), .int (if (13 : Int32) < p3 then (13 : Int32) else p3)] [.int r4] (hpS s3) _
      exact Ex.rt hq rfl rfl ⟨r4, s3, rfl, rfl, k⟩
    · have k := k.2 c
      refine Ex.seg hq 1 (j := 18) (L' := [.float 3, .int p1, .int (if p2 < (0 : Int32) then (0 : Int32) else p2), .int (if (13 : Int32) < p3 then (13 : Int32) else p3)]) (S' := [.int (-1 : Int32)]) (h' := hpS s1) rfl ?_
      exact Ex.rt hq rfl rfl ⟨(-1 : Int32), s1, rfl, rfl, k⟩
  · have k := k.2 c
    refine Ex.seg hq 1 (j := 4) (L' := [.float 3, .int p1, .int p2, .int p3]) (S' := [.int (-1 : Int32)]) (h' := hpS s1) rfl ?_
    exact Ex.rt hq rfl rfl ⟨(-1 : Int32), s1, rfl, rfl, k⟩
/-- java/lang/String.indexOf(II)I -/
def w_286_F2 (p1 : Int32) (p2 : Int32) (s : ST) (K : Int32 → ST → Prop) : Prop := w_288_F2 s (fun r2 s1 => ((r2 = 0 → w_284_F2 s1 (fun r4 s3 => False)) ∧ (¬ (r2 = 0) → w_284_F2 s1 (fun r6 s5 => w_290_F3 p1 p2 r6 s5 (fun r8 s7 => K r8 s7)))))
theorem q_286_F2 {d : Nat} {K : Int32 → ST → Prop} (p1 : Int32) (p2 : Int32) (s : ST) (k : w_286_F2 p1 p2 s K) : Rn sc (d + 2) 286 [.float 2, .int p1, .int p2] (hpS s) (kI K) := by
  have hq : prog[286]? = some pm286 := rfl
  refine Rn.of (L := [.float 2, .int p1, .int p2]) hq rfl rfl ?_
  unfold w_286_F2 at k
  refine Ex.seg hq 1 (j := 1) (L' := [.float 2, .int p1, .int p2]) (S' := [.float 2]) (h' := hpS s) rfl ?_
  refine Ex.cl hq rfl rfl ?_
  refine Rn.mono (q_288_F2 (d := d + 1) s k) ?_
  rintro _ _ ⟨r2, s1, rfl, hzr2, rfl, k⟩
  show Ex sc (d + 2) 286 2 [.float 2, .int p1, .int p2] [.int r2] (hpS s1) _
  refine Ex.i1 hq rfl (fun c => ?_) (fun c => ?_)
  · have k := k.1 c
    refine Ex.seg hq 5 (j := 16) (L' := [.float 2, .int p1, .int p2]) (S' := [.float 2, .int p2, .int p1, .float 3]) (h' := hpS s1) rfl ?_
    refine Ex.cl hq rfl rfl ?_
    refine Rn.mono (q_284_F2 (d := d + 0) s1 k) ?_
    rintro _ _ ⟨r4, s3, rfl, rfl, k⟩
    show Ex sc (d + 2) 286 17 [.float 2, .int p1, .int p2] [.int r4, .int p2, .int p1, .float 3] (hpS s3) _
    exact k.elim
  · have k := k.2 c
    refine Ex.seg hq 5 (j := 8) (L' := [.float 2, .int p1, .int p2]) (S' := [.float 2, .int p2, .int p1, .float 3]) (h' := hpS s1) rfl ?_
    refine Ex.cl hq rfl rfl ?_
    refine Rn.mono (q_284_F2 (d := d + 0) s1 k) ?_
    rintro _ _ ⟨r6, s5, rfl, rfl, k⟩
    show Ex sc (d + 2) 286 9 [.float 2, .int p1, .int p2] [.int r6, .int p2, .int p1, .float 3] (hpS s5) _
    refine Ex.cl hq rfl rfl ?_
    refine Rn.mono (q_290_F3 (d := d + 0) p1 p2 r6 s5 k) ?_
    rintro _ _ ⟨r8, s7, rfl, rfl, k⟩
    show Ex sc (d + 2) 286 10 [.float 2, .int p1, .int p2] [.int r8] (hpS s7) _
    refine Ex.seg hq 1 (j := 18) (L' := [.float 2, .int p1, .int p2]) (S' := [.int r8]) (h' := hpS s7) rfl ?_
    exact Ex.rt hq rfl rfl ⟨r8, s7, rfl, rfl, k⟩
/-- java/lang/String.indexOf(I)I -/
def w_285_F2 (p1 : Int32) (s : ST) (K : Int32 → ST → Prop) : Prop := w_286_F2 p1 (0 : Int32) s (fun r2 s1 => K r2 s1)
theorem q_285_F2 {d : Nat} {K : Int32 → ST → Prop} (p1 : Int32) (s : ST) (k : w_285_F2 p1 s K) : Rn sc (d + 3) 285 [.float 2, .int p1] (hpS s) (kI K) := by
  have hq : prog[285]? = some pm285 := rfl
  refine Rn.of (L := [.float 2, .int p1]) hq rfl rfl ?_
  unfold w_285_F2 at k
  refine Ex.seg hq 3 (j := 3) (L' := [.float 2, .int p1]) (S' := [.int (0 : Int32), .int p1, .float 2]) (h' := hpS s) rfl ?_
  refine Ex.cl hq rfl rfl ?_
  refine Rn.mono (q_286_F2 (d := d + 0) p1 (0 : Int32) s k) ?_
  rintro _ _ ⟨r2, s1, rfl, rfl, k⟩
  show Ex sc (d + 3) 285 4 [.float 2, .int p1] [.int r2] (hpS s1) _
  exact Ex.rt hq rfl rfl ⟨r2, s1, rfl, rfl, k⟩
/-- RowAuditor$Parser.isDigit(I)Z -/
def w_79 (p0 : Int32) (s : ST) (K : Int32 → ST → Prop) : Prop := ((p0 < (48 : Int32) → K (0 : Int32) s) ∧ (¬ (p0 < (48 : Int32)) → (((57 : Int32) < p0 → K (0 : Int32) s) ∧ (¬ ((57 : Int32) < p0) → K (1 : Int32) s))))
theorem q_79 {d : Nat} {K : Int32 → ST → Prop} (p0 : Int32) (s : ST) (k : w_79 p0 s K) : Rn sc (d + 0) 79 [.int p0] (hpS s) (kZ K) := by
  have hq : prog[79]? = some pm79 := rfl
  refine Rn.of (L := [.int p0]) hq rfl rfl ?_
  unfold w_79 at k
  refine Ex.seg hq 2 (j := 2) (L' := [.int p0]) (S' := [.int (48 : Int32), .int p0]) (h' := hpS s) rfl ?_
  refine Ex.i2 hq rfl (fun c => ?_) (fun c => ?_)
  · have k := k.1 c
    refine Ex.seg hq 1 (j := 9) (L' := [.int p0]) (S' := [.int (0 : Int32)]) (h' := hpS s) rfl ?_
    exact Ex.zr hq rfl rfl (Or.inl rfl) ⟨(0 : Int32), s, rfl, (Or.inl rfl), rfl, k⟩
  · have k := k.2 c
    refine Ex.seg hq 2 (j := 5) (L' := [.int p0]) (S' := [.int (57 : Int32), .int p0]) (h' := hpS s) rfl ?_
    refine Ex.i2 hq rfl (fun c => ?_) (fun c => ?_)
    · have k := k.1 c
      refine Ex.seg hq 1 (j := 9) (L' := [.int p0]) (S' := [.int (0 : Int32)]) (h' := hpS s) rfl ?_
      exact Ex.zr hq rfl rfl (Or.inl rfl) ⟨(0 : Int32), s, rfl, (Or.inl rfl), rfl, k⟩
    · have k := k.2 c
      refine Ex.seg hq 2 (j := 9) (L' := [.int p0]) (S' := [.int (1 : Int32)]) (h' := hpS s) rfl ?_
      exact Ex.zr hq rfl rfl (Or.inr rfl) ⟨(1 : Int32), s, rfl, (Or.inr rfl), rfl, k⟩
def w_77_L13 : Nat → Int32 → Int32 → ST → (Int32 → ST → Prop) → (Int32 → ST → Prop) → Prop
  | 0, _, _, _, _, _ => False
  | n + 1, x1, x2, s, X37, K => (((7 : Int32) ≤ x2 → X37 x1 s) ∧ (¬ ((7 : Int32) ≤ x2) → w_81 s (fun r6 s5 => w_79 r6 s5 (fun r8 s7 => ((r8 = 0 → X37 x1 s7) ∧ (¬ (r8 = 0) → w_81 s7 (fun r10 s9 => w_77_L13 n ((((10 : Int32) * x1) + r10) - (48 : Int32)) (x2 + (1 : Int32)) (sI s9 3504 ((s9.1 3504) + (1 : Int32))) X37 K)))))))
theorem q_77_L13 {d : Nat} {X37 : Int32 → ST → Prop} {K : Int32 → ST → Prop} : ∀ (n : Nat) (x1 : Int32) (x2 : Int32) (s : ST), w_77_L13 n x1 x2 s X37 K → (∀ (y1 : Int32) (s : ST), X37 y1 s → Ex sc (d + 1) 77 37 [.ref 35, .int y1, pu] [] (hpS s) (kI K)) → Ex sc (d + 1) 77 13 [.ref 35, .int x1, .int x2] [] (hpS s) (kI K) := by
  have hq : prog[77]? = some pm77 := rfl
  intro n
  induction n with
  | zero =>
    intro x1 x2 s k
    exact k.elim
  | succ n ih =>
    intro x1 x2 s k hX37
    rw [w_77_L13] at k
    refine Ex.seg hq 2 (j := 15) (L' := [.ref 35, .int x1, .int x2]) (S' := [.int (7 : Int32), .int x2]) (h' := hpS s) rfl ?_
    refine Ex.i2 hq rfl (fun c => ?_) (fun c => ?_)
    · have k := k.1 c
      refine Ex.fg (L := [.ref 35, .int x1, pu]) ⟨Or.inl rfl, ⟨Or.inl rfl, ⟨Or.inr ⟨rfl, rfl⟩, trivial⟩⟩⟩ ?_
      exact hX37 x1 s k
    · have k := k.2 c
      refine Ex.seg hq 1 (j := 17) (L' := [.ref 35, .int x1, .int x2]) (S' := [.ref 35]) (h' := hpS s) rfl ?_
      refine Ex.cl hq rfl rfl ?_
      refine Rn.mono (q_81 (d := d + 0) s k) ?_
      rintro _ _ ⟨r6, s5, rfl, rfl, k⟩
      show Ex sc (d + 1) 77 18 [.ref 35, .int x1, .int x2] [.int r6] (hpS s5) _
      refine Ex.cl hq rfl rfl ?_
      refine Rn.mono (q_79 (d := d + 0) r6 s5 k) ?_
      rintro _ _ ⟨r8, s7, rfl, hzr8, rfl, k⟩
      show Ex sc (d + 1) 77 19 [.ref 35, .int x1, .int x2] [.int r8] (hpS s7) _
      refine Ex.i1 hq rfl (fun c => ?_) (fun c => ?_)
      · have k := k.1 c
        refine Ex.fg (L := [.ref 35, .int x1, pu]) ⟨Or.inl rfl, ⟨Or.inl rfl, ⟨Or.inr ⟨rfl, rfl⟩, trivial⟩⟩⟩ ?_
        exact hX37 x1 s7 k
      · have k := k.2 c
        refine Ex.seg hq 4 (j := 24) (L' := [.ref 35, .int x1, .int x2]) (S' := [.ref 35, .int ((10 : Int32) * x1)]) (h' := hpS s7) rfl ?_
        refine Ex.cl hq rfl rfl ?_
        refine Rn.mono (q_81 (d := d + 0) s7 k) ?_
        rintro _ _ ⟨r10, s9, rfl, rfl, k⟩
        show Ex sc (d + 1) 77 25 [.ref 35, .int x1, .int x2] [.int r10, .int ((10 : Int32) * x1)] (hpS s9) _
        refine Ex.seg hq 12 (j := 13) (L' := [.ref 35, .int ((((10 : Int32) * x1) + r10) - (48 : Int32)), .int (x2 + (1 : Int32))]) (S' := []) (h' := hpS (sI s9 3504 ((s9.1 3504) + (1 : Int32)))) rfl ?_
        exact ih ((((10 : Int32) * x1) + r10) - (48 : Int32)) (x2 + (1 : Int32)) (sI s9 3504 ((s9.1 3504) + (1 : Int32))) k hX37
/-- RowAuditor$Parser.number()I -/
def w_77  (s : ST) (K : Int32 → ST → Prop) : Prop := w_81 s (fun r2 s1 => w_79 r2 s1 (fun r4 s3 => ((¬ r4 = 0 → (∃ m, w_77_L13 m (0 : Int32) (0 : Int32) s3 (fun y1 s11 => w_81 s11 (fun r13 s12 => w_79 r13 s12 (fun r15 s14 => ((r15 = 0 → K y1 s14) ∧ (¬ (r15 = 0) → w_85 (2 : Int32) (s14.1 3504) s14 (fun s16 => K y1 s16)))))) K)) ∧ (¬ (¬ r4 = 0) → w_85 (1 : Int32) (s3.1 3504) s3 (fun s18 => (∃ m, w_77_L13 m (0 : Int32) (0 : Int32) s18 (fun y1 s20 => w_81 s20 (fun r22 s21 => w_79 r22 s21 (fun r24 s23 => ((r24 = 0 → K y1 s23) ∧ (¬ (r24 = 0) → w_85 (2 : Int32) (s23.1 3504) s23 (fun s25 => K y1 s25)))))) K))))))
theorem q_77 {d : Nat} {K : Int32 → ST → Prop}  (s : ST) (k : w_77  s K) : Rn sc (d + 1) 77 [.ref 35] (hpS s) (kI K) := by
  have hq : prog[77]? = some pm77 := rfl
  refine Rn.of (L := [.ref 35, pu, pu]) hq rfl rfl ?_
  unfold w_77 at k
  refine Ex.seg hq 1 (j := 1) (L' := [.ref 35, pu, pu]) (S' := [.ref 35]) (h' := hpS s) rfl ?_
  refine Ex.cl hq rfl rfl ?_
  refine Rn.mono (q_81 (d := d + 0) s k) ?_
  rintro _ _ ⟨r2, s1, rfl, rfl, k⟩
  show Ex sc (d + 1) 77 2 [.ref 35, pu, pu] [.int r2] (hpS s1) _
  refine Ex.cl hq rfl rfl ?_
  refine Rn.mono (q_79 (d := d + 0) r2 s1 k) ?_
  rintro _ _ ⟨r4, s3, rfl, hzr4, rfl, k⟩
  show Ex sc (d + 1) 77 3 [.ref 35, pu, pu] [.int r4] (hpS s3) _
  refine Ex.i1 hq rfl (fun c => ?_) (fun c => ?_)
  · have k := k.1 c
    refine Ex.seg hq 4 (j := 13) (L' := [.ref 35, .int (0 : Int32), .int (0 : Int32)]) (S' := []) (h' := hpS s3) rfl ?_
    obtain ⟨m, k⟩ := k
    refine q_77_L13 (d := d) m (0 : Int32) (0 : Int32) s3 k ?_
    · intro y1 s11 k
      refine Ex.seg hq 1 (j := 38) (L' := [.ref 35, .int y1, pu]) (S' := [.ref 35]) (h' := hpS s11) rfl ?_
      refine Ex.cl hq rfl rfl ?_
      refine Rn.mono (q_81 (d := d + 0) s11 k) ?_
      rintro _ _ ⟨r13, s12, rfl, rfl, k⟩
      show Ex sc (d + 1) 77 39 [.ref 35, .int y1, pu] [.int r13] (hpS s12) _
      refine Ex.cl hq rfl rfl ?_
      refine Rn.mono (q_79 (d := d + 0) r13 s12 k) ?_
      rintro _ _ ⟨r15, s14, rfl, hzr15, rfl, k⟩
      show Ex sc (d + 1) 77 40 [.ref 35, .int y1, pu] [.int r15] (hpS s14) _
      refine Ex.i1 hq rfl (fun c => ?_) (fun c => ?_)
      · have k := k.1 c
        refine Ex.seg hq 1 (j := 47) (L' := [.ref 35, .int y1, pu]) (S' := [.int y1]) (h' := hpS s14) rfl ?_
        exact Ex.rt hq rfl rfl ⟨y1, s14, rfl, rfl, k⟩
      · have k := k.2 c
        refine Ex.seg hq 4 (j := 45) (L' := [.ref 35, .int y1, pu]) (S' := [.int (s14.1 3504), .int (2 : Int32), .ref 35]) (h' := hpS s14) rfl ?_
        refine Ex.cl hq rfl rfl ?_
        refine Rn.mono (q_85 (d := d + 0) (2 : Int32) (s14.1 3504) s14 k) ?_
        rintro _ _ ⟨s16, rfl, rfl, k⟩
        show Ex sc (d + 1) 77 46 [.ref 35, .int y1, pu] [] (hpS s16) _
        refine Ex.seg hq 1 (j := 47) (L' := [.ref 35, .int y1, pu]) (S' := [.int y1]) (h' := hpS s16) rfl ?_
        exact Ex.rt hq rfl rfl ⟨y1, s16, rfl, rfl, k⟩
  · have k := k.2 c
    refine Ex.seg hq 4 (j := 8) (L' := [.ref 35, pu, pu]) (S' := [.int (s3.1 3504), .int (1 : Int32), .ref 35]) (h' := hpS s3) rfl ?_
    refine Ex.cl hq rfl rfl ?_
    refine Rn.mono (q_85 (d := d + 0) (1 : Int32) (s3.1 3504) s3 k) ?_
    rintro _ _ ⟨s18, rfl, rfl, k⟩
    show Ex sc (d + 1) 77 9 [.ref 35, pu, pu] [] (hpS s18) _
    refine Ex.seg hq 4 (j := 13) (L' := [.ref 35, .int (0 : Int32), .int (0 : Int32)]) (S' := []) (h' := hpS s18) rfl ?_
    obtain ⟨m, k⟩ := k
    refine q_77_L13 (d := d) m (0 : Int32) (0 : Int32) s18 k ?_
    · intro y1 s20 k
      refine Ex.seg hq 1 (j := 38) (L' := [.ref 35, .int y1, pu]) (S' := [.ref 35]) (h' := hpS s20) rfl ?_
      refine Ex.cl hq rfl rfl ?_
      refine Rn.mono (q_81 (d := d + 0) s20 k) ?_
      rintro _ _ ⟨r22, s21, rfl, rfl, k⟩
      show Ex sc (d + 1) 77 39 [.ref 35, .int y1, pu] [.int r22] (hpS s21) _
      refine Ex.cl hq rfl rfl ?_
      refine Rn.mono (q_79 (d := d + 0) r22 s21 k) ?_
      rintro _ _ ⟨r24, s23, rfl, hzr24, rfl, k⟩
      show Ex sc (d + 1) 77 40 [.ref 35, .int y1, pu] [.int r24] (hpS s23) _
      refine Ex.i1 hq rfl (fun c => ?_) (fun c => ?_)
      · have k := k.1 c
        refine Ex.seg hq 1 (j := 47) (L' := [.ref 35, .int y1, pu]) (S' := [.int y1]) (h' := hpS s23) rfl ?_
        exact Ex.rt hq rfl rfl ⟨y1, s23, rfl, rfl, k⟩
      · have k := k.2 c
        refine Ex.seg hq 4 (j := 45) (L' := [.ref 35, .int y1, pu]) (S' := [.int (s23.1 3504), .int (2 : Int32), .ref 35]) (h' := hpS s23) rfl ?_
        refine Ex.cl hq rfl rfl ?_
        refine Rn.mono (q_85 (d := d + 0) (2 : Int32) (s23.1 3504) s23 k) ?_
        rintro _ _ ⟨s25, rfl, rfl, k⟩
        show Ex sc (d + 1) 77 46 [.ref 35, .int y1, pu] [] (hpS s25) _
        refine Ex.seg hq 1 (j := 47) (L' := [.ref 35, .int y1, pu]) (S' := [.int y1]) (h' := hpS s25) rfl ?_
        exact Ex.rt hq rfl rfl ⟨y1, s25, rfl, rfl, k⟩
def w_69_L5 (R : Nat → Int32 → ST → (ST → Prop) → Prop) : Nat → Int32 → Int32 → ST → (ST → Prop) → (ST → Prop) → Prop
  | 0, _, _, _, _, _ => False
  | n + 1, x1, x2, s, X27, K => (((s.1 3502) ≤ x2 → X27  s) ∧ (¬ ((s.1 3502) ≤ x2) → w_82 (124 : Int32) s (fun r4 s3 => ((r4 = 0 → X27  s3) ∧ (¬ (r4 = 0) → w_86 (4 : Int32) (0 : Int32) s3 (fun r6 s5 => R 70 x1 s5 (fun s7 => w_87 r6 (4 : Int32) s7 (fun s9 => w_69_L5 R n x1 (x2 + (1 : Int32)) s9 X27 K))))))))
theorem q_69_L5 {d : Nat} {R : Nat → Int32 → ST → (ST → Prop) → Prop} (hR : ∀ (t : Nat) (a0 : Int32) (s : ST) (K : ST → Prop), R t a0 s K → Rn sc (d + 3) t [.ref 35, .int a0] (hpS s) (kV K)) {X27 : ST → Prop} {K : ST → Prop} : ∀ (n : Nat) (x1 : Int32) (x2 : Int32) (s : ST), w_69_L5 R n x1 x2 s X27 K → (∀ (s : ST), X27  s → Ex sc (d + 4) 69 27 [pu, pu, pu, pu] [] (hpS s) (kV K)) → Ex sc (d + 4) 69 5 [.ref 35, .int x1, .int x2, pu] [] (hpS s) (kV K) := by
  have hq : prog[69]? = some pm69 := rfl
  intro n
  induction n with
  | zero =>
    intro x1 x2 s k
    exact k.elim
  | succ n ih =>
    intro x1 x2 s k hX27
    rw [w_69_L5] at k
    refine Ex.seg hq 3 (j := 8) (L' := [.ref 35, .int x1, .int x2, pu]) (S' := [.int (s.1 3502), .int x2]) (h' := hpS s) rfl ?_
    refine Ex.i2 hq rfl (fun c => ?_) (fun c => ?_)
    · have k := k.1 c
      refine Ex.fg (L := [pu, pu, pu, pu]) ⟨Or.inr ⟨rfl, rfl⟩, ⟨Or.inr ⟨rfl, rfl⟩, ⟨Or.inr ⟨rfl, rfl⟩, ⟨Or.inl rfl, trivial⟩⟩⟩⟩ ?_
      exact hX27  s k
    · have k := k.2 c
      refine Ex.seg hq 2 (j := 11) (L' := [.ref 35, .int x1, .int x2, pu]) (S' := [.int (124 : Int32), .ref 35]) (h' := hpS s) rfl ?_
      refine Ex.cl hq rfl rfl ?_
      refine Rn.mono (q_82 (d := d + 2) (124 : Int32) s k) ?_
      rintro _ _ ⟨r4, s3, rfl, hzr4, rfl, k⟩
      show Ex sc (d + 4) 69 12 [.ref 35, .int x1, .int x2, pu] [.int r4] (hpS s3) _
      refine Ex.i1 hq rfl (fun c => ?_) (fun c => ?_)
      · have k := k.1 c
        refine Ex.fg (L := [pu, pu, pu, pu]) ⟨Or.inr ⟨rfl, rfl⟩, ⟨Or.inr ⟨rfl, rfl⟩, ⟨Or.inr ⟨rfl, rfl⟩, ⟨Or.inl rfl, trivial⟩⟩⟩⟩ ?_
        exact hX27  s3 k
      · have k := k.2 c
        refine Ex.seg hq 3 (j := 16) (L' := [.ref 35, .int x1, .int x2, pu]) (S' := [.int (0 : Int32), .int (4 : Int32), .ref 35]) (h' := hpS s3) rfl ?_
        refine Ex.cl hq rfl rfl ?_
        refine Rn.mono (q_86 (d := d + 3) (4 : Int32) (0 : Int32) s3 k) ?_
        rintro _ _ ⟨r6, s5, rfl, rfl, k⟩
        show Ex sc (d + 4) 69 17 [.ref 35, .int x1, .int x2, pu] [.int r6] (hpS s5) _
        refine Ex.seg hq 3 (j := 20) (L' := [.ref 35, .int x1, .int x2, .int r6]) (S' := [.int x1, .ref 35]) (h' := hpS s5) rfl ?_
        refine Ex.cl hq rfl rfl ?_
        refine Rn.mono (hR 70 x1 s5 _ k) ?_
        rintro _ _ ⟨s7, rfl, rfl, k⟩
        show Ex sc (d + 4) 69 21 [.ref 35, .int x1, .int x2, .int r6] [] (hpS s7) _
        refine Ex.seg hq 3 (j := 24) (L' := [.ref 35, .int x1, .int x2, .int r6]) (S' := [.int (4 : Int32), .int r6, .ref 35]) (h' := hpS s7) rfl ?_
        refine Ex.cl hq rfl rfl ?_
        refine Rn.mono (q_87 (d := d + 2) r6 (4 : Int32) s7 k) ?_
        rintro _ _ ⟨s9, rfl, rfl, k⟩
        show Ex sc (d + 4) 69 25 [.ref 35, .int x1, .int x2, .int r6] [] (hpS s9) _
        refine Ex.seg hq 2 (j := 5) (L' := [.ref 35, .int x1, .int (x2 + (1 : Int32)), .int r6]) (S' := []) (h' := hpS s9) rfl ?_
        refine Ex.fg (L := [.ref 35, .int x1, .int (x2 + (1 : Int32)), pu]) ⟨Or.inl rfl, ⟨Or.inl rfl, ⟨Or.inl rfl, ⟨Or.inr ⟨rfl, rfl⟩, trivial⟩⟩⟩⟩ ?_
        exact ih x1 (x2 + (1 : Int32)) s9 k hX27
/-- RowAuditor$Parser.condition(I)V -/
def o_69 (R : Nat → Int32 → ST → (ST → Prop) → Prop) (p1 : Int32) (s : ST) (K : ST → Prop) : Prop := R 70 p1 s (fun s1 => (∃ m, w_69_L5 R m p1 (0 : Int32) s1 (fun s11 => K s11) K))
theorem x_69 {d : Nat} {K : ST → Prop} {R : Nat → Int32 → ST → (ST → Prop) → Prop} (hR : ∀ (t : Nat) (a0 : Int32) (s : ST) (K : ST → Prop), R t a0 s K → Rn sc (d + 3) t [.ref 35, .int a0] (hpS s) (kV K)) (p1 : Int32) (s : ST) (k : o_69 R p1 s K) : Rn sc (d + 4) 69 [.ref 35, .int p1] (hpS s) (kV K) := by
  have hq : prog[69]? = some pm69 := rfl
  refine Rn.of (L := [.ref 35, .int p1, pu, pu]) hq rfl rfl ?_
  unfold o_69 at k
  refine Ex.seg hq 2 (j := 2) (L' := [.ref 35, .int p1, pu, pu]) (S' := [.int p1, .ref 35]) (h' := hpS s) rfl ?_
  refine Ex.cl hq rfl rfl ?_
  refine Rn.mono (hR 70 p1 s _ k) ?_
  rintro _ _ ⟨s1, rfl, rfl, k⟩
  show Ex sc (d + 4) 69 3 [.ref 35, .int p1, pu, pu] [] (hpS s1) _
  refine Ex.seg hq 2 (j := 5) (L' := [.ref 35, .int p1, .int (0 : Int32), pu]) (S' := []) (h' := hpS s1) rfl ?_
  obtain ⟨m, k⟩ := k
  refine q_69_L5 hR (d := d) m p1 (0 : Int32) s1 k ?_
  · intro s11 k
    exact Ex.rt hq rfl rfl ⟨s11, rfl, rfl, k⟩
def w_70_L5 (R : Nat → Int32 → ST → (ST → Prop) → Prop) : Nat → Int32 → Int32 → ST → (ST → Prop) → (ST → Prop) → Prop
  | 0, _, _, _, _, _ => False
  | n + 1, x1, x2, s, X27, K => (((s.1 3502) ≤ x2 → X27  s) ∧ (¬ ((s.1 3502) ≤ x2) → w_82 (38 : Int32) s (fun r4 s3 => ((r4 = 0 → X27  s3) ∧ (¬ (r4 = 0) → w_86 (3 : Int32) (0 : Int32) s3 (fun r6 s5 => R 71 x1 s5 (fun s7 => w_87 r6 (3 : Int32) s7 (fun s9 => w_70_L5 R n x1 (x2 + (1 : Int32)) s9 X27 K))))))))
theorem q_70_L5 {d : Nat} {R : Nat → Int32 → ST → (ST → Prop) → Prop} (hR : ∀ (t : Nat) (a0 : Int32) (s : ST) (K : ST → Prop), R t a0 s K → Rn sc (d + 3) t [.ref 35, .int a0] (hpS s) (kV K)) {X27 : ST → Prop} {K : ST → Prop} : ∀ (n : Nat) (x1 : Int32) (x2 : Int32) (s : ST), w_70_L5 R n x1 x2 s X27 K → (∀ (s : ST), X27  s → Ex sc (d + 4) 70 27 [pu, pu, pu, pu] [] (hpS s) (kV K)) → Ex sc (d + 4) 70 5 [.ref 35, .int x1, .int x2, pu] [] (hpS s) (kV K) := by
  have hq : prog[70]? = some pm70 := rfl
  intro n
  induction n with
  | zero =>
    intro x1 x2 s k
    exact k.elim
  | succ n ih =>
    intro x1 x2 s k hX27
    rw [w_70_L5] at k
    refine Ex.seg hq 3 (j := 8) (L' := [.ref 35, .int x1, .int x2, pu]) (S' := [.int (s.1 3502), .int x2]) (h' := hpS s) rfl ?_
    refine Ex.i2 hq rfl (fun c => ?_) (fun c => ?_)
    · have k := k.1 c
      refine Ex.fg (L := [pu, pu, pu, pu]) ⟨Or.inr ⟨rfl, rfl⟩, ⟨Or.inr ⟨rfl, rfl⟩, ⟨Or.inr ⟨rfl, rfl⟩, ⟨Or.inl rfl, trivial⟩⟩⟩⟩ ?_
      exact hX27  s k
    · have k := k.2 c
      refine Ex.seg hq 2 (j := 11) (L' := [.ref 35, .int x1, .int x2, pu]) (S' := [.int (38 : Int32), .ref 35]) (h' := hpS s) rfl ?_
      refine Ex.cl hq rfl rfl ?_
      refine Rn.mono (q_82 (d := d + 2) (38 : Int32) s k) ?_
      rintro _ _ ⟨r4, s3, rfl, hzr4, rfl, k⟩
      show Ex sc (d + 4) 70 12 [.ref 35, .int x1, .int x2, pu] [.int r4] (hpS s3) _
      refine Ex.i1 hq rfl (fun c => ?_) (fun c => ?_)
      · have k := k.1 c
        refine Ex.fg (L := [pu, pu, pu, pu]) ⟨Or.inr ⟨rfl, rfl⟩, ⟨Or.inr ⟨rfl, rfl⟩, ⟨Or.inr ⟨rfl, rfl⟩, ⟨Or.inl rfl, trivial⟩⟩⟩⟩ ?_
        exact hX27  s3 k
      · have k := k.2 c
        refine Ex.seg hq 3 (j := 16) (L' := [.ref 35, .int x1, .int x2, pu]) (S' := [.int (0 : Int32), .int (3 : Int32), .ref 35]) (h' := hpS s3) rfl ?_
        refine Ex.cl hq rfl rfl ?_
        refine Rn.mono (q_86 (d := d + 3) (3 : Int32) (0 : Int32) s3 k) ?_
        rintro _ _ ⟨r6, s5, rfl, rfl, k⟩
        show Ex sc (d + 4) 70 17 [.ref 35, .int x1, .int x2, pu] [.int r6] (hpS s5) _
        refine Ex.seg hq 3 (j := 20) (L' := [.ref 35, .int x1, .int x2, .int r6]) (S' := [.int x1, .ref 35]) (h' := hpS s5) rfl ?_
        refine Ex.cl hq rfl rfl ?_
        refine Rn.mono (hR 71 x1 s5 _ k) ?_
        rintro _ _ ⟨s7, rfl, rfl, k⟩
        show Ex sc (d + 4) 70 21 [.ref 35, .int x1, .int x2, .int r6] [] (hpS s7) _
        refine Ex.seg hq 3 (j := 24) (L' := [.ref 35, .int x1, .int x2, .int r6]) (S' := [.int (3 : Int32), .int r6, .ref 35]) (h' := hpS s7) rfl ?_
        refine Ex.cl hq rfl rfl ?_
        refine Rn.mono (q_87 (d := d + 2) r6 (3 : Int32) s7 k) ?_
        rintro _ _ ⟨s9, rfl, rfl, k⟩
        show Ex sc (d + 4) 70 25 [.ref 35, .int x1, .int x2, .int r6] [] (hpS s9) _
        refine Ex.seg hq 2 (j := 5) (L' := [.ref 35, .int x1, .int (x2 + (1 : Int32)), .int r6]) (S' := []) (h' := hpS s9) rfl ?_
        refine Ex.fg (L := [.ref 35, .int x1, .int (x2 + (1 : Int32)), pu]) ⟨Or.inl rfl, ⟨Or.inl rfl, ⟨Or.inl rfl, ⟨Or.inr ⟨rfl, rfl⟩, trivial⟩⟩⟩⟩ ?_
        exact ih x1 (x2 + (1 : Int32)) s9 k hX27
/-- RowAuditor$Parser.part(I)V -/
def o_70 (R : Nat → Int32 → ST → (ST → Prop) → Prop) (p1 : Int32) (s : ST) (K : ST → Prop) : Prop := R 71 p1 s (fun s1 => (∃ m, w_70_L5 R m p1 (0 : Int32) s1 (fun s11 => K s11) K))
theorem x_70 {d : Nat} {K : ST → Prop} {R : Nat → Int32 → ST → (ST → Prop) → Prop} (hR : ∀ (t : Nat) (a0 : Int32) (s : ST) (K : ST → Prop), R t a0 s K → Rn sc (d + 3) t [.ref 35, .int a0] (hpS s) (kV K)) (p1 : Int32) (s : ST) (k : o_70 R p1 s K) : Rn sc (d + 4) 70 [.ref 35, .int p1] (hpS s) (kV K) := by
  have hq : prog[70]? = some pm70 := rfl
  refine Rn.of (L := [.ref 35, .int p1, pu, pu]) hq rfl rfl ?_
  unfold o_70 at k
  refine Ex.seg hq 2 (j := 2) (L' := [.ref 35, .int p1, pu, pu]) (S' := [.int p1, .ref 35]) (h' := hpS s) rfl ?_
  refine Ex.cl hq rfl rfl ?_
  refine Rn.mono (hR 71 p1 s _ k) ?_
  rintro _ _ ⟨s1, rfl, rfl, k⟩
  show Ex sc (d + 4) 70 3 [.ref 35, .int p1, pu, pu] [] (hpS s1) _
  refine Ex.seg hq 2 (j := 5) (L' := [.ref 35, .int p1, .int (0 : Int32), pu]) (S' := []) (h' := hpS s1) rfl ?_
  obtain ⟨m, k⟩ := k
  refine q_70_L5 hR (d := d) m p1 (0 : Int32) s1 k ?_
  · intro s11 k
    exact Ex.rt hq rfl rfl ⟨s11, rfl, rfl, k⟩
/-- RowAuditor$Parser.piece(I)V -/
def o_71 (R : Nat → Int32 → ST → (ST → Prop) → Prop) (p1 : Int32) (s : ST) (K : ST → Prop) : Prop := w_81 s (fun r2 s1 => ((¬ r2 = (33 : Int32) → ((¬ r2 = (40 : Int32) → R 73 p1 s1 (fun s3 => w_81 s3 (fun r6 s5 => w_72 r6 s5 (fun r8 s7 => R 73 p1 (sI s7 3504 ((s7.1 3504) + (1 : Int32))) (fun s9 => w_86 r8 (0 : Int32) s9 (fun r12 s11 => K s11)))))) ∧ (¬ (¬ r2 = (40 : Int32)) → w_80 p1 s1 (fun r14 s13 => ((r14 = 0 → K s13) ∧ (¬ (r14 = 0) → R 69 (p1 + (1 : Int32)) s13 (fun s15 => w_83 (41 : Int32) s15 (fun s17 => K s17)))))))) ∧ (¬ (¬ r2 = (33 : Int32)) → w_80 p1 s1 (fun r20 s19 => ((r20 = 0 → K s19) ∧ (¬ (r20 = 0) → R 71 (p1 + (1 : Int32)) s19 (fun s21 => w_86 (2 : Int32) (0 : Int32) s21 (fun r24 s23 => K s23))))))))
theorem x_71 {d : Nat} {K : ST → Prop} {R : Nat → Int32 → ST → (ST → Prop) → Prop} (hR : ∀ (t : Nat) (a0 : Int32) (s : ST) (K : ST → Prop), R t a0 s K → Rn sc (d + 3) t [.ref 35, .int a0] (hpS s) (kV K)) (p1 : Int32) (s : ST) (k : o_71 R p1 s K) : Rn sc (d + 4) 71 [.ref 35, .int p1] (hpS s) (kV K) := by
  have hq : prog[71]? = some pm71 := rfl
  refine Rn.of (L := [.ref 35, .int p1, pu, pu]) hq rfl rfl ?_
  unfold o_71 at k
  refine Ex.seg hq 1 (j := 1) (L' := [.ref 35, .int p1, pu, pu]) (S' := [.ref 35]) (h' := hpS s) rfl ?_
  refine Ex.cl hq rfl rfl ?_
  refine Rn.mono (q_81 (d := d + 3) s k) ?_
  rintro _ _ ⟨r2, s1, rfl, rfl, k⟩
  show Ex sc (d + 4) 71 2 [.ref 35, .int p1, pu, pu] [.int r2] (hpS s1) _
  refine Ex.seg hq 3 (j := 5) (L' := [.ref 35, .int p1, .int r2, pu]) (S' := [.int (33 : Int32), .int r2]) (h' := hpS s1) rfl ?_
  refine Ex.i2 hq rfl (fun c => ?_) (fun c => ?_)
  · have k := k.1 c
    refine Ex.seg hq 2 (j := 23) (L' := [.ref 35, .int p1, .int r2, pu]) (S' := [.int (40 : Int32), .int r2]) (h' := hpS s1) rfl ?_
    refine Ex.i2 hq rfl (fun c => ?_) (fun c => ?_)
    · have k := k.1 c
      refine Ex.seg hq 2 (j := 39) (L' := [.ref 35, .int p1, .int r2, pu]) (S' := [.int p1, .ref 35]) (h' := hpS s1) rfl ?_
      refine Ex.cl hq rfl rfl ?_
      refine Rn.mono (hR 73 p1 s1 _ k) ?_
      rintro _ _ ⟨s3, rfl, rfl, k⟩
      show Ex sc (d + 4) 71 40 [.ref 35, .int p1, .int r2, pu] [] (hpS s3) _
      refine Ex.seg hq 2 (j := 42) (L' := [.ref 35, .int p1, .int r2, pu]) (S' := [.ref 35, .ref 35]) (h' := hpS s3) rfl ?_
      refine Ex.cl hq rfl rfl ?_
      refine Rn.mono (q_81 (d := d + 3) s3 k) ?_
      rintro _ _ ⟨r6, s5, rfl, rfl, k⟩
      show Ex sc (d + 4) 71 43 [.ref 35, .int p1, .int r2, pu] [.int r6, .ref 35] (hpS s5) _
      refine Ex.cl hq rfl rfl ?_
      refine Rn.mono (q_72 (d := d + 2) r6 s5 k) ?_
      rintro _ _ ⟨r8, s7, rfl, rfl, k⟩
      show Ex sc (d + 4) 71 44 [.ref 35, .int p1, .int r2, pu] [.int r8] (hpS s7) _
      refine Ex.seg hq 9 (j := 53) (L' := [.ref 35, .int p1, .int r2, .int r8]) (S' := [.int p1, .ref 35]) (h' := hpS (sI s7 3504 ((s7.1 3504) + (1 : Int32)))) rfl ?_
      refine Ex.cl hq rfl rfl ?_
      refine Rn.mono (hR 73 p1 (sI s7 3504 ((s7.1 3504) + (1 : Int32))) _ k) ?_
      rintro _ _ ⟨s9, rfl, rfl, k⟩
      show Ex sc (d + 4) 71 54 [.ref 35, .int p1, .int r2, .int r8] [] (hpS s9) _
      refine Ex.seg hq 3 (j := 57) (L' := [.ref 35, .int p1, .int r2, .int r8]) (S' := [.int (0 : Int32), .int r8, .ref 35]) (h' := hpS s9) rfl ?_
      refine Ex.cl hq rfl rfl ?_
      refine Rn.mono (q_86 (d := d + 3) r8 (0 : Int32) s9 k) ?_
      rintro _ _ ⟨r12, s11, rfl, rfl, k⟩
      show Ex sc (d + 4) 71 58 [.ref 35, .int p1, .int r2, .int r8] [.int r12] (hpS s11) _
      refine Ex.seg hq 1 (j := 59) (L' := [.ref 35, .int p1, .int r2, .int r8]) (S' := []) (h' := hpS s11) rfl ?_
      exact Ex.rt hq rfl rfl ⟨s11, rfl, rfl, k⟩
    · have k := k.2 c
      refine Ex.seg hq 2 (j := 26) (L' := [.ref 35, .int p1, .int r2, pu]) (S' := [.int p1, .ref 35]) (h' := hpS s1) rfl ?_
      refine Ex.cl hq rfl rfl ?_
      refine Rn.mono (q_80 (d := d + 2) p1 s1 k) ?_
      rintro _ _ ⟨r14, s13, rfl, hzr14, rfl, k⟩
      show Ex sc (d + 4) 71 27 [.ref 35, .int p1, .int r2, pu] [.int r14] (hpS s13) _
      refine Ex.i1 hq rfl (fun c => ?_) (fun c => ?_)
      · have k := k.1 c
        exact Ex.rt hq rfl rfl ⟨s13, rfl, rfl, k⟩
      · have k := k.2 c
        refine Ex.seg hq 4 (j := 32) (L' := [.ref 35, .int p1, .int r2, pu]) (S' := [.int (p1 + (1 : Int32)), .ref 35]) (h' := hpS s13) rfl ?_
        refine Ex.cl hq rfl rfl ?_
        refine Rn.mono (hR 69 (p1 + (1 : Int32)) s13 _ k) ?_
        rintro _ _ ⟨s15, rfl, rfl, k⟩
        show Ex sc (d + 4) 71 33 [.ref 35, .int p1, .int r2, pu] [] (hpS s15) _
        refine Ex.seg hq 2 (j := 35) (L' := [.ref 35, .int p1, .int r2, pu]) (S' := [.int (41 : Int32), .ref 35]) (h' := hpS s15) rfl ?_
        refine Ex.cl hq rfl rfl ?_
        refine Rn.mono (q_83 (d := d + 2) (41 : Int32) s15 k) ?_
        rintro _ _ ⟨s17, rfl, rfl, k⟩
        show Ex sc (d + 4) 71 36 [.ref 35, .int p1, .int r2, pu] [] (hpS s17) _
        refine Ex.seg hq 1 (j := 59) (L' := [.ref 35, .int p1, .int r2, pu]) (S' := []) (h' := hpS s17) rfl ?_
        exact Ex.rt hq rfl rfl ⟨s17, rfl, rfl, k⟩
  · have k := k.2 c
    refine Ex.seg hq 2 (j := 8) (L' := [.ref 35, .int p1, .int r2, pu]) (S' := [.int p1, .ref 35]) (h' := hpS s1) rfl ?_
    refine Ex.cl hq rfl rfl ?_
    refine Rn.mono (q_80 (d := d + 2) p1 s1 k) ?_
    rintro _ _ ⟨r20, s19, rfl, hzr20, rfl, k⟩
    show Ex sc (d + 4) 71 9 [.ref 35, .int p1, .int r2, pu] [.int r20] (hpS s19) _
    refine Ex.i1 hq rfl (fun c => ?_) (fun c => ?_)
    · have k := k.1 c
      exact Ex.rt hq rfl rfl ⟨s19, rfl, rfl, k⟩
    · have k := k.2 c
      refine Ex.seg hq 4 (j := 14) (L' := [.ref 35, .int p1, .int r2, pu]) (S' := [.int (p1 + (1 : Int32)), .ref 35]) (h' := hpS s19) rfl ?_
      refine Ex.cl hq rfl rfl ?_
      refine Rn.mono (hR 71 (p1 + (1 : Int32)) s19 _ k) ?_
      rintro _ _ ⟨s21, rfl, rfl, k⟩
      show Ex sc (d + 4) 71 15 [.ref 35, .int p1, .int r2, pu] [] (hpS s21) _
      refine Ex.seg hq 3 (j := 18) (L' := [.ref 35, .int p1, .int r2, pu]) (S' := [.int (0 : Int32), .int (2 : Int32), .ref 35]) (h' := hpS s21) rfl ?_
      refine Ex.cl hq rfl rfl ?_
      refine Rn.mono (q_86 (d := d + 3) (2 : Int32) (0 : Int32) s21 k) ?_
      rintro _ _ ⟨r24, s23, rfl, rfl, k⟩
      show Ex sc (d + 4) 71 19 [.ref 35, .int p1, .int r2, pu] [.int r24] (hpS s23) _
      refine Ex.seg hq 2 (j := 59) (L' := [.ref 35, .int p1, .int r2, pu]) (S' := []) (h' := hpS s23) rfl ?_
      exact Ex.rt hq rfl rfl ⟨s23, rfl, rfl, k⟩
def w_73_L5 (R : Nat → Int32 → ST → (ST → Prop) → Prop) : Nat → Int32 → Int32 → ST → (ST → Prop) → (ST → Prop) → Prop
  | 0, _, _, _, _, _ => False
  | n + 1, x1, x2, s, X41, K => (((s.1 3502) ≤ x2 → X41  s) ∧ (¬ ((s.1 3502) ≤ x2) → w_81 s (fun r4 s3 => ((r4 = (43 : Int32) → w_81 s3 (fun r6 s5 => ((¬ r6 = (43 : Int32) → R 74 x1 (sI s5 3504 ((s5.1 3504) + (1 : Int32))) (fun s7 => w_86 (6 : Int32) (0 : Int32) s7 (fun r10 s9 => w_73_L5 R n x1 (x2 + (1 : Int32)) s9 X41 K))) ∧ (¬ (¬ r6 = (43 : Int32)) → R 74 x1 (sI s5 3504 ((s5.1 3504) + (1 : Int32))) (fun s11 => w_86 (5 : Int32) (0 : Int32) s11 (fun r14 s13 => w_73_L5 R n x1 (x2 + (1 : Int32)) s13 X41 K)))))) ∧ (¬ (r4 = (43 : Int32)) → w_81 s3 (fun r16 s15 => ((¬ r16 = (45 : Int32) → X41  s15) ∧ (¬ (¬ r16 = (45 : Int32)) → w_81 s15 (fun r18 s17 => ((¬ r18 = (43 : Int32) → R 74 x1 (sI s17 3504 ((s17.1 3504) + (1 : Int32))) (fun s19 => w_86 (6 : Int32) (0 : Int32) s19 (fun r22 s21 => w_73_L5 R n x1 (x2 + (1 : Int32)) s21 X41 K))) ∧ (¬ (¬ r18 = (43 : Int32)) → R 74 x1 (sI s17 3504 ((s17.1 3504) + (1 : Int32))) (fun s23 => w_86 (5 : Int32) (0 : Int32) s23 (fun r26 s25 => w_73_L5 R n x1 (x2 + (1 : Int32)) s25 X41 K)))))))))))))
theorem q_73_L5 {d : Nat} {R : Nat → Int32 → ST → (ST → Prop) → Prop} (hR : ∀ (t : Nat) (a0 : Int32) (s : ST) (K : ST → Prop), R t a0 s K → Rn sc (d + 3) t [.ref 35, .int a0] (hpS s) (kV K)) {X41 : ST → Prop} {K : ST → Prop} : ∀ (n : Nat) (x1 : Int32) (x2 : Int32) (s : ST), w_73_L5 R n x1 x2 s X41 K → (∀ (s : ST), X41  s → Ex sc (d + 4) 73 41 [pu, pu, pu, pu] [] (hpS s) (kV K)) → Ex sc (d + 4) 73 5 [.ref 35, .int x1, .int x2, pu] [] (hpS s) (kV K) := by
  have hq : prog[73]? = some pm73 := rfl
  intro n
  induction n with
  | zero =>
    intro x1 x2 s k
    exact k.elim
  | succ n ih =>
    intro x1 x2 s k hX41
    rw [w_73_L5] at k
    refine Ex.seg hq 3 (j := 8) (L' := [.ref 35, .int x1, .int x2, pu]) (S' := [.int (s.1 3502), .int x2]) (h' := hpS s) rfl ?_
    refine Ex.i2 hq rfl (fun c => ?_) (fun c => ?_)
    · have k := k.1 c
      refine Ex.fg (L := [pu, pu, pu, pu]) ⟨Or.inr ⟨rfl, rfl⟩, ⟨Or.inr ⟨rfl, rfl⟩, ⟨Or.inr ⟨rfl, rfl⟩, ⟨Or.inl rfl, trivial⟩⟩⟩⟩ ?_
      exact hX41  s k
    · have k := k.2 c
      refine Ex.seg hq 1 (j := 10) (L' := [.ref 35, .int x1, .int x2, pu]) (S' := [.ref 35]) (h' := hpS s) rfl ?_
      refine Ex.cl hq rfl rfl ?_
      refine Rn.mono (q_81 (d := d + 3) s k) ?_
      rintro _ _ ⟨r4, s3, rfl, rfl, k⟩
      show Ex sc (d + 4) 73 11 [.ref 35, .int x1, .int x2, pu] [.int r4] (hpS s3) _
      refine Ex.seg hq 1 (j := 12) (L' := [.ref 35, .int x1, .int x2, pu]) (S' := [.int (43 : Int32), .int r4]) (h' := hpS s3) rfl ?_
      refine Ex.i2 hq rfl (fun c => ?_) (fun c => ?_)
      · have k := k.1 c
        refine Ex.seg hq 1 (j := 18) (L' := [.ref 35, .int x1, .int x2, pu]) (S' := [.ref 35]) (h' := hpS s3) rfl ?_
        refine Ex.cl hq rfl rfl ?_
        refine Rn.mono (q_81 (d := d + 3) s3 k) ?_
        rintro _ _ ⟨r6, s5, rfl, rfl, k⟩
        show Ex sc (d + 4) 73 19 [.ref 35, .int x1, .int x2, pu] [.int r6] (hpS s5) _
        refine Ex.seg hq 1 (j := 20) (L' := [.ref 35, .int x1, .int x2, pu]) (S' := [.int (43 : Int32), .int r6]) (h' := hpS s5) rfl ?_
        refine Ex.i2 hq rfl (fun c => ?_) (fun c => ?_)
        · have k := k.1 c
          refine Ex.seg hq 10 (j := 33) (L' := [.ref 35, .int x1, .int x2, .int (6 : Int32)]) (S' := [.int x1, .ref 35]) (h' := hpS (sI s5 3504 ((s5.1 3504) + (1 : Int32)))) rfl ?_
          refine Ex.cl hq rfl rfl ?_
          refine Rn.mono (hR 74 x1 (sI s5 3504 ((s5.1 3504) + (1 : Int32))) _ k) ?_
          rintro _ _ ⟨s7, rfl, rfl, k⟩
          show Ex sc (d + 4) 73 34 [.ref 35, .int x1, .int x2, .int (6 : Int32)] [] (hpS s7) _
          refine Ex.seg hq 3 (j := 37) (L' := [.ref 35, .int x1, .int x2, .int (6 : Int32)]) (S' := [.int (0 : Int32), .int (6 : Int32), .ref 35]) (h' := hpS s7) rfl ?_
          refine Ex.cl hq rfl rfl ?_
          refine Rn.mono (q_86 (d := d + 3) (6 : Int32) (0 : Int32) s7 k) ?_
          rintro _ _ ⟨r10, s9, rfl, rfl, k⟩
          show Ex sc (d + 4) 73 38 [.ref 35, .int x1, .int x2, .int (6 : Int32)] [.int r10] (hpS s9) _
          refine Ex.seg hq 3 (j := 5) (L' := [.ref 35, .int x1, .int (x2 + (1 : Int32)), .int (6 : Int32)]) (S' := []) (h' := hpS s9) rfl ?_
          refine Ex.fg (L := [.ref 35, .int x1, .int (x2 + (1 : Int32)), pu]) ⟨Or.inl rfl, ⟨Or.inl rfl, ⟨Or.inl rfl, ⟨Or.inr ⟨rfl, rfl⟩, trivial⟩⟩⟩⟩ ?_
          exact ih x1 (x2 + (1 : Int32)) s9 k hX41
        · have k := k.2 c
          refine Ex.seg hq 11 (j := 33) (L' := [.ref 35, .int x1, .int x2, .int (5 : Int32)]) (S' := [.int x1, .ref 35]) (h' := hpS (sI s5 3504 ((s5.1 3504) + (1 : Int32)))) rfl ?_
          refine Ex.cl hq rfl rfl ?_
          refine Rn.mono (hR 74 x1 (sI s5 3504 ((s5.1 3504) + (1 : Int32))) _ k) ?_
          rintro _ _ ⟨s11, rfl, rfl, k⟩
          show Ex sc (d + 4) 73 34 [.ref 35, .int x1, .int x2, .int (5 : Int32)] [] (hpS s11) _
          refine Ex.seg hq 3 (j := 37) (L' := [.ref 35, .int x1, .int x2, .int (5 : Int32)]) (S' := [.int (0 : Int32), .int (5 : Int32), .ref 35]) (h' := hpS s11) rfl ?_
          refine Ex.cl hq rfl rfl ?_
          refine Rn.mono (q_86 (d := d + 3) (5 : Int32) (0 : Int32) s11 k) ?_
          rintro _ _ ⟨r14, s13, rfl, rfl, k⟩
          show Ex sc (d + 4) 73 38 [.ref 35, .int x1, .int x2, .int (5 : Int32)] [.int r14] (hpS s13) _
          refine Ex.seg hq 3 (j := 5) (L' := [.ref 35, .int x1, .int (x2 + (1 : Int32)), .int (5 : Int32)]) (S' := []) (h' := hpS s13) rfl ?_
          refine Ex.fg (L := [.ref 35, .int x1, .int (x2 + (1 : Int32)), pu]) ⟨Or.inl rfl, ⟨Or.inl rfl, ⟨Or.inl rfl, ⟨Or.inr ⟨rfl, rfl⟩, trivial⟩⟩⟩⟩ ?_
          exact ih x1 (x2 + (1 : Int32)) s13 k hX41
      · have k := k.2 c
        refine Ex.seg hq 1 (j := 14) (L' := [.ref 35, .int x1, .int x2, pu]) (S' := [.ref 35]) (h' := hpS s3) rfl ?_
        refine Ex.cl hq rfl rfl ?_
        refine Rn.mono (q_81 (d := d + 3) s3 k) ?_
        rintro _ _ ⟨r16, s15, rfl, rfl, k⟩
        show Ex sc (d + 4) 73 15 [.ref 35, .int x1, .int x2, pu] [.int r16] (hpS s15) _
        refine Ex.seg hq 1 (j := 16) (L' := [.ref 35, .int x1, .int x2, pu]) (S' := [.int (45 : Int32), .int r16]) (h' := hpS s15) rfl ?_
        refine Ex.i2 hq rfl (fun c => ?_) (fun c => ?_)
        · have k := k.1 c
          refine Ex.fg (L := [pu, pu, pu, pu]) ⟨Or.inr ⟨rfl, rfl⟩, ⟨Or.inr ⟨rfl, rfl⟩, ⟨Or.inr ⟨rfl, rfl⟩, ⟨Or.inl rfl, trivial⟩⟩⟩⟩ ?_
          exact hX41  s15 k
        · have k := k.2 c
          refine Ex.seg hq 1 (j := 18) (L' := [.ref 35, .int x1, .int x2, pu]) (S' := [.ref 35]) (h' := hpS s15) rfl ?_
          refine Ex.cl hq rfl rfl ?_
          refine Rn.mono (q_81 (d := d + 3) s15 k) ?_
          rintro _ _ ⟨r18, s17, rfl, rfl, k⟩
          show Ex sc (d + 4) 73 19 [.ref 35, .int x1, .int x2, pu] [.int r18] (hpS s17) _
          refine Ex.seg hq 1 (j := 20) (L' := [.ref 35, .int x1, .int x2, pu]) (S' := [.int (43 : Int32), .int r18]) (h' := hpS s17) rfl ?_
          refine Ex.i2 hq rfl (fun c => ?_) (fun c => ?_)
          · have k := k.1 c
            refine Ex.seg hq 10 (j := 33) (L' := [.ref 35, .int x1, .int x2, .int (6 : Int32)]) (S' := [.int x1, .ref 35]) (h' := hpS (sI s17 3504 ((s17.1 3504) + (1 : Int32)))) rfl ?_
            refine Ex.cl hq rfl rfl ?_
            refine Rn.mono (hR 74 x1 (sI s17 3504 ((s17.1 3504) + (1 : Int32))) _ k) ?_
            rintro _ _ ⟨s19, rfl, rfl, k⟩
            show Ex sc (d + 4) 73 34 [.ref 35, .int x1, .int x2, .int (6 : Int32)] [] (hpS s19) _
            refine Ex.seg hq 3 (j := 37) (L' := [.ref 35, .int x1, .int x2, .int (6 : Int32)]) (S' := [.int (0 : Int32), .int (6 : Int32), .ref 35]) (h' := hpS s19) rfl ?_
            refine Ex.cl hq rfl rfl ?_
            refine Rn.mono (q_86 (d := d + 3) (6 : Int32) (0 : Int32) s19 k) ?_
            rintro _ _ ⟨r22, s21, rfl, rfl, k⟩
            show Ex sc (d + 4) 73 38 [.ref 35, .int x1, .int x2, .int (6 : Int32)] [.int r22] (hpS s21) _
            refine Ex.seg hq 3 (j := 5) (L' := [.ref 35, .int x1, .int (x2 + (1 : Int32)), .int (6 : Int32)]) (S' := []) (h' := hpS s21) rfl ?_
            refine Ex.fg (L := [.ref 35, .int x1, .int (x2 + (1 : Int32)), pu]) ⟨Or.inl rfl, ⟨Or.inl rfl, ⟨Or.inl rfl, ⟨Or.inr ⟨rfl, rfl⟩, trivial⟩⟩⟩⟩ ?_
            exact ih x1 (x2 + (1 : Int32)) s21 k hX41
          · have k := k.2 c
            refine Ex.seg hq 11 (j := 33) (L' := [.ref 35, .int x1, .int x2, .int (5 : Int32)]) (S' := [.int x1, .ref 35]) (h' := hpS (sI s17 3504 ((s17.1 3504) + (1 : Int32)))) rfl ?_
            refine Ex.cl hq rfl rfl ?_
            refine Rn.mono (hR 74 x1 (sI s17 3504 ((s17.1 3504) + (1 : Int32))) _ k) ?_
            rintro _ _ ⟨s23, rfl, rfl, k⟩
            show Ex sc (d + 4) 73 34 [.ref 35, .int x1, .int x2, .int (5 : Int32)] [] (hpS s23) _
            refine Ex.seg hq 3 (j := 37) (L' := [.ref 35, .int x1, .int x2, .int (5 : Int32)]) (S' := [.int (0 : Int32), .int (5 : Int32), .ref 35]) (h' := hpS s23) rfl ?_
            refine Ex.cl hq rfl rfl ?_
            refine Rn.mono (q_86 (d := d + 3) (5 : Int32) (0 : Int32) s23 k) ?_
            rintro _ _ ⟨r26, s25, rfl, rfl, k⟩
            show Ex sc (d + 4) 73 38 [.ref 35, .int x1, .int x2, .int (5 : Int32)] [.int r26] (hpS s25) _
            refine Ex.seg hq 3 (j := 5) (L' := [.ref 35, .int x1, .int (x2 + (1 : Int32)), .int (5 : Int32)]) (S' := []) (h' := hpS s25) rfl ?_
            refine Ex.fg (L := [.ref 35, .int x1, .int (x2 + (1 : Int32)), pu]) ⟨Or.inl rfl, ⟨Or.inl rfl, ⟨Or.inl rfl, ⟨Or.inr ⟨rfl, rfl⟩, trivial⟩⟩⟩⟩ ?_
            exact ih x1 (x2 + (1 : Int32)) s25 k hX41
/-- RowAuditor$Parser.sum(I)V -/
def o_73 (R : Nat → Int32 → ST → (ST → Prop) → Prop) (p1 : Int32) (s : ST) (K : ST → Prop) : Prop := R 74 p1 s (fun s1 => (∃ m, w_73_L5 R m p1 (0 : Int32) s1 (fun s27 => K s27) K))
theorem x_73 {d : Nat} {K : ST → Prop} {R : Nat → Int32 → ST → (ST → Prop) → Prop} (hR : ∀ (t : Nat) (a0 : Int32) (s : ST) (K : ST → Prop), R t a0 s K → Rn sc (d + 3) t [.ref 35, .int a0] (hpS s) (kV K)) (p1 : Int32) (s : ST) (k : o_73 R p1 s K) : Rn sc (d + 4) 73 [.ref 35, .int p1] (hpS s) (kV K) := by
  have hq : prog[73]? = some pm73 := rfl
  refine Rn.of (L := [.ref 35, .int p1, pu, pu]) hq rfl rfl ?_
  unfold o_73 at k
  refine Ex.seg hq 2 (j := 2) (L' := [.ref 35, .int p1, pu, pu]) (S' := [.int p1, .ref 35]) (h' := hpS s) rfl ?_
  refine Ex.cl hq rfl rfl ?_
  refine Rn.mono (hR 74 p1 s _ k) ?_
  rintro _ _ ⟨s1, rfl, rfl, k⟩
  show Ex sc (d + 4) 73 3 [.ref 35, .int p1, pu, pu] [] (hpS s1) _
  refine Ex.seg hq 2 (j := 5) (L' := [.ref 35, .int p1, .int (0 : Int32), pu]) (S' := []) (h' := hpS s1) rfl ?_
  obtain ⟨m, k⟩ := k
  refine q_73_L5 hR (d := d) m p1 (0 : Int32) s1 k ?_
  · intro s27 k
    exact Ex.rt hq rfl rfl ⟨s27, rfl, rfl, k⟩
def w_74_L5 (R : Nat → Int32 → ST → (ST → Prop) → Prop) : Nat → Int32 → Int32 → ST → (ST → Prop) → (ST → Prop) → Prop
  | 0, _, _, _, _, _ => False
  | n + 1, x1, x2, s, X43, K => (((s.1 3502) ≤ x2 → X43  s) ∧ (¬ ((s.1 3502) ≤ x2) → w_81 s (fun r4 s3 => w_75 r4 s3 (fun r6 s5 => ((r6 = 0 → X43  s5) ∧ (¬ (r6 = 0) → w_81 s5 (fun r8 s7 => ((¬ r8 = (42 : Int32) → w_81 s7 (fun r10 s9 => ((¬ r10 = (47 : Int32) → R 76 x1 (sI s9 3504 ((s9.1 3504) + (1 : Int32))) (fun s11 => w_86 (9 : Int32) (0 : Int32) s11 (fun r14 s13 => w_74_L5 R n x1 (x2 + (1 : Int32)) s13 X43 K))) ∧ (¬ (¬ r10 = (47 : Int32)) → R 76 x1 (sI s9 3504 ((s9.1 3504) + (1 : Int32))) (fun s15 => w_86 (8 : Int32) (0 : Int32) s15 (fun r18 s17 => w_74_L5 R n x1 (x2 + (1 : Int32)) s17 X43 K)))))) ∧ (¬ (¬ r8 = (42 : Int32)) → R 76 x1 (sI s7 3504 ((s7.1 3504) + (1 : Int32))) (fun s19 => w_86 (7 : Int32) (0 : Int32) s19 (fun r22 s21 => w_74_L5 R n x1 (x2 + (1 : Int32)) s21 X43 K)))))))))))
theorem q_74_L5 {d : Nat} {R : Nat → Int32 → ST → (ST → Prop) → Prop} (hR : ∀ (t : Nat) (a0 : Int32) (s : ST) (K : ST → Prop), R t a0 s K → Rn sc (d + 3) t [.ref 35, .int a0] (hpS s) (kV K)) {X43 : ST → Prop} {K : ST → Prop} : ∀ (n : Nat) (x1 : Int32) (x2 : Int32) (s : ST), w_74_L5 R n x1 x2 s X43 K → (∀ (s : ST), X43  s → Ex sc (d + 4) 74 43 [pu, pu, pu, pu] [] (hpS s) (kV K)) → Ex sc (d + 4) 74 5 [.ref 35, .int x1, .int x2, pu] [] (hpS s) (kV K) := by
  have hq : prog[74]? = some pm74 := rfl
  intro n
  induction n with
  | zero =>
    intro x1 x2 s k
    exact k.elim
  | succ n ih =>
    intro x1 x2 s k hX43
    rw [w_74_L5] at k
    refine Ex.seg hq 3 (j := 8) (L' := [.ref 35, .int x1, .int x2, pu]) (S' := [.int (s.1 3502), .int x2]) (h' := hpS s) rfl ?_
    refine Ex.i2 hq rfl (fun c => ?_) (fun c => ?_)
    · have k := k.1 c
      refine Ex.fg (L := [pu, pu, pu, pu]) ⟨Or.inr ⟨rfl, rfl⟩, ⟨Or.inr ⟨rfl, rfl⟩, ⟨Or.inr ⟨rfl, rfl⟩, ⟨Or.inl rfl, trivial⟩⟩⟩⟩ ?_
      exact hX43  s k
    · have k := k.2 c
      refine Ex.seg hq 1 (j := 10) (L' := [.ref 35, .int x1, .int x2, pu]) (S' := [.ref 35]) (h' := hpS s) rfl ?_
      refine Ex.cl hq rfl rfl ?_
      refine Rn.mono (q_81 (d := d + 3) s k) ?_
      rintro _ _ ⟨r4, s3, rfl, rfl, k⟩
      show Ex sc (d + 4) 74 11 [.ref 35, .int x1, .int x2, pu] [.int r4] (hpS s3) _
      refine Ex.cl hq rfl rfl ?_
      refine Rn.mono (q_75 (d := d + 3) r4 s3 k) ?_
      rintro _ _ ⟨r6, s5, rfl, hzr6, rfl, k⟩
      show Ex sc (d + 4) 74 12 [.ref 35, .int x1, .int x2, pu] [.int r6] (hpS s5) _
      refine Ex.i1 hq rfl (fun c => ?_) (fun c => ?_)
      · have k := k.1 c
        refine Ex.fg (L := [pu, pu, pu, pu]) ⟨Or.inr ⟨rfl, rfl⟩, ⟨Or.inr ⟨rfl, rfl⟩, ⟨Or.inr ⟨rfl, rfl⟩, ⟨Or.inl rfl, trivial⟩⟩⟩⟩ ?_
        exact hX43  s5 k
      · have k := k.2 c
        refine Ex.seg hq 1 (j := 14) (L' := [.ref 35, .int x1, .int x2, pu]) (S' := [.ref 35]) (h' := hpS s5) rfl ?_
        refine Ex.cl hq rfl rfl ?_
        refine Rn.mono (q_81 (d := d + 3) s5 k) ?_
        rintro _ _ ⟨r8, s7, rfl, rfl, k⟩
        show Ex sc (d + 4) 74 15 [.ref 35, .int x1, .int x2, pu] [.int r8] (hpS s7) _
        refine Ex.seg hq 1 (j := 16) (L' := [.ref 35, .int x1, .int x2, pu]) (S' := [.int (42 : Int32), .int r8]) (h' := hpS s7) rfl ?_
        refine Ex.i2 hq rfl (fun c => ?_) (fun c => ?_)
        · have k := k.1 c
          refine Ex.seg hq 1 (j := 20) (L' := [.ref 35, .int x1, .int x2, pu]) (S' := [.ref 35]) (h' := hpS s7) rfl ?_
          refine Ex.cl hq rfl rfl ?_
          refine Rn.mono (q_81 (d := d + 3) s7 k) ?_
          rintro _ _ ⟨r10, s9, rfl, rfl, k⟩
          show Ex sc (d + 4) 74 21 [.ref 35, .int x1, .int x2, pu] [.int r10] (hpS s9) _
          refine Ex.seg hq 1 (j := 22) (L' := [.ref 35, .int x1, .int x2, pu]) (S' := [.int (47 : Int32), .int r10]) (h' := hpS s9) rfl ?_
          refine Ex.i2 hq rfl (fun c => ?_) (fun c => ?_)
          · have k := k.1 c
            refine Ex.seg hq 10 (j := 35) (L' := [.ref 35, .int x1, .int x2, .int (9 : Int32)]) (S' := [.int x1, .ref 35]) (h' := hpS (sI s9 3504 ((s9.1 3504) + (1 : Int32)))) rfl ?_
            refine Ex.cl hq rfl rfl ?_
            refine Rn.mono (hR 76 x1 (sI s9 3504 ((s9.1 3504) + (1 : Int32))) _ k) ?_
            rintro _ _ ⟨s11, rfl, rfl, k⟩
            show Ex sc (d + 4) 74 36 [.ref 35, .int x1, .int x2, .int (9 : Int32)] [] (hpS s11) _
            refine Ex.seg hq 3 (j := 39) (L' := [.ref 35, .int x1, .int x2, .int (9 : Int32)]) (S' := [.int (0 : Int32), .int (9 : Int32), .ref 35]) (h' := hpS s11) rfl ?_
            refine Ex.cl hq rfl rfl ?_
            refine Rn.mono (q_86 (d := d + 3) (9 : Int32) (0 : Int32) s11 k) ?_
            rintro _ _ ⟨r14, s13, rfl, rfl, k⟩
            show Ex sc (d + 4) 74 40 [.ref 35, .int x1, .int x2, .int (9 : Int32)] [.int r14] (hpS s13) _
            refine Ex.seg hq 3 (j := 5) (L' := [.ref 35, .int x1, .int (x2 + (1 : Int32)), .int (9 : Int32)]) (S' := []) (h' := hpS s13) rfl ?_
            refine Ex.fg (L := [.ref 35, .int x1, .int (x2 + (1 : Int32)), pu]) ⟨Or.inl rfl, ⟨Or.inl rfl, ⟨Or.inl rfl, ⟨Or.inr ⟨rfl, rfl⟩, trivial⟩⟩⟩⟩ ?_
            exact ih x1 (x2 + (1 : Int32)) s13 k hX43
          · have k := k.2 c
            refine Ex.seg hq 11 (j := 35) (L' := [.ref 35, .int x1, .int x2, .int (8 : Int32)]) (S' := [.int x1, .ref 35]) (h' := hpS (sI s9 3504 ((s9.1 3504) + (1 : Int32)))) rfl ?_
            refine Ex.cl hq rfl rfl ?_
            refine Rn.mono (hR 76 x1 (sI s9 3504 ((s9.1 3504) + (1 : Int32))) _ k) ?_
            rintro _ _ ⟨s15, rfl, rfl, k⟩
            show Ex sc (d + 4) 74 36 [.ref 35, .int x1, .int x2, .int (8 : Int32)] [] (hpS s15) _
            refine Ex.seg hq 3 (j := 39) (L' := [.ref 35, .int x1, .int x2, .int (8 : Int32)]) (S' := [.int (0 : Int32), .int (8 : Int32), .ref 35]) (h' := hpS s15) rfl ?_
            refine Ex.cl hq rfl rfl ?_
            refine Rn.mono (q_86 (d := d + 3) (8 : Int32) (0 : Int32) s15 k) ?_
            rintro _ _ ⟨r18, s17, rfl, rfl, k⟩
            show Ex sc (d + 4) 74 40 [.ref 35, .int x1, .int x2, .int (8 : Int32)] [.int r18] (hpS s17) _
            refine Ex.seg hq 3 (j := 5) (L' := [.ref 35, .int x1, .int (x2 + (1 : Int32)), .int (8 : Int32)]) (S' := []) (h' := hpS s17) rfl ?_
            refine Ex.fg (L := [.ref 35, .int x1, .int (x2 + (1 : Int32)), pu]) ⟨Or.inl rfl, ⟨Or.inl rfl, ⟨Or.inl rfl, ⟨Or.inr ⟨rfl, rfl⟩, trivial⟩⟩⟩⟩ ?_
            exact ih x1 (x2 + (1 : Int32)) s17 k hX43
        · have k := k.2 c
          refine Ex.seg hq 11 (j := 35) (L' := [.ref 35, .int x1, .int x2, .int (7 : Int32)]) (S' := [.int x1, .ref 35]) (h' := hpS (sI s7 3504 ((s7.1 3504) + (1 : Int32)))) rfl ?_
          refine Ex.cl hq rfl rfl ?_
          refine Rn.mono (hR 76 x1 (sI s7 3504 ((s7.1 3504) + (1 : Int32))) _ k) ?_
          rintro _ _ ⟨s19, rfl, rfl, k⟩
          show Ex sc (d + 4) 74 36 [.ref 35, .int x1, .int x2, .int (7 : Int32)] [] (hpS s19) _
          refine Ex.seg hq 3 (j := 39) (L' := [.ref 35, .int x1, .int x2, .int (7 : Int32)]) (S' := [.int (0 : Int32), .int (7 : Int32), .ref 35]) (h' := hpS s19) rfl ?_
          refine Ex.cl hq rfl rfl ?_
          refine Rn.mono (q_86 (d := d + 3) (7 : Int32) (0 : Int32) s19 k) ?_
          rintro _ _ ⟨r22, s21, rfl, rfl, k⟩
          show Ex sc (d + 4) 74 40 [.ref 35, .int x1, .int x2, .int (7 : Int32)] [.int r22] (hpS s21) _
          refine Ex.seg hq 3 (j := 5) (L' := [.ref 35, .int x1, .int (x2 + (1 : Int32)), .int (7 : Int32)]) (S' := []) (h' := hpS s21) rfl ?_
          refine Ex.fg (L := [.ref 35, .int x1, .int (x2 + (1 : Int32)), pu]) ⟨Or.inl rfl, ⟨Or.inl rfl, ⟨Or.inl rfl, ⟨Or.inr ⟨rfl, rfl⟩, trivial⟩⟩⟩⟩ ?_
          exact ih x1 (x2 + (1 : Int32)) s21 k hX43
/-- RowAuditor$Parser.term(I)V -/
def o_74 (R : Nat → Int32 → ST → (ST → Prop) → Prop) (p1 : Int32) (s : ST) (K : ST → Prop) : Prop := R 76 p1 s (fun s1 => (∃ m, w_74_L5 R m p1 (0 : Int32) s1 (fun s23 => K s23) K))
theorem x_74 {d : Nat} {K : ST → Prop} {R : Nat → Int32 → ST → (ST → Prop) → Prop} (hR : ∀ (t : Nat) (a0 : Int32) (s : ST) (K : ST → Prop), R t a0 s K → Rn sc (d + 3) t [.ref 35, .int a0] (hpS s) (kV K)) (p1 : Int32) (s : ST) (k : o_74 R p1 s K) : Rn sc (d + 4) 74 [.ref 35, .int p1] (hpS s) (kV K) := by
  have hq : prog[74]? = some pm74 := rfl
  refine Rn.of (L := [.ref 35, .int p1, pu, pu]) hq rfl rfl ?_
  unfold o_74 at k
  refine Ex.seg hq 2 (j := 2) (L' := [.ref 35, .int p1, pu, pu]) (S' := [.int p1, .ref 35]) (h' := hpS s) rfl ?_
  refine Ex.cl hq rfl rfl ?_
  refine Rn.mono (hR 76 p1 s _ k) ?_
  rintro _ _ ⟨s1, rfl, rfl, k⟩
  show Ex sc (d + 4) 74 3 [.ref 35, .int p1, pu, pu] [] (hpS s1) _
  refine Ex.seg hq 2 (j := 5) (L' := [.ref 35, .int p1, .int (0 : Int32), pu]) (S' := []) (h' := hpS s1) rfl ?_
  obtain ⟨m, k⟩ := k
  refine q_74_L5 hR (d := d) m p1 (0 : Int32) s1 k ?_
  · intro s23 k
    exact Ex.rt hq rfl rfl ⟨s23, rfl, rfl, k⟩
/-- RowAuditor$Parser.factor(I)V -/
def o_76 (R : Nat → Int32 → ST → (ST → Prop) → Prop) (p1 : Int32) (s : ST) (K : ST → Prop) : Prop := w_81 s (fun r2 s1 => ((¬ r2 = (-1 : Int32) → w_285_F2 (((r2).toUInt32 % 65536).toInt32) s1 (fun r4 s3 => ((¬ r2 = (91 : Int32) → ((r4 < 0 → w_77 s3 (fun r6 s5 => w_86 (0 : Int32) r6 s5 (fun r8 s7 => K s7))) ∧ (¬ (r4 < 0) → w_86 (1 : Int32) r4 (sI s3 3504 ((s3.1 3504) + (1 : Int32))) (fun r10 s9 => K s9)))) ∧ (¬ (¬ r2 = (91 : Int32)) → w_80 p1 s3 (fun r12 s11 => ((r12 = 0 → K s11) ∧ (¬ (r12 = 0) → R 73 (p1 + (1 : Int32)) s11 (fun s13 => w_83 (93 : Int32) s13 (fun s15 => K s15))))))))) ∧ (¬ (¬ r2 = (-1 : Int32)) → ((¬ r2 = (91 : Int32) → w_77 s1 (fun r18 s17 => w_86 (0 : Int32) r18 s17 (fun r20 s19 => K s19))) ∧ (¬ (¬ r2 = (91 : Int32)) → w_80 p1 s1 (fun r22 s21 => ((r22 = 0 → K s21) ∧ (¬ (r22 = 0) → R 73 (p1 + (1 : Int32)) s21 (fun s23 => w_83 (93 : Int32) s23 (fun s25 => K s25))))))))))
theorem x_76 {d : Nat} {K : ST → Prop} {R : Nat → Int32 → ST → (ST → Prop) → Prop} (hR : ∀ (t : Nat) (a0 : Int32) (s : ST) (K : ST → Prop), R t a0 s K → Rn sc (d + 3) t [.ref 35, .int a0] (hpS s) (kV K)) (p1 : Int32) (s : ST) (k : o_76 R p1 s K) : Rn sc (d + 4) 76 [.ref 35, .int p1] (hpS s) (kV K) := by
  have hq : prog[76]? = some pm76 := rfl
  refine Rn.of (L := [.ref 35, .int p1, pu, pu]) hq rfl rfl ?_
  unfold o_76 at k
  refine Ex.seg hq 1 (j := 1) (L' := [.ref 35, .int p1, pu, pu]) (S' := [.ref 35]) (h' := hpS s) rfl ?_
  refine Ex.cl hq rfl rfl ?_
  refine Rn.mono (q_81 (d := d + 3) s k) ?_
  rintro _ _ ⟨r2, s1, rfl, rfl, k⟩
  show Ex sc (d + 4) 76 2 [.ref 35, .int p1, pu, pu] [.int r2] (hpS s1) _
  refine Ex.seg hq 3 (j := 5) (L' := [.ref 35, .int p1, .int r2, pu]) (S' := [.int (-1 : Int32), .int r2]) (h' := hpS s1) rfl ?_
  refine Ex.i2 hq rfl (fun c => ?_) (fun c => ?_)
  · have k := k.1 c
    refine Ex.seg hq 3 (j := 11) (L' := [.ref 35, .int p1, .int r2, pu]) (S' := [.int (((r2).toUInt32 % 65536).toInt32), .float 2]) (h' := hpS s1) rfl ?_
    refine Ex.cl hq rfl rfl ?_
    refine Rn.mono (q_285_F2 (d := d + 0) (((r2).toUInt32 % 65536).toInt32) s1 k) ?_
    rintro _ _ ⟨r4, s3, rfl, rfl, k⟩
    show Ex sc (d + 4) 76 12 [.ref 35, .int p1, .int r2, pu] [.int r4] (hpS s3) _
    refine Ex.seg hq 3 (j := 15) (L' := [.ref 35, .int p1, .int r2, .int r4]) (S' := [.int (91 : Int32), .int r2]) (h' := hpS s3) rfl ?_
    refine Ex.i2 hq rfl (fun c => ?_) (fun c => ?_)
    · have k := k.1 c
      refine Ex.seg hq 1 (j := 30) (L' := [.ref 35, .int p1, .int r2, .int r4]) (S' := [.int r4]) (h' := hpS s3) rfl ?_
      refine Ex.i1 hq rfl (fun c => ?_) (fun c => ?_)
      · have k := k.1 c
        refine Ex.seg hq 3 (j := 46) (L' := [.ref 35, .int p1, .int r2, .int r4]) (S' := [.ref 35, .int (0 : Int32), .ref 35]) (h' := hpS s3) rfl ?_
        refine Ex.cl hq rfl rfl ?_
        refine Rn.mono (q_77 (d := d + 2) s3 k) ?_
        rintro _ _ ⟨r6, s5, rfl, rfl, k⟩
        show Ex sc (d + 4) 76 47 [.ref 35, .int p1, .int r2, .int r4] [.int r6, .int (0 : Int32), .ref 35] (hpS s5) _
        refine Ex.cl hq rfl rfl ?_
        refine Rn.mono (q_86 (d := d + 3) (0 : Int32) r6 s5 k) ?_
        rintro _ _ ⟨r8, s7, rfl, rfl, k⟩
        show Ex sc (d + 4) 76 48 [.ref 35, .int p1, .int r2, .int r4] [.int r8] (hpS s7) _
        refine Ex.seg hq 1 (j := 49) (L' := [.ref 35, .int p1, .int r2, .int r4]) (S' := []) (h' := hpS s7) rfl ?_
        exact Ex.rt hq rfl rfl ⟨s7, rfl, rfl, k⟩
      · have k := k.2 c
        refine Ex.seg hq 9 (j := 40) (L' := [.ref 35, .int p1, .int r2, .int r4]) (S' := [.int r4, .int (1 : Int32), .ref 35]) (h' := hpS (sI s3 3504 ((s3.1 3504) + (1 : Int32)))) rfl ?_
        refine Ex.cl hq rfl rfl ?_
        refine Rn.mono (q_86 (d := d + 3) (1 : Int32) r4 (sI s3 3504 ((s3.1 3504) + (1 : Int32))) k) ?_
        rintro _ _ ⟨r10, s9, rfl, rfl, k⟩
        show Ex sc (d + 4) 76 41 [.ref 35, .int p1, .int r2, .int r4] [.int r10] (hpS s9) _
        refine Ex.seg hq 2 (j := 49) (L' := [.ref 35, .int p1, .int r2, .int r4]) (S' := []) (h' := hpS s9) rfl ?_
        exact Ex.rt hq rfl rfl ⟨s9, rfl, rfl, k⟩
    · have k := k.2 c
      refine Ex.seg hq 2 (j := 18) (L' := [.ref 35, .int p1, .int r2, .int r4]) (S' := [.int p1, .ref 35]) (h' := hpS s3) rfl ?_
      refine Ex.cl hq rfl rfl ?_
      refine Rn.mono (q_80 (d := d + 2) p1 s3 k) ?_
      rintro _ _ ⟨r12, s11, rfl, hzr12, rfl, k⟩
      show Ex sc (d + 4) 76 19 [.ref 35, .int p1, .int r2, .int r4] [.int r12] (hpS s11) _
      refine Ex.i1 hq rfl (fun c => ?_) (fun c => ?_)
      · have k := k.1 c
        exact Ex.rt hq rfl rfl ⟨s11, rfl, rfl, k⟩
      · have k := k.2 c
        refine Ex.seg hq 4 (j := 24) (L' := [.ref 35, .int p1, .int r2, .int r4]) (S' := [.int (p1 + (1 : Int32)), .ref 35]) (h' := hpS s11) rfl ?_
        refine Ex.cl hq rfl rfl ?_
        refine Rn.mono (hR 73 (p1 + (1 : Int32)) s11 _ k) ?_
        rintro _ _ ⟨s13, rfl, rfl, k⟩
        show Ex sc (d + 4) 76 25 [.ref 35, .int p1, .int r2, .int r4] [] (hpS s13) _
        refine Ex.seg hq 2 (j := 27) (L' := [.ref 35, .int p1, .int r2, .int r4]) (S' := [.int (93 : Int32), .ref 35]) (h' := hpS s13) rfl ?_
        refine Ex.cl hq rfl rfl ?_
        refine Rn.mono (q_83 (d := d + 2) (93 : Int32) s13 k) ?_
        rintro _ _ ⟨s15, rfl, rfl, k⟩
        show Ex sc (d + 4) 76 28 [.ref 35, .int p1, .int r2, .int r4] [] (hpS s15) _
        refine Ex.seg hq 1 (j := 49) (L' := [.ref 35, .int p1, .int r2, .int r4]) (S' := []) (h' := hpS s15) rfl ?_
        exact Ex.rt hq rfl rfl ⟨s15, rfl, rfl, k⟩
  · have k := k.2 c
    refine Ex.seg hq 5 (j := 15) (L' := [.ref 35, .int p1, .int r2, .int (-1 : Int32)]) (S' := [.int (91 : Int32), .int r2]) (h' := hpS s1) rfl ?_
    refine Ex.i2 hq rfl (fun c => ?_) (fun c => ?_)
    · have k := k.1 c
      refine Ex.seg hq 5 (j := 46) (L' := [.ref 35, .int p1, .int r2, .int (-1 : Int32)]) (S' := [.ref 35, .int (0 : Int32), .ref 35]) (h' := hpS s1) rfl ?_
      refine Ex.cl hq rfl rfl ?_
      refine Rn.mono (q_77 (d := d + 2) s1 k) ?_
      rintro _ _ ⟨r18, s17, rfl, rfl, k⟩
      show Ex sc (d + 4) 76 47 [.ref 35, .int p1, .int r2, .int (-1 : Int32)] [.int r18, .int (0 : Int32), .ref 35] (hpS s17) _
      refine Ex.cl hq rfl rfl ?_
      refine Rn.mono (q_86 (d := d + 3) (0 : Int32) r18 s17 k) ?_
      rintro _ _ ⟨r20, s19, rfl, rfl, k⟩
      show Ex sc (d + 4) 76 48 [.ref 35, .int p1, .int r2, .int (-1 : Int32)] [.int r20] (hpS s19) _
      refine Ex.seg hq 1 (j := 49) (L' := [.ref 35, .int p1, .int r2, .int (-1 : Int32)]) (S' := []) (h' := hpS s19) rfl ?_
      exact Ex.rt hq rfl rfl ⟨s19, rfl, rfl, k⟩
    · have k := k.2 c
      refine Ex.seg hq 2 (j := 18) (L' := [.ref 35, .int p1, .int r2, .int (-1 : Int32)]) (S' := [.int p1, .ref 35]) (h' := hpS s1) rfl ?_
      refine Ex.cl hq rfl rfl ?_
      refine Rn.mono (q_80 (d := d + 2) p1 s1 k) ?_
      rintro _ _ ⟨r22, s21, rfl, hzr22, rfl, k⟩
      show Ex sc (d + 4) 76 19 [.ref 35, .int p1, .int r2, .int (-1 : Int32)] [.int r22] (hpS s21) _
      refine Ex.i1 hq rfl (fun c => ?_) (fun c => ?_)
      · have k := k.1 c
        exact Ex.rt hq rfl rfl ⟨s21, rfl, rfl, k⟩
      · have k := k.2 c
        refine Ex.seg hq 4 (j := 24) (L' := [.ref 35, .int p1, .int r2, .int (-1 : Int32)]) (S' := [.int (p1 + (1 : Int32)), .ref 35]) (h' := hpS s21) rfl ?_
        refine Ex.cl hq rfl rfl ?_
        refine Rn.mono (hR 73 (p1 + (1 : Int32)) s21 _ k) ?_
        rintro _ _ ⟨s23, rfl, rfl, k⟩
        show Ex sc (d + 4) 76 25 [.ref 35, .int p1, .int r2, .int (-1 : Int32)] [] (hpS s23) _
        refine Ex.seg hq 2 (j := 27) (L' := [.ref 35, .int p1, .int r2, .int (-1 : Int32)]) (S' := [.int (93 : Int32), .ref 35]) (h' := hpS s23) rfl ?_
        refine Ex.cl hq rfl rfl ?_
        refine Rn.mono (q_83 (d := d + 2) (93 : Int32) s23 k) ?_
        rintro _ _ ⟨s25, rfl, rfl, k⟩
        show Ex sc (d + 4) 76 28 [.ref 35, .int p1, .int r2, .int (-1 : Int32)] [] (hpS s25) _
        refine Ex.seg hq 1 (j := 49) (L' := [.ref 35, .int p1, .int r2, .int (-1 : Int32)]) (S' := []) (h' := hpS s25) rfl ?_
        exact Ex.rt hq rfl rfl ⟨s25, rfl, rfl, k⟩
def wr_69 : Nat → Nat → Int32 → ST → (ST → Prop) → Prop
  | 0, _, _, _, _ => False
  | n + 1, t, a0, s, K => if t = 69 then o_69 (wr_69 n) a0 s K else if t = 70 then o_70 (wr_69 n) a0 s K else if t = 71 then o_71 (wr_69 n) a0 s K else if t = 73 then o_73 (wr_69 n) a0 s K else if t = 74 then o_74 (wr_69 n) a0 s K else if t = 76 then o_76 (wr_69 n) a0 s K else False
theorem qr_69 {d : Nat} : ∀ (n : Nat) (t : Nat)  (a0 : Int32) (s : ST) (K : ST → Prop), wr_69 n t a0 s K → Rn sc (d + n + 3) t [.ref 35, .int a0] (hpS s) (kV K) := by
  intro n
  induction n with
  | zero =>
    intro t a0 s K k
    exact k.elim
  | succ n ih =>
    intro t a0 s K k
    rw [wr_69] at k
    by_cases h69 : t = 69
    · subst h69
      simp only [if_true, if_false, Nat.reduceEqDiff] at k
      exact x_69 (d := d + n) ih a0 s k
    rw [if_neg h69] at k
    by_cases h70 : t = 70
    · subst h70
      simp only [if_true, if_false, Nat.reduceEqDiff] at k
      exact x_70 (d := d + n) ih a0 s k
    rw [if_neg h70] at k
    by_cases h71 : t = 71
    · subst h71
      simp only [if_true, if_false, Nat.reduceEqDiff] at k
      exact x_71 (d := d + n) ih a0 s k
    rw [if_neg h71] at k
    by_cases h73 : t = 73
    · subst h73
      simp only [if_true, if_false, Nat.reduceEqDiff] at k
      exact x_73 (d := d + n) ih a0 s k
    rw [if_neg h73] at k
    by_cases h74 : t = 74
    · subst h74
      simp only [if_true, if_false, Nat.reduceEqDiff] at k
      exact x_74 (d := d + n) ih a0 s k
    rw [if_neg h74] at k
    by_cases h76 : t = 76
    · subst h76
      simp only [if_true, if_false, Nat.reduceEqDiff] at k
      exact x_76 (d := d + n) ih a0 s k
    rw [if_neg h76] at k
    exact k.elim
def w_69  (a0 : Int32) (s : ST) (K : ST → Prop) : Prop := ∃ n, n ≤ 60 ∧ wr_69 n 69 a0 s K
theorem q_69 {d : Nat} {K : ST → Prop}  (a0 : Int32) (s : ST) (k : w_69 a0 s K) : Rn sc (d + 63) 69 [.ref 35, .int a0] (hpS s) (kV K) := by
  obtain ⟨n, hn, k⟩ := k
  have h := qr_69 (sc := sc) (d := d + (60 - n)) n 69 a0 s K k
  have e : d + (60 - n) + n + 3 = d + 63 := by omega
  rw [e] at h
  exact h
def w_70  (a0 : Int32) (s : ST) (K : ST → Prop) : Prop := ∃ n, n ≤ 60 ∧ wr_69 n 70 a0 s K
theorem q_70 {d : Nat} {K : ST → Prop}  (a0 : Int32) (s : ST) (k : w_70 a0 s K) : Rn sc (d + 63) 70 [.ref 35, .int a0] (hpS s) (kV K) := by
  obtain ⟨n, hn, k⟩ := k
  have h := qr_69 (sc := sc) (d := d + (60 - n)) n 70 a0 s K k
  have e : d + (60 - n) + n + 3 = d + 63 := by omega
  rw [e] at h
  exact h
def w_71  (a0 : Int32) (s : ST) (K : ST → Prop) : Prop := ∃ n, n ≤ 60 ∧ wr_69 n 71 a0 s K
theorem q_71 {d : Nat} {K : ST → Prop}  (a0 : Int32) (s : ST) (k : w_71 a0 s K) : Rn sc (d + 63) 71 [.ref 35, .int a0] (hpS s) (kV K) := by
  obtain ⟨n, hn, k⟩ := k
  have h := qr_69 (sc := sc) (d := d + (60 - n)) n 71 a0 s K k
  have e : d + (60 - n) + n + 3 = d + 63 := by omega
  rw [e] at h
  exact h
def w_73  (a0 : Int32) (s : ST) (K : ST → Prop) : Prop := ∃ n, n ≤ 60 ∧ wr_69 n 73 a0 s K
theorem q_73 {d : Nat} {K : ST → Prop}  (a0 : Int32) (s : ST) (k : w_73 a0 s K) : Rn sc (d + 63) 73 [.ref 35, .int a0] (hpS s) (kV K) := by
  obtain ⟨n, hn, k⟩ := k
  have h := qr_69 (sc := sc) (d := d + (60 - n)) n 73 a0 s K k
  have e : d + (60 - n) + n + 3 = d + 63 := by omega
  rw [e] at h
  exact h
def w_74  (a0 : Int32) (s : ST) (K : ST → Prop) : Prop := ∃ n, n ≤ 60 ∧ wr_69 n 74 a0 s K
theorem q_74 {d : Nat} {K : ST → Prop}  (a0 : Int32) (s : ST) (k : w_74 a0 s K) : Rn sc (d + 63) 74 [.ref 35, .int a0] (hpS s) (kV K) := by
  obtain ⟨n, hn, k⟩ := k
  have h := qr_69 (sc := sc) (d := d + (60 - n)) n 74 a0 s K k
  have e : d + (60 - n) + n + 3 = d + 63 := by omega
  rw [e] at h
  exact h
def w_76  (a0 : Int32) (s : ST) (K : ST → Prop) : Prop := ∃ n, n ≤ 60 ∧ wr_69 n 76 a0 s K
theorem q_76 {d : Nat} {K : ST → Prop}  (a0 : Int32) (s : ST) (k : w_76 a0 s K) : Rn sc (d + 63) 76 [.ref 35, .int a0] (hpS s) (kV K) := by
  obtain ⟨n, hn, k⟩ := k
  have h := qr_69 (sc := sc) (d := d + (60 - n)) n 76 a0 s K k
  have e : d + (60 - n) + n + 3 = d + 63 := by omega
  rw [e] at h
  exact h
end WP
