/-! ===== weakest preconditions, printed by wip/whole/genwp.py ===== -/
section WP
variable {sc : Nat × (Nat → Int32)}
/-- RowAuditorModel.says(II)V -/
def w_207 (p1 : Int32) (p2 : Int32) (s : ST) (K : ST → Prop) : Prop := (pin (s.1 5530) 180 = true ∧ K (sA (sI s 5530 ((s.1 5530) + (1 : Int32))) 76 (upd (s.2.1 76) ((s.1 5530)).toNatClampNeg (((16777216 : Int32) * p1) + p2))))
theorem q_207 {d : Nat} {K : ST → Prop} (p1 : Int32) (p2 : Int32) (s : ST) (k : w_207 p1 p2 s K) : Rn sc (d + 0) 207 [.ref 55, .int p1, .int p2] (hpS s) (kV K) := by
  have hq : prog[207]? = some pm207 := rfl
  refine Rn.of (L := [.ref 55, .int p1, .int p2]) hq rfl rfl ?_
  unfold w_207 at k
  refine Ex.seg hq 9 (j := 9) (L' := [.ref 55, .int p1, .int p2]) (S' := [.int (((16777216 : Int32) * p1) + p2), .int (s.1 5530), .ref 76]) (h' := hpS s) rfl ?_
  obtain ⟨hin, k⟩ := k
  refine Ex.ias hq rfl rfl hin (h' := hpS (sA s 76 (upd (s.2.1 76) ((s.1 5530)).toNatClampNeg (((16777216 : Int32) * p1) + p2)))) (hset_76 _ _) ?_
  refine Ex.seg hq 6 (j := 16) (L' := [.ref 55, .int p1, .int p2]) (S' := []) (h' := hpS (sA (sI s 5530 ((s.1 5530) + (1 : Int32))) 76 (upd (s.2.1 76) ((s.1 5530)).toNatClampNeg (((16777216 : Int32) * p1) + p2)))) rfl ?_
  exact Ex.rt hq rfl rfl ⟨(sA (sI s 5530 ((s.1 5530) + (1 : Int32))) 76 (upd (s.2.1 76) ((s.1 5530)).toNatClampNeg (((16777216 : Int32) * p1) + p2))), rfl, rfl, k⟩
/-- RowAuditorModel.opens(I)Z -/
def w_208 (p1 : Int32) (s : ST) (K : Int32 → ST → Prop) : Prop := ((¬ (s.1 5529) = (6 : Int32) → (pin (s.1 5531) 180 = true ∧ K (1 : Int32) (sA (sI (sI (sI s 5529 ((s.1 5529) + (1 : Int32))) 5531 ((s.1 5531) + (1 : Int32))) 5526 ((s.1 5526) + (1 : Int32))) 77 (upd (s.2.1 77) ((s.1 5531)).toNatClampNeg ((16777216 : Int32) * p1))))) ∧ (¬ (¬ (s.1 5529) = (6 : Int32)) → w_204 (5 : Int32) (s.1 5526) s (fun r2 s1 => K r2 s1)))
theorem q_208 {d : Nat} {K : Int32 → ST → Prop} (p1 : Int32) (s : ST) (k : w_208 p1 s K) : Rn sc (d + 1) 208 [.ref 55, .int p1] (hpS s) (kZ K) := by
  have hq : prog[208]? = some pm208 := rfl
  refine Rn.of (L := [.ref 55, .int p1]) hq rfl rfl ?_
  unfold w_208 at k
  refine Ex.seg hq 3 (j := 3) (L' := [.ref 55, .int p1]) (S' := [.int (6 : Int32), .int (s.1 5529)]) (h' := hpS s) rfl ?_
  refine Ex.i2 hq rfl (fun c => ?_) (fun c => ?_)
  · have k := k.1 c
    refine Ex.seg hq 13 (j := 23) (L' := [.ref 55, .int p1]) (S' := [.int ((16777216 : Int32) * p1), .int (s.1 5531), .ref 77]) (h' := hpS (sI s 5529 ((s.1 5529) + (1 : Int32)))) rfl ?_
    obtain ⟨hin, k⟩ := k
    refine Ex.ias hq rfl rfl hin (h' := hpS (sA (sI s 5529 ((s.1 5529) + (1 : Int32))) 77 (upd (s.2.1 77) ((s.1 5531)).toNatClampNeg ((16777216 : Int32) * p1)))) (hset_77 _ _) ?_
    refine Ex.seg hq 13 (j := 37) (L' := [.ref 55, .int p1]) (S' := [.int (1 : Int32)]) (h' := hpS (sA (sI (sI (sI s 5529 ((s.1 5529) + (1 : Int32))) 5531 ((s.1 5531) + (1 : Int32))) 5526 ((s.1 5526) + (1 : Int32))) 77 (upd (s.2.1 77) ((s.1 5531)).toNatClampNeg ((16777216 : Int32) * p1)))) rfl ?_
    exact Ex.zr hq rfl rfl (Or.inr rfl) ⟨(1 : Int32), (sA (sI (sI (sI s 5529 ((s.1 5529) + (1 : Int32))) 5531 ((s.1 5531) + (1 : Int32))) 5526 ((s.1 5526) + (1 : Int32))) 77 (upd (s.2.1 77) ((s.1 5531)).toNatClampNeg ((16777216 : Int32) * p1))), rfl, (Or.inr rfl), rfl, k⟩
  · have k := k.2 c
    refine Ex.seg hq 4 (j := 8) (L' := [.ref 55, .int p1]) (S' := [.int (s.1 5526), .int (5 : Int32), .ref 55]) (h' := hpS s) rfl ?_
    refine Ex.cl hq rfl rfl ?_
    refine Rn.mono (q_204 (d := d + 0) (5 : Int32) (s.1 5526) s k) ?_
    rintro _ _ ⟨r2, s1, rfl, hzr2, rfl, k⟩
    show Ex sc (d + 1) 208 9 [.ref 55, .int p1] [.int r2] (hpS s1) _
    exact Ex.zr hq rfl rfl hzr2 ⟨r2, s1, rfl, hzr2, rfl, k⟩
/-- RowAuditorModel.top()I -/
def w_209  (s : ST) (K : Int32 → ST → Prop) : Prop := ((¬ (s.1 5531) = 0 → (pin ((s.1 5531) - (1 : Int32)) 180 = true ∧ (¬ (16777216 : Int32) = 0 ∧ K (((s.2.1 77) (((s.1 5531) - (1 : Int32))).toNatClampNeg) / (16777216 : Int32)) s))) ∧ (¬ (¬ (s.1 5531) = 0) → K (-1 : Int32) s))
theorem q_209 {d : Nat} {K : Int32 → ST → Prop}  (s : ST) (k : w_209  s K) : Rn sc (d + 0) 209 [.ref 55] (hpS s) (kI K) := by
  have hq : prog[209]? = some pm209 := rfl
  refine Rn.of (L := [.ref 55]) hq rfl rfl ?_
  unfold w_209 at k
  refine Ex.seg hq 2 (j := 2) (L' := [.ref 55]) (S' := [.int (s.1 5531)]) (h' := hpS s) rfl ?_
  refine Ex.i1 hq rfl (fun c => ?_) (fun c => ?_)
  · have k := k.1 c
    refine Ex.seg hq 6 (j := 11) (L' := [.ref 55]) (S' := [.int ((s.1 5531) - (1 : Int32)), .ref 77]) (h' := hpS s) rfl ?_
    obtain ⟨hin, k⟩ := k
    refine Ex.ial hq rfl rfl hin ?_
    refine Ex.seg hq 1 (j := 13) (L' := [.ref 55]) (S' := [.int (16777216 : Int32), .int ((s.2.1 77) (((s.1 5531) - (1 : Int32))).toNatClampNeg)]) (h' := hpS s) rfl ?_
    obtain ⟨hz, k⟩ := k
    refine Ex.dv hq rfl hz ?_
    exact Ex.rt hq rfl rfl ⟨(((s.2.1 77) (((s.1 5531) - (1 : Int32))).toNatClampNeg) / (16777216 : Int32)), s, rfl, rfl, k⟩
  · have k := k.2 c
    refine Ex.seg hq 2 (j := 14) (L' := [.ref 55]) (S' := [.int (-1 : Int32)]) (h' := hpS s) rfl ?_
    exact Ex.rt hq rfl rfl ⟨(-1 : Int32), s, rfl, rfl, k⟩
/-- RowAuditorModel.factOf(I)I -/
def w_210 (p0 : Int32) (s : ST) (K : Int32 → ST → Prop) : Prop := (((p0).toInt < 97 ∨ 119 < (p0).toInt → K (-1 : Int32) s) ∧ (p0 = (97 : Int32) → K (10 : Int32) s) ∧ (p0 = (98 : Int32) → K (-1 : Int32) s) ∧ (p0 = (99 : Int32) → K (-1 : Int32) s) ∧ (p0 = (100 : Int32) → K (2 : Int32) s) ∧ (p0 = (101 : Int32) → K (7 : Int32) s) ∧ (p0 = (102 : Int32) → K (-1 : Int32) s) ∧ (p0 = (103 : Int32) → K (-1 : Int32) s) ∧ (p0 = (104 : Int32) → K (3 : Int32) s) ∧ (p0 = (105 : Int32) → K (-1 : Int32) s) ∧ (p0 = (106 : Int32) → K (-1 : Int32) s) ∧ (p0 = (107 : Int32) → K (0 : Int32) s) ∧ (p0 = (108 : Int32) → K (-1 : Int32) s) ∧ (p0 = (109 : Int32) → K (-1 : Int32) s) ∧ (p0 = (110 : Int32) → K (11 : Int32) s) ∧ (p0 = (111 : Int32) → K (6 : Int32) s) ∧ (p0 = (112 : Int32) → K (8 : Int32) s) ∧ (p0 = (113 : Int32) → K (9 : Int32) s) ∧ (p0 = (114 : Int32) → K (-1 : Int32) s) ∧ (p0 = (115 : Int32) → K (1 : Int32) s) ∧ (p0 = (116 : Int32) → K (12 : Int32) s) ∧ (p0 = (117 : Int32) → K (-1 : Int32) s) ∧ (p0 = (118 : Int32) → K (5 : Int32) s) ∧ (p0 = (119 : Int32) → K (4 : Int32) s))
theorem q_210 {d : Nat} {K : Int32 → ST → Prop} (p0 : Int32) (s : ST) (k : w_210 p0 s K) : Rn sc (d + 0) 210 [.int p0] (hpS s) (kI K) := by
  have hq : prog[210]? = some pm210 := rfl
  refine Rn.of (L := [.int p0]) hq rfl rfl ?_
  unfold w_210 at k
  refine Ex.seg hq 1 (j := 1) (L' := [.int p0]) (S' := [.int p0]) (h' := hpS s) rfl ?_
  refine Ex.tsw hq rfl (fun c => ?_) (fun t c ht => ?_) (by decide)
  · have k := k.1 c
    refine Ex.seg hq 1 (j := 29) (L' := [.int p0]) (S' := [.int (-1 : Int32)]) (h' := hpS s) rfl ?_
    exact Ex.rt hq rfl rfl ⟨(-1 : Int32), s, rfl, rfl, k⟩
  · have k := k.2
    rcases (show (p0).toInt = 97 ∨ (p0).toInt = 98 ∨ (p0).toInt = 99 ∨ (p0).toInt = 100 ∨ (p0).toInt = 101 ∨ (p0).toInt = 102 ∨ (p0).toInt = 103 ∨ (p0).toInt = 104 ∨ (p0).toInt = 105 ∨ (p0).toInt = 106 ∨ (p0).toInt = 107 ∨ (p0).toInt = 108 ∨ (p0).toInt = 109 ∨ (p0).toInt = 110 ∨ (p0).toInt = 111 ∨ (p0).toInt = 112 ∨ (p0).toInt = 113 ∨ (p0).toInt = 114 ∨ (p0).toInt = 115 ∨ (p0).toInt = 116 ∨ (p0).toInt = 117 ∨ (p0).toInt = 118 ∨ (p0).toInt = 119 by omega) with e | e | e | e | e | e | e | e | e | e | e | e | e | e | e | e | e | e | e | e | e | e | e
    · have cx : p0 = (97 : Int32) := Int32.toInt_inj.mp (by rw [e]; rfl)
      have k := k.1 cx
      rw [e] at ht
      have ht : (some 22 : Option Nat) = some t := ht
      cases ht
      refine Ex.seg hq 1 (j := 23) (L' := [.int p0]) (S' := [.int (10 : Int32)]) (h' := hpS s) rfl ?_
      exact Ex.rt hq rfl rfl ⟨(10 : Int32), s, rfl, rfl, k⟩
    · have cx : p0 = (98 : Int32) := Int32.toInt_inj.mp (by rw [e]; rfl)
      have k := k.2.1 cx
      rw [e] at ht
      have ht : (some 28 : Option Nat) = some t := ht
      cases ht
      refine Ex.seg hq 1 (j := 29) (L' := [.int p0]) (S' := [.int (-1 : Int32)]) (h' := hpS s) rfl ?_
      exact Ex.rt hq rfl rfl ⟨(-1 : Int32), s, rfl, rfl, k⟩
    · have cx : p0 = (99 : Int32) := Int32.toInt_inj.mp (by rw [e]; rfl)
      have k := k.2.2.1 cx
      rw [e] at ht
      have ht : (some 28 : Option Nat) = some t := ht
      cases ht
      refine Ex.seg hq 1 (j := 29) (L' := [.int p0]) (S' := [.int (-1 : Int32)]) (h' := hpS s) rfl ?_
      exact Ex.rt hq rfl rfl ⟨(-1 : Int32), s, rfl, rfl, k⟩
    · have cx : p0 = (100 : Int32) := Int32.toInt_inj.mp (by rw [e]; rfl)
      have k := k.2.2.2.1 cx
      rw [e] at ht
      have ht : (some 6 : Option Nat) = some t := ht
      cases ht
      refine Ex.seg hq 1 (j := 7) (L' := [.int p0]) (S' := [.int (2 : Int32)]) (h' := hpS s) rfl ?_
      exact Ex.rt hq rfl rfl ⟨(2 : Int32), s, rfl, rfl, k⟩
    · have cx : p0 = (101 : Int32) := Int32.toInt_inj.mp (by rw [e]; rfl)
      have k := k.2.2.2.2.1 cx
      rw [e] at ht
      have ht : (some 16 : Option Nat) = some t := ht
      cases ht
      refine Ex.seg hq 1 (j := 17) (L' := [.int p0]) (S' := [.int (7 : Int32)]) (h' := hpS s) rfl ?_
      exact Ex.rt hq rfl rfl ⟨(7 : Int32), s, rfl, rfl, k⟩
    · have cx : p0 = (102 : Int32) := Int32.toInt_inj.mp (by rw [e]; rfl)
      have k := k.2.2.2.2.2.1 cx
      rw [e] at ht
      have ht : (some 28 : Option Nat) = some t := ht
      cases ht
      refine Ex.seg hq 1 (j := 29) (L' := [.int p0]) (S' := [.int (-1 : Int32)]) (h' := hpS s) rfl ?_
      exact Ex.rt hq rfl rfl ⟨(-1 : Int32), s, rfl, rfl, k⟩
    · have cx : p0 = (103 : Int32) := Int32.toInt_inj.mp (by rw [e]; rfl)
      have k := k.2.2.2.2.2.2.1 cx
      rw [e] at ht
      have ht : (some 28 : Option Nat) = some t := ht
      cases ht
      refine Ex.seg hq 1 (j := 29) (L' := [.int p0]) (S' := [.int (-1 : Int32)]) (h' := hpS s) rfl ?_
      exact Ex.rt hq rfl rfl ⟨(-1 : Int32), s, rfl, rfl, k⟩
    · have cx : p0 = (104 : Int32) := Int32.toInt_inj.mp (by rw [e]; rfl)
      have k := k.2.2.2.2.2.2.2.1 cx
      rw [e] at ht
      have ht : (some 8 : Option Nat) = some t := ht
      cases ht
      refine Ex.seg hq 1 (j := 9) (L' := [.int p0]) (S' := [.int (3 : Int32)]) (h' := hpS s) rfl ?_
      exact Ex.rt hq rfl rfl ⟨(3 : Int32), s, rfl, rfl, k⟩
    · have cx : p0 = (105 : Int32) := Int32.toInt_inj.mp (by rw [e]; rfl)
      have k := k.2.2.2.2.2.2.2.2.1 cx
      rw [e] at ht
      have ht : (some 28 : Option Nat) = some t := ht
      cases ht
      refine Ex.seg hq 1 (j := 29) (L' := [.int p0]) (S' := [.int (-1 : Int32)]) (h' := hpS s) rfl ?_
      exact Ex.rt hq rfl rfl ⟨(-1 : Int32), s, rfl, rfl, k⟩
    · have cx : p0 = (106 : Int32) := Int32.toInt_inj.mp (by rw [e]; rfl)
      have k := k.2.2.2.2.2.2.2.2.2.1 cx
      rw [e] at ht
      have ht : (some 28 : Option Nat) = some t := ht
      cases ht
      refine Ex.seg hq 1 (j := 29) (L' := [.int p0]) (S' := [.int (-1 : Int32)]) (h' := hpS s) rfl ?_
      exact Ex.rt hq rfl rfl ⟨(-1 : Int32), s, rfl, rfl, k⟩
    · have cx : p0 = (107 : Int32) := Int32.toInt_inj.mp (by rw [e]; rfl)
      have k := k.2.2.2.2.2.2.2.2.2.2.1 cx
      rw [e] at ht
      have ht : (some 2 : Option Nat) = some t := ht
      cases ht
      refine Ex.seg hq 1 (j := 3) (L' := [.int p0]) (S' := [.int (0 : Int32)]) (h' := hpS s) rfl ?_
      exact Ex.rt hq rfl rfl ⟨(0 : Int32), s, rfl, rfl, k⟩
    · have cx : p0 = (108 : Int32) := Int32.toInt_inj.mp (by rw [e]; rfl)
      have k := k.2.2.2.2.2.2.2.2.2.2.2.1 cx
      rw [e] at ht
      have ht : (some 28 : Option Nat) = some t := ht
      cases ht
      refine Ex.seg hq 1 (j := 29) (L' := [.int p0]) (S' := [.int (-1 : Int32)]) (h' := hpS s) rfl ?_
      exact Ex.rt hq rfl rfl ⟨(-1 : Int32), s, rfl, rfl, k⟩
    · have cx : p0 = (109 : Int32) := Int32.toInt_inj.mp (by rw [e]; rfl)
      have k := k.2.2.2.2.2.2.2.2.2.2.2.2.1 cx
      rw [e] at ht
      have ht : (some 28 : Option Nat) = some t := ht
      cases ht
      refine Ex.seg hq 1 (j := 29) (L' := [.int p0]) (S' := [.int (-1 : Int32)]) (h' := hpS s) rfl ?_
      exact Ex.rt hq rfl rfl ⟨(-1 : Int32), s, rfl, rfl, k⟩
    · have cx : p0 = (110 : Int32) := Int32.toInt_inj.mp (by rw [e]; rfl)
      have k := k.2.2.2.2.2.2.2.2.2.2.2.2.2.1 cx
      rw [e] at ht
      have ht : (some 24 : Option Nat) = some t := ht
      cases ht
      refine Ex.seg hq 1 (j := 25) (L' := [.int p0]) (S' := [.int (11 : Int32)]) (h' := hpS s) rfl ?_
      exact Ex.rt hq rfl rfl ⟨(11 : Int32), s, rfl, rfl, k⟩
    · have cx : p0 = (111 : Int32) := Int32.toInt_inj.mp (by rw [e]; rfl)
      have k := k.2.2.2.2.2.2.2.2.2.2.2.2.2.2.1 cx
      rw [e] at ht
      have ht : (some 14 : Option Nat) = some t := ht
      cases ht
      refine Ex.seg hq 1 (j := 15) (L' := [.int p0]) (S' := [.int (6 : Int32)]) (h' := hpS s) rfl ?_
      exact Ex.rt hq rfl rfl ⟨(6 : Int32), s, rfl, rfl, k⟩
    · have cx : p0 = (112 : Int32) := Int32.toInt_inj.mp (by rw [e]; rfl)
      have k := k.2.2.2.2.2.2.2.2.2.2.2.2.2.2.2.1 cx
      rw [e] at ht
      have ht : (some 18 : Option Nat) = some t := ht
      cases ht
      refine Ex.seg hq 1 (j := 19) (L' := [.int p0]) (S' := [.int (8 : Int32)]) (h' := hpS s) rfl ?_
      exact Ex.rt hq rfl rfl ⟨(8 : Int32), s, rfl, rfl, k⟩
    · have cx : p0 = (113 : Int32) := Int32.toInt_inj.mp (by rw [e]; rfl)
      have k := k.2.2.2.2.2.2.2.2.2.2.2.2.2.2.2.2.1 cx
      rw [e] at ht
      have ht : (some 20 : Option Nat) = some t := ht
      cases ht
      refine Ex.seg hq 1 (j := 21) (L' := [.int p0]) (S' := [.int (9 : Int32)]) (h' := hpS s) rfl ?_
      exact Ex.rt hq rfl rfl ⟨(9 : Int32), s, rfl, rfl, k⟩
    · have cx : p0 = (114 : Int32) := Int32.toInt_inj.mp (by rw [e]; rfl)
      have k := k.2.2.2.2.2.2.2.2.2.2.2.2.2.2.2.2.2.1 cx
      rw [e] at ht
      have ht : (some 28 : Option Nat) = some t := ht
      cases ht
      refine Ex.seg hq 1 (j := 29) (L' := [.int p0]) (S' := [.int (-1 : Int32)]) (h' := hpS s) rfl ?_
      exact Ex.rt hq rfl rfl ⟨(-1 : Int32), s, rfl, rfl, k⟩
    · have cx : p0 = (115 : Int32) := Int32.toInt_inj.mp (by rw [e]; rfl)
      have k := k.2.2.2.2.2.2.2.2.2.2.2.2.2.2.2.2.2.2.1 cx
      rw [e] at ht
      have ht : (some 4 : Option Nat) = some t := ht
      cases ht
      refine Ex.seg hq 1 (j := 5) (L' := [.int p0]) (S' := [.int (1 : Int32)]) (h' := hpS s) rfl ?_
      exact Ex.rt hq rfl rfl ⟨(1 : Int32), s, rfl, rfl, k⟩
    · have cx : p0 = (116 : Int32) := Int32.toInt_inj.mp (by rw [e]; rfl)
      have k := k.2.2.2.2.2.2.2.2.2.2.2.2.2.2.2.2.2.2.2.1 cx
      rw [e] at ht
      have ht : (some 26 : Option Nat) = some t := ht
      cases ht
      refine Ex.seg hq 1 (j := 27) (L' := [.int p0]) (S' := [.int (12 : Int32)]) (h' := hpS s) rfl ?_
      exact Ex.rt hq rfl rfl ⟨(12 : Int32), s, rfl, rfl, k⟩
    · have cx : p0 = (117 : Int32) := Int32.toInt_inj.mp (by rw [e]; rfl)
      have k := k.2.2.2.2.2.2.2.2.2.2.2.2.2.2.2.2.2.2.2.2.1 cx
      rw [e] at ht
      have ht : (some 28 : Option Nat) = some t := ht
      cases ht
      refine Ex.seg hq 1 (j := 29) (L' := [.int p0]) (S' := [.int (-1 : Int32)]) (h' := hpS s) rfl ?_
      exact Ex.rt hq rfl rfl ⟨(-1 : Int32), s, rfl, rfl, k⟩
    · have cx : p0 = (118 : Int32) := Int32.toInt_inj.mp (by rw [e]; rfl)
      have k := k.2.2.2.2.2.2.2.2.2.2.2.2.2.2.2.2.2.2.2.2.2.1 cx
      rw [e] at ht
      have ht : (some 12 : Option Nat) = some t := ht
      cases ht
      refine Ex.seg hq 1 (j := 13) (L' := [.int p0]) (S' := [.int (5 : Int32)]) (h' := hpS s) rfl ?_
      exact Ex.rt hq rfl rfl ⟨(5 : Int32), s, rfl, rfl, k⟩
    · have cx : p0 = (119 : Int32) := Int32.toInt_inj.mp (by rw [e]; rfl)
      have k := k.2.2.2.2.2.2.2.2.2.2.2.2.2.2.2.2.2.2.2.2.2.2 cx
      rw [e] at ht
      have ht : (some 10 : Option Nat) = some t := ht
      cases ht
      refine Ex.seg hq 1 (j := 11) (L' := [.int p0]) (S' := [.int (4 : Int32)]) (h' := hpS s) rfl ?_
      exact Ex.rt hq rfl rfl ⟨(4 : Int32), s, rfl, rfl, k⟩
/-- RowAuditorModel.sumSign(I)I -/
def w_211 (p0 : Int32) (s : ST) (K : Int32 → ST → Prop) : Prop := ((¬ p0 = (43 : Int32) → ((¬ p0 = (45 : Int32) → ((¬ p0 = (42 : Int32) → ((¬ p0 = (47 : Int32) → ((¬ p0 = (37 : Int32) → K (-1 : Int32) s) ∧ (¬ (¬ p0 = (37 : Int32)) → K (6 : Int32) s))) ∧ (¬ (¬ p0 = (47 : Int32)) → K (5 : Int32) s))) ∧ (¬ (¬ p0 = (42 : Int32)) → K (4 : Int32) s))) ∧ (¬ (¬ p0 = (45 : Int32)) → K (3 : Int32) s))) ∧ (¬ (¬ p0 = (43 : Int32)) → K (2 : Int32) s))
theorem q_211 {d : Nat} {K : Int32 → ST → Prop} (p0 : Int32) (s : ST) (k : w_211 p0 s K) : Rn sc (d + 0) 211 [.int p0] (hpS s) (kI K) := by
  have hq : prog[211]? = some pm211 := rfl
  refine Rn.of (L := [.int p0]) hq rfl rfl ?_
  unfold w_211 at k
  refine Ex.seg hq 2 (j := 2) (L' := [.int p0]) (S' := [.int (43 : Int32), .int p0]) (h' := hpS s) rfl ?_
  refine Ex.i2 hq rfl (fun c => ?_) (fun c => ?_)
  · have k := k.1 c
    refine Ex.seg hq 2 (j := 7) (L' := [.int p0]) (S' := [.int (45 : Int32), .int p0]) (h' := hpS s) rfl ?_
    refine Ex.i2 hq rfl (fun c => ?_) (fun c => ?_)
    · have k := k.1 c
      refine Ex.seg hq 2 (j := 12) (L' := [.int p0]) (S' := [.int (42 : Int32), .int p0]) (h' := hpS s) rfl ?_
      refine Ex.i2 hq rfl (fun c => ?_) (fun c => ?_)
      · have k := k.1 c
        refine Ex.seg hq 2 (j := 17) (L' := [.int p0]) (S' := [.int (47 : Int32), .int p0]) (h' := hpS s) rfl ?_
        refine Ex.i2 hq rfl (fun c => ?_) (fun c => ?_)
        · have k := k.1 c
          refine Ex.seg hq 2 (j := 22) (L' := [.int p0]) (S' := [.int (37 : Int32), .int p0]) (h' := hpS s) rfl ?_
          refine Ex.i2 hq rfl (fun c => ?_) (fun c => ?_)
          · have k := k.1 c
            refine Ex.seg hq 1 (j := 26) (L' := [.int p0]) (S' := [.int (-1 : Int32)]) (h' := hpS s) rfl ?_
            exact Ex.rt hq rfl rfl ⟨(-1 : Int32), s, rfl, rfl, k⟩
          · have k := k.2 c
            refine Ex.seg hq 2 (j := 26) (L' := [.int p0]) (S' := [.int (6 : Int32)]) (h' := hpS s) rfl ?_
            exact Ex.rt hq rfl rfl ⟨(6 : Int32), s, rfl, rfl, k⟩
        · have k := k.2 c
          refine Ex.seg hq 2 (j := 26) (L' := [.int p0]) (S' := [.int (5 : Int32)]) (h' := hpS s) rfl ?_
          exact Ex.rt hq rfl rfl ⟨(5 : Int32), s, rfl, rfl, k⟩
      · have k := k.2 c
        refine Ex.seg hq 2 (j := 26) (L' := [.int p0]) (S' := [.int (4 : Int32)]) (h' := hpS s) rfl ?_
        exact Ex.rt hq rfl rfl ⟨(4 : Int32), s, rfl, rfl, k⟩
    · have k := k.2 c
      refine Ex.seg hq 2 (j := 26) (L' := [.int p0]) (S' := [.int (3 : Int32)]) (h' := hpS s) rfl ?_
      exact Ex.rt hq rfl rfl ⟨(3 : Int32), s, rfl, rfl, k⟩
  · have k := k.2 c
    refine Ex.seg hq 2 (j := 26) (L' := [.int p0]) (S' := [.int (2 : Int32)]) (h' := hpS s) rfl ?_
    exact Ex.rt hq rfl rfl ⟨(2 : Int32), s, rfl, rfl, k⟩
def w_212_L0 : Nat → Int32 → ST → (ST → Prop) → (ST → Prop) → Prop
  | 0, _, _, _, _ => False
  | n + 1, x1, s, X30, K => w_209 s (fun r2 s1 => ((r2 < (4 : Int32) → ((x1 = 0 → X30  s1) ∧ (¬ (x1 = 0) → w_209 s1 (fun r4 s3 => ((r4 = (2 : Int32) → w_209 s3 (fun r6 s5 => w_207 r6 (0 : Int32) s5 (fun s7 => w_212_L0 n x1 (sI s7 5531 ((s7.1 5531) - (1 : Int32))) X30 K))) ∧ (¬ (r4 = (2 : Int32)) → w_209 s3 (fun r10 s9 => ((¬ r10 = (3 : Int32) → X30  s9) ∧ (¬ (¬ r10 = (3 : Int32)) → w_209 s9 (fun r12 s11 => w_207 r12 (0 : Int32) s11 (fun s13 => w_212_L0 n x1 (sI s13 5531 ((s13.1 5531) - (1 : Int32))) X30 K))))))))))) ∧ (¬ (r2 < (4 : Int32)) → w_209 s1 (fun r16 s15 => ((r16 ≤ (6 : Int32) → w_209 s15 (fun r18 s17 => w_207 r18 (0 : Int32) s17 (fun s19 => w_212_L0 n x1 (sI s19 5531 ((s19.1 5531) - (1 : Int32))) X30 K))) ∧ (¬ (r16 ≤ (6 : Int32)) → ((x1 = 0 → X30  s15) ∧ (¬ (x1 = 0) → w_209 s15 (fun r22 s21 => ((r22 = (2 : Int32) → w_209 s21 (fun r24 s23 => w_207 r24 (0 : Int32) s23 (fun s25 => w_212_L0 n x1 (sI s25 5531 ((s25.1 5531) - (1 : Int32))) X30 K))) ∧ (¬ (r22 = (2 : Int32)) → w_209 s21 (fun r28 s27 => ((¬ r28 = (3 : Int32) → X30  s27) ∧ (¬ (¬ r28 = (3 : Int32)) → w_209 s27 (fun r30 s29 => w_207 r30 (0 : Int32) s29 (fun s31 => w_212_L0 n x1 (sI s31 5531 ((s31.1 5531) - (1 : Int32))) X30 K))))))))))))))))
theorem q_212_L0 {d : Nat} {X30 : ST → Prop} {K : ST → Prop} : ∀ (n : Nat) (x1 : Int32) (s : ST), w_212_L0 n x1 s X30 K → (∀ (s : ST), X30  s → Ex sc (d + 1) 212 30 [pu, pu] [] (hpS s) (kV K)) → Ex sc (d + 1) 212 0 [.ref 55, .int x1] [] (hpS s) (kV K) := by
  have hq : prog[212]? = some pm212 := rfl
  intro n
  induction n with
  | zero =>
    intro x1 s k
    exact k.elim
  | succ n ih =>
    intro x1 s k hX30
    rw [w_212_L0] at k
    refine Ex.seg hq 1 (j := 1) (L' := [.ref 55, .int x1]) (S' := [.ref 55]) (h' := hpS s) rfl ?_
    refine Ex.cl hq rfl rfl ?_
    refine Rn.mono (q_209 (d := d + 0) s k) ?_
    rintro _ _ ⟨r2, s1, rfl, rfl, k⟩
    show Ex sc (d + 1) 212 2 [.ref 55, .int x1] [.int r2] (hpS s1) _
    refine Ex.seg hq 1 (j := 3) (L' := [.ref 55, .int x1]) (S' := [.int (4 : Int32), .int r2]) (h' := hpS s1) rfl ?_
    refine Ex.i2 hq rfl (fun c => ?_) (fun c => ?_)
    · have k := k.1 c
      refine Ex.seg hq 1 (j := 9) (L' := [.ref 55, .int x1]) (S' := [.int x1]) (h' := hpS s1) rfl ?_
      refine Ex.i1 hq rfl (fun c => ?_) (fun c => ?_)
      · have k := k.1 c
        refine Ex.fg (L := [pu, pu]) ⟨Or.inr ⟨rfl, rfl⟩, ⟨Or.inr ⟨rfl, rfl⟩, trivial⟩⟩ ?_
        exact hX30  s1 k
      · have k := k.2 c
        refine Ex.seg hq 1 (j := 11) (L' := [.ref 55, .int x1]) (S' := [.ref 55]) (h' := hpS s1) rfl ?_
        refine Ex.cl hq rfl rfl ?_
        refine Rn.mono (q_209 (d := d + 0) s1 k) ?_
        rintro _ _ ⟨r4, s3, rfl, rfl, k⟩
        show Ex sc (d + 1) 212 12 [.ref 55, .int x1] [.int r4] (hpS s3) _
        refine Ex.seg hq 1 (j := 13) (L' := [.ref 55, .int x1]) (S' := [.int (2 : Int32), .int r4]) (h' := hpS s3) rfl ?_
        refine Ex.i2 hq rfl (fun c => ?_) (fun c => ?_)
        · have k := k.1 c
          refine Ex.seg hq 2 (j := 20) (L' := [.ref 55, .int x1]) (S' := [.ref 55, .ref 55]) (h' := hpS s3) rfl ?_
          refine Ex.cl hq rfl rfl ?_
          refine Rn.mono (q_209 (d := d + 0) s3 k) ?_
          rintro _ _ ⟨r6, s5, rfl, rfl, k⟩
          show Ex sc (d + 1) 212 21 [.ref 55, .int x1] [.int r6, .ref 55] (hpS s5) _
          refine Ex.seg hq 1 (j := 22) (L' := [.ref 55, .int x1]) (S' := [.int (0 : Int32), .int r6, .ref 55]) (h' := hpS s5) rfl ?_
          refine Ex.cl hq rfl rfl ?_
          refine Rn.mono (q_207 (d := d + 0) r6 (0 : Int32) s5 k) ?_
          rintro _ _ ⟨s7, rfl, rfl, k⟩
          show Ex sc (d + 1) 212 23 [.ref 55, .int x1] [] (hpS s7) _
          refine Ex.seg hq 7 (j := 0) (L' := [.ref 55, .int x1]) (S' := []) (h' := hpS (sI s7 5531 ((s7.1 5531) - (1 : Int32)))) rfl ?_
          exact ih x1 (sI s7 5531 ((s7.1 5531) - (1 : Int32))) k hX30
        · have k := k.2 c
          refine Ex.seg hq 1 (j := 15) (L' := [.ref 55, .int x1]) (S' := [.ref 55]) (h' := hpS s3) rfl ?_
          refine Ex.cl hq rfl rfl ?_
          refine Rn.mono (q_209 (d := d + 0) s3 k) ?_
          rintro _ _ ⟨r10, s9, rfl, rfl, k⟩
          show Ex sc (d + 1) 212 16 [.ref 55, .int x1] [.int r10] (hpS s9) _
          refine Ex.seg hq 1 (j := 17) (L' := [.ref 55, .int x1]) (S' := [.int (3 : Int32), .int r10]) (h' := hpS s9) rfl ?_
          refine Ex.i2 hq rfl (fun c => ?_) (fun c => ?_)
          · have k := k.1 c
            refine Ex.fg (L := [pu, pu]) ⟨Or.inr ⟨rfl, rfl⟩, ⟨Or.inr ⟨rfl, rfl⟩, trivial⟩⟩ ?_
            exact hX30  s9 k
          · have k := k.2 c
            refine Ex.seg hq 2 (j := 20) (L' := [.ref 55, .int x1]) (S' := [.ref 55, .ref 55]) (h' := hpS s9) rfl ?_
            refine Ex.cl hq rfl rfl ?_
            refine Rn.mono (q_209 (d := d + 0) s9 k) ?_
            rintro _ _ ⟨r12, s11, rfl, rfl, k⟩
            show Ex sc (d + 1) 212 21 [.ref 55, .int x1] [.int r12, .ref 55] (hpS s11) _
            refine Ex.seg hq 1 (j := 22) (L' := [.ref 55, .int x1]) (S' := [.int (0 : Int32), .int r12, .ref 55]) (h' := hpS s11) rfl ?_
            refine Ex.cl hq rfl rfl ?_
            refine Rn.mono (q_207 (d := d + 0) r12 (0 : Int32) s11 k) ?_
            rintro _ _ ⟨s13, rfl, rfl, k⟩
            show Ex sc (d + 1) 212 23 [.ref 55, .int x1] [] (hpS s13) _
            refine Ex.seg hq 7 (j := 0) (L' := [.ref 55, .int x1]) (S' := []) (h' := hpS (sI s13 5531 ((s13.1 5531) - (1 : Int32)))) rfl ?_
            exact ih x1 (sI s13 5531 ((s13.1 5531) - (1 : Int32))) k hX30
    · have k := k.2 c
      refine Ex.seg hq 1 (j := 5) (L' := [.ref 55, .int x1]) (S' := [.ref 55]) (h' := hpS s1) rfl ?_
      refine Ex.cl hq rfl rfl ?_
      refine Rn.mono (q_209 (d := d + 0) s1 k) ?_
      rintro _ _ ⟨r16, s15, rfl, rfl, k⟩
      show Ex sc (d + 1) 212 6 [.ref 55, .int x1] [.int r16] (hpS s15) _
      refine Ex.seg hq 1 (j := 7) (L' := [.ref 55, .int x1]) (S' := [.int (6 : Int32), .int r16]) (h' := hpS s15) rfl ?_
      refine Ex.i2 hq rfl (fun c => ?_) (fun c => ?_)
      · have k := k.1 c
        refine Ex.seg hq 2 (j := 20) (L' := [.ref 55, .int x1]) (S' := [.ref 55, .ref 55]) (h' := hpS s15) rfl ?_
        refine Ex.cl hq rfl rfl ?_
        refine Rn.mono (q_209 (d := d + 0) s15 k) ?_
        rintro _ _ ⟨r18, s17, rfl, rfl, k⟩
        show Ex sc (d + 1) 212 21 [.ref 55, .int x1] [.int r18, .ref 55] (hpS s17) _
        refine Ex.seg hq 1 (j := 22) (L' := [.ref 55, .int x1]) (S' := [.int (0 : Int32), .int r18, .ref 55]) (h' := hpS s17) rfl ?_
        refine Ex.cl hq rfl rfl ?_
        refine Rn.mono (q_207 (d := d + 0) r18 (0 : Int32) s17 k) ?_
        rintro _ _ ⟨s19, rfl, rfl, k⟩
        show Ex sc (d + 1) 212 23 [.ref 55, .int x1] [] (hpS s19) _
        refine Ex.seg hq 7 (j := 0) (L' := [.ref 55, .int x1]) (S' := []) (h' := hpS (sI s19 5531 ((s19.1 5531) - (1 : Int32)))) rfl ?_
        exact ih x1 (sI s19 5531 ((s19.1 5531) - (1 : Int32))) k hX30
      · have k := k.2 c
        refine Ex.seg hq 1 (j := 9) (L' := [.ref 55, .int x1]) (S' := [.int x1]) (h' := hpS s15) rfl ?_
        refine Ex.i1 hq rfl (fun c => ?_) (fun c => ?_)
        · have k := k.1 c
          refine Ex.fg (L := [pu, pu]) ⟨Or.inr ⟨rfl, rfl⟩, ⟨Or.inr ⟨rfl, rfl⟩, trivial⟩⟩ ?_
          exact hX30  s15 k
        · have k := k.2 c
          refine Ex.seg hq 1 (j := 11) (L' := [.ref 55, .int x1]) (S' := [.ref 55]) (h' := hpS s15) rfl ?_
          refine Ex.cl hq rfl rfl ?_
          refine Rn.mono (q_209 (d := d + 0) s15 k) ?_
          rintro _ _ ⟨r22, s21, rfl, rfl, k⟩
          show Ex sc (d + 1) 212 12 [.ref 55, .int x1] [.int r22] (hpS s21) _
          refine Ex.seg hq 1 (j := 13) (L' := [.ref 55, .int x1]) (S' := [.int (2 : Int32), .int r22]) (h' := hpS s21) rfl ?_
          refine Ex.i2 hq rfl (fun c => ?_) (fun c => ?_)
          · have k := k.1 c
            refine Ex.seg hq 2 (j := 20) (L' := [.ref 55, .int x1]) (S' := [.ref 55, .ref 55]) (h' := hpS s21) rfl ?_
            refine Ex.cl hq rfl rfl ?_
            refine Rn.mono (q_209 (d := d + 0) s21 k) ?_
            rintro _ _ ⟨r24, s23, rfl, rfl, k⟩
            show Ex sc (d + 1) 212 21 [.ref 55, .int x1] [.int r24, .ref 55] (hpS s23) _
            refine Ex.seg hq 1 (j := 22) (L' := [.ref 55, .int x1]) (S' := [.int (0 : Int32), .int r24, .ref 55]) (h' := hpS s23) rfl ?_
            refine Ex.cl hq rfl rfl ?_
            refine Rn.mono (q_207 (d := d + 0) r24 (0 : Int32) s23 k) ?_
            rintro _ _ ⟨s25, rfl, rfl, k⟩
            show Ex sc (d + 1) 212 23 [.ref 55, .int x1] [] (hpS s25) _
            refine Ex.seg hq 7 (j := 0) (L' := [.ref 55, .int x1]) (S' := []) (h' := hpS (sI s25 5531 ((s25.1 5531) - (1 : Int32)))) rfl ?_
            exact ih x1 (sI s25 5531 ((s25.1 5531) - (1 : Int32))) k hX30
          · have k := k.2 c
            refine Ex.seg hq 1 (j := 15) (L' := [.ref 55, .int x1]) (S' := [.ref 55]) (h' := hpS s21) rfl ?_
            refine Ex.cl hq rfl rfl ?_
            refine Rn.mono (q_209 (d := d + 0) s21 k) ?_
            rintro _ _ ⟨r28, s27, rfl, rfl, k⟩
            show Ex sc (d + 1) 212 16 [.ref 55, .int x1] [.int r28] (hpS s27) _
            refine Ex.seg hq 1 (j := 17) (L' := [.ref 55, .int x1]) (S' := [.int (3 : Int32), .int r28]) (h' := hpS s27) rfl ?_
            refine Ex.i2 hq rfl (fun c => ?_) (fun c => ?_)
            · have k := k.1 c
              refine Ex.fg (L := [pu, pu]) ⟨Or.inr ⟨rfl, rfl⟩, ⟨Or.inr ⟨rfl, rfl⟩, trivial⟩⟩ ?_
              exact hX30  s27 k
            · have k := k.2 c
              refine Ex.seg hq 2 (j := 20) (L' := [.ref 55, .int x1]) (S' := [.ref 55, .ref 55]) (h' := hpS s27) rfl ?_
              refine Ex.cl hq rfl rfl ?_
              refine Rn.mono (q_209 (d := d + 0) s27 k) ?_
              rintro _ _ ⟨r30, s29, rfl, rfl, k⟩
              show Ex sc (d + 1) 212 21 [.ref 55, .int x1] [.int r30, .ref 55] (hpS s29) _
              refine Ex.seg hq 1 (j := 22) (L' := [.ref 55, .int x1]) (S' := [.int (0 : Int32), .int r30, .ref 55]) (h' := hpS s29) rfl ?_
              refine Ex.cl hq rfl rfl ?_
              refine Rn.mono (q_207 (d := d + 0) r30 (0 : Int32) s29 k) ?_
              rintro _ _ ⟨s31, rfl, rfl, k⟩
              show Ex sc (d + 1) 212 23 [.ref 55, .int x1] [] (hpS s31) _
              refine Ex.seg hq 7 (j := 0) (L' := [.ref 55, .int x1]) (S' := []) (h' := hpS (sI s31 5531 ((s31.1 5531) - (1 : Int32)))) rfl ?_
              exact ih x1 (sI s31 5531 ((s31.1 5531) - (1 : Int32))) k hX30
/-- RowAuditorModel.closesSums(Z)V -/
def w_212 (p1 : Int32) (s : ST) (K : ST → Prop) : Prop := (∃ m, w_212_L0 m p1 s (fun s33 => K s33) K)
theorem q_212 {d : Nat} {K : ST → Prop} (p1 : Int32) (s : ST) (k : w_212 p1 s K) : Rn sc (d + 1) 212 [.ref 55, .int p1] (hpS s) (kV K) := by
  have hq : prog[212]? = some pm212 := rfl
  refine Rn.of (L := [.ref 55, .int p1]) hq rfl rfl ?_
  unfold w_212 at k
  obtain ⟨m, k⟩ := k
  refine q_212_L0 (d := d) m p1 s k ?_
  · intro s33 k
    exact Ex.rt hq rfl rfl ⟨s33, rfl, rfl, k⟩
def w_213_L0 : Nat → ST → (ST → Prop) → (ST → Prop) → (Int32 → ST → Prop) → Prop
  | 0, _, _, _, _ => False
  | n + 1, s, X10, X8, K => w_202 s (fun r2 s1 => ((¬ r2 = (91 : Int32) → X10  s1) ∧ (¬ (¬ r2 = (91 : Int32)) → w_208 (14 : Int32) s1 (fun r4 s3 => ((¬ r4 = 0 → w_213_L0 n  s3 X10 X8 K) ∧ (¬ (¬ r4 = 0) → X8  s3))))))
theorem q_213_L0 {d : Nat} {X10 : ST → Prop} {X8 : ST → Prop} {K : Int32 → ST → Prop} : ∀ (n : Nat)  (s : ST), w_213_L0 n  s X10 X8 K → (∀ (s : ST), X10  s → Ex sc (d + 3) 213 10 [.ref 55, pu] [] (hpS s) (kZ K)) → (∀ (s : ST), X8  s → Ex sc (d + 3) 213 8 [pu, pu] [] (hpS s) (kZ K)) → Ex sc (d + 3) 213 0 [.ref 55, pu] [] (hpS s) (kZ K) := by
  have hq : prog[213]? = some pm213 := rfl
  intro n
  induction n with
  | zero =>
    intro s k
    exact k.elim
  | succ n ih =>
    intro s k hX10 hX8
    rw [w_213_L0] at k
    refine Ex.seg hq 1 (j := 1) (L' := [.ref 55, pu]) (S' := [.ref 55]) (h' := hpS s) rfl ?_
    refine Ex.cl hq rfl rfl ?_
    refine Rn.mono (q_202 (d := d + 2) s k) ?_
    rintro _ _ ⟨r2, s1, rfl, rfl, k⟩
    show Ex sc (d + 3) 213 2 [.ref 55, pu] [.int r2] (hpS s1) _
    refine Ex.seg hq 1 (j := 3) (L' := [.ref 55, pu]) (S' := [.int (91 : Int32), .int r2]) (h' := hpS s1) rfl ?_
    refine Ex.i2 hq rfl (fun c => ?_) (fun c => ?_)
    · have k := k.1 c
      exact hX10  s1 k
    · have k := k.2 c
      refine Ex.seg hq 2 (j := 6) (L' := [.ref 55, pu]) (S' := [.int (14 : Int32), .ref 55]) (h' := hpS s1) rfl ?_
      refine Ex.cl hq rfl rfl ?_
      refine Rn.mono (q_208 (d := d + 1) (14 : Int32) s1 k) ?_
      rintro _ _ ⟨r4, s3, rfl, hzr4, rfl, k⟩
      show Ex sc (d + 3) 213 7 [.ref 55, pu] [.int r4] (hpS s3) _
      refine Ex.i1 hq rfl (fun c => ?_) (fun c => ?_)
      · have k := k.1 c
        exact ih  s3 k hX10 hX8
      · have k := k.2 c
        refine Ex.fg (L := [pu, pu]) ⟨Or.inr ⟨rfl, rfl⟩, ⟨Or.inl rfl, trivial⟩⟩ ?_
        exact hX8  s3 k
/-- RowAuditorModel.readsFactor()Z -/
def w_213  (s : ST) (K : Int32 → ST → Prop) : Prop := (∃ m, w_213_L0 m  s (fun s5 => w_203 s5 (fun r7 s6 => ((r7 = 0 → w_202 s6 (fun r9 s8 => w_210 r9 s8 (fun r11 s10 => ((¬ r11 = (-1 : Int32) → w_207 (1 : Int32) r11 s10 (fun s12 => K (1 : Int32) (sI s12 5526 ((s12.1 5526) + (1 : Int32))))) ∧ (¬ (¬ r11 = (-1 : Int32)) → w_204 (1 : Int32) (s10.1 5526) s10 (fun r15 s14 => K r15 s14)))))) ∧ (¬ (r7 = 0) → w_206 (9999999 : Int32) s6 (fun r17 s16 => ((¬ r17 = 0 → w_207 (0 : Int32) (s16.1 5533) s16 (fun s18 => K (1 : Int32) s18)) ∧ (¬ (¬ r17 = 0) → K (0 : Int32) s16))))))) (fun s20 => K (0 : Int32) s20) K)
theorem q_213 {d : Nat} {K : Int32 → ST → Prop}  (s : ST) (k : w_213  s K) : Rn sc (d + 3) 213 [.ref 55] (hpS s) (kZ K) := by
  have hq : prog[213]? = some pm213 := rfl
  refine Rn.of (L := [.ref 55, pu]) hq rfl rfl ?_
  unfold w_213 at k
  obtain ⟨m, k⟩ := k
  refine q_213_L0 (d := d) m  s k ?_ ?_
  · intro s5 k
    refine Ex.seg hq 1 (j := 11) (L' := [.ref 55, pu]) (S' := [.ref 55]) (h' := hpS s5) rfl ?_
    refine Ex.cl hq rfl rfl ?_
    refine Rn.mono (q_203 (d := d + 1) s5 k) ?_
    rintro _ _ ⟨r7, s6, rfl, hzr7, rfl, k⟩
    show Ex sc (d + 3) 213 12 [.ref 55, pu] [.int r7] (hpS s6) _
    refine Ex.i1 hq rfl (fun c => ?_) (fun c => ?_)
    · have k := k.1 c
      refine Ex.seg hq 1 (j := 27) (L' := [.ref 55, pu]) (S' := [.ref 55]) (h' := hpS s6) rfl ?_
      refine Ex.cl hq rfl rfl ?_
      refine Rn.mono (q_202 (d := d + 2) s6 k) ?_
      rintro _ _ ⟨r9, s8, rfl, rfl, k⟩
      show Ex sc (d + 3) 213 28 [.ref 55, pu] [.int r9] (hpS s8) _
      refine Ex.cl hq rfl rfl ?_
      refine Rn.mono (q_210 (d := d + 2) r9 s8 k) ?_
      rintro _ _ ⟨r11, s10, rfl, rfl, k⟩
      show Ex sc (d + 3) 213 29 [.ref 55, pu] [.int r11] (hpS s10) _
      refine Ex.seg hq 3 (j := 32) (L' := [.ref 55, .int r11]) (S' := [.int (-1 : Int32), .int r11]) (h' := hpS s10) rfl ?_
      refine Ex.i2 hq rfl (fun c => ?_) (fun c => ?_)
      · have k := k.1 c
        refine Ex.seg hq 3 (j := 42) (L' := [.ref 55, .int r11]) (S' := [.int r11, .int (1 : Int32), .ref 55]) (h' := hpS s10) rfl ?_
        refine Ex.cl hq rfl rfl ?_
        refine Rn.mono (q_207 (d := d + 2) (1 : Int32) r11 s10 k) ?_
        rintro _ _ ⟨s12, rfl, rfl, k⟩
        show Ex sc (d + 3) 213 43 [.ref 55, .int r11] [] (hpS s12) _
        refine Ex.seg hq 7 (j := 50) (L' := [.ref 55, .int r11]) (S' := [.int (1 : Int32)]) (h' := hpS (sI s12 5526 ((s12.1 5526) + (1 : Int32)))) rfl ?_
        exact Ex.zr hq rfl rfl (Or.inr rfl) ⟨(1 : Int32), (sI s12 5526 ((s12.1 5526) + (1 : Int32))), rfl, (Or.inr rfl), rfl, k⟩
      · have k := k.2 c
        refine Ex.seg hq 4 (j := 37) (L' := [.ref 55, .int r11]) (S' := [.int (s10.1 5526), .int (1 : Int32), .ref 55]) (h' := hpS s10) rfl ?_
        refine Ex.cl hq rfl rfl ?_
        refine Rn.mono (q_204 (d := d + 2) (1 : Int32) (s10.1 5526) s10 k) ?_
        rintro _ _ ⟨r15, s14, rfl, hzr15, rfl, k⟩
        show Ex sc (d + 3) 213 38 [.ref 55, .int r11] [.int r15] (hpS s14) _
        exact Ex.zr hq rfl rfl hzr15 ⟨r15, s14, rfl, hzr15, rfl, k⟩
    · have k := k.2 c
      refine Ex.seg hq 2 (j := 15) (L' := [.ref 55, pu]) (S' := [.int (9999999 : Int32), .ref 55]) (h' := hpS s6) rfl ?_
      refine Ex.cl hq rfl rfl ?_
      refine Rn.mono (q_206 (d := d + 0) (9999999 : Int32) s6 k) ?_
      rintro _ _ ⟨r17, s16, rfl, hzr17, rfl, k⟩
      show Ex sc (d + 3) 213 16 [.ref 55, pu] [.int r17] (hpS s16) _
      refine Ex.i1 hq rfl (fun c => ?_) (fun c => ?_)
      · have k := k.1 c
        refine Ex.seg hq 4 (j := 23) (L' := [.ref 55, pu]) (S' := [.int (s16.1 5533), .int (0 : Int32), .ref 55]) (h' := hpS s16) rfl ?_
        refine Ex.cl hq rfl rfl ?_
        refine Rn.mono (q_207 (d := d + 2) (0 : Int32) (s16.1 5533) s16 k) ?_
        rintro _ _ ⟨s18, rfl, rfl, k⟩
        show Ex sc (d + 3) 213 24 [.ref 55, pu] [] (hpS s18) _
        refine Ex.seg hq 1 (j := 25) (L' := [.ref 55, pu]) (S' := [.int (1 : Int32)]) (h' := hpS s18) rfl ?_
        exact Ex.zr hq rfl rfl (Or.inr rfl) ⟨(1 : Int32), s18, rfl, (Or.inr rfl), rfl, k⟩
      · have k := k.2 c
        refine Ex.seg hq 1 (j := 18) (L' := [.ref 55, pu]) (S' := [.int (0 : Int32)]) (h' := hpS s16) rfl ?_
        exact Ex.zr hq rfl rfl (Or.inl rfl) ⟨(0 : Int32), s16, rfl, (Or.inl rfl), rfl, k⟩
  · intro s20 k
    refine Ex.seg hq 1 (j := 9) (L' := [pu, pu]) (S' := [.int (0 : Int32)]) (h' := hpS s20) rfl ?_
    exact Ex.zr hq rfl rfl (Or.inl rfl) ⟨(0 : Int32), s20, rfl, (Or.inl rfl), rfl, k⟩
def w_214_L2 : Nat → Int32 → ST → (ST → Prop) → (ST → Prop) → (Int32 → ST → Prop) → Prop
  | 0, _, _, _, _, _ => False
  | n + 1, x2, s, X18, X14, K => (((s.1 5531) ≤ x2 → X18  s) ∧ (¬ ((s.1 5531) ≤ x2) → (pin x2 180 = true ∧ (¬ (16777216 : Int32) = 0 ∧ ((¬ (((s.2.1 77) (x2).toNatClampNeg) / (16777216 : Int32)) = (14 : Int32) → w_214_L2 n (x2 + (1 : Int32)) s X18 X14 K) ∧ (¬ (¬ (((s.2.1 77) (x2).toNatClampNeg) / (16777216 : Int32)) = (14 : Int32)) → X14  s))))))
theorem q_214_L2 {d : Nat} {X18 : ST → Prop} {X14 : ST → Prop} {K : Int32 → ST → Prop} : ∀ (n : Nat) (x2 : Int32) (s : ST), w_214_L2 n x2 s X18 X14 K → (∀ (s : ST), X18  s → Ex sc (d + 0) 214 18 [pu, pu, pu] [] (hpS s) (kZ K)) → (∀ (s : ST), X14  s → Ex sc (d + 0) 214 14 [pu, pu, pu] [] (hpS s) (kZ K)) → Ex sc (d + 0) 214 2 [.ref 55, pu, .int x2] [] (hpS s) (kZ K) := by
  have hq : prog[214]? = some pm214 := rfl
  intro n
  induction n with
  | zero =>
    intro x2 s k
    exact k.elim
  | succ n ih =>
    intro x2 s k hX18 hX14
    rw [w_214_L2] at k
    refine Ex.seg hq 3 (j := 5) (L' := [.ref 55, pu, .int x2]) (S' := [.int (s.1 5531), .int x2]) (h' := hpS s) rfl ?_
    refine Ex.i2 hq rfl (fun c => ?_) (fun c => ?_)
    · have k := k.1 c
      refine Ex.fg (L := [pu, pu, pu]) ⟨Or.inr ⟨rfl, rfl⟩, ⟨Or.inl rfl, ⟨Or.inr ⟨rfl, rfl⟩, trivial⟩⟩⟩ ?_
      exact hX18  s k
    · have k := k.2 c
      refine Ex.seg hq 3 (j := 9) (L' := [.ref 55, pu, .int x2]) (S' := [.int x2, .ref 77]) (h' := hpS s) rfl ?_
      obtain ⟨hin, k⟩ := k
      refine Ex.ial hq rfl rfl hin ?_
      refine Ex.seg hq 1 (j := 11) (L' := [.ref 55, pu, .int x2]) (S' := [.int (16777216 : Int32), .int ((s.2.1 77) (x2).toNatClampNeg)]) (h' := hpS s) rfl ?_
      obtain ⟨hz, k⟩ := k
      refine Ex.dv hq rfl hz ?_
      refine Ex.seg hq 1 (j := 13) (L' := [.ref 55, pu, .int x2]) (S' := [.int (14 : Int32), .int (((s.2.1 77) (x2).toNatClampNeg) / (16777216 : Int32))]) (h' := hpS s) rfl ?_
      refine Ex.i2 hq rfl (fun c => ?_) (fun c => ?_)
      · have k := k.1 c
        refine Ex.seg hq 2 (j := 2) (L' := [.ref 55, pu, .int (x2 + (1 : Int32))]) (S' := []) (h' := hpS s) rfl ?_
        exact ih (x2 + (1 : Int32)) s k hX18 hX14
      · have k := k.2 c
        refine Ex.fg (L := [pu, pu, pu]) ⟨Or.inr ⟨rfl, rfl⟩, ⟨Or.inl rfl, ⟨Or.inr ⟨rfl, rfl⟩, trivial⟩⟩⟩ ?_
        exact hX14  s k
/-- RowAuditorModel.hasOpenSum(I)Z -/
def w_214 (p1 : Int32) (s : ST) (K : Int32 → ST → Prop) : Prop := (∃ m, w_214_L2 m p1 s (fun s1 => K (0 : Int32) s1) (fun s2 => K (1 : Int32) s2) K)
theorem q_214 {d : Nat} {K : Int32 → ST → Prop} (p1 : Int32) (s : ST) (k : w_214 p1 s K) : Rn sc (d + 0) 214 [.ref 55, .int p1] (hpS s) (kZ K) := by
  have hq : prog[214]? = some pm214 := rfl
  refine Rn.of (L := [.ref 55, .int p1, pu]) hq rfl rfl ?_
  unfold w_214 at k
  refine Ex.seg hq 2 (j := 2) (L' := [.ref 55, .int p1, .int p1]) (S' := []) (h' := hpS s) rfl ?_
  obtain ⟨m, k⟩ := k
  refine Ex.fg (L := [.ref 55, pu, .int p1]) ⟨Or.inl rfl, ⟨Or.inr ⟨rfl, rfl⟩, ⟨Or.inl rfl, trivial⟩⟩⟩ ?_
  refine q_214_L2 (d := d) m p1 s k ?_ ?_
  · intro s1 k
    refine Ex.seg hq 1 (j := 19) (L' := [pu, pu, pu]) (S' := [.int (0 : Int32)]) (h' := hpS s1) rfl ?_
    exact Ex.zr hq rfl rfl (Or.inl rfl) ⟨(0 : Int32), s1, rfl, (Or.inl rfl), rfl, k⟩
  · intro s2 k
    refine Ex.seg hq 1 (j := 15) (L' := [pu, pu, pu]) (S' := [.int (1 : Int32)]) (h' := hpS s2) rfl ?_
    exact Ex.zr hq rfl rfl (Or.inr rfl) ⟨(1 : Int32), s2, rfl, (Or.inr rfl), rfl, k⟩
def w_215_L8 : Nat → Int32 → ST → (Int32 → ST → Prop) → (ST → Prop) → (Int32 → ST → Prop) → Prop
  | 0, _, _, _, _, _ => False
  | n + 1, x1, s, X78, X46, K => w_202 s (fun r4 s3 => w_211 r4 s3 (fun r6 s5 => ((r6 = (-1 : Int32) → w_202 s5 (fun r8 s7 => ((¬ r8 = (93 : Int32) → X78 x1 s7) ∧ (¬ (¬ r8 = (93 : Int32)) → w_214 x1 s7 (fun r10 s9 => ((r10 = 0 → X78 x1 s9) ∧ (¬ (r10 = 0) → w_212 (1 : Int32) s9 (fun s11 => w_215_L8 n x1 (sI (sI (sI s11 5531 ((s11.1 5531) - (1 : Int32))) 5529 ((s11.1 5529) - (1 : Int32))) 5526 ((s11.1 5526) + (1 : Int32))) X78 X46 K)))))))) ∧ (¬ (r6 = (-1 : Int32)) → (((4 : Int32) ≤ r6 → w_212 (0 : Int32) s5 (fun s13 => (pin (s13.1 5531) 180 = true ∧ w_213 (sA (sI (sI s13 5531 ((s13.1 5531) + (1 : Int32))) 5526 ((s13.1 5526) + (1 : Int32))) 77 (upd (s13.2.1 77) ((s13.1 5531)).toNatClampNeg ((16777216 : Int32) * r6))) (fun r16 s15 => ((¬ r16 = 0 → w_215_L8 n x1 s15 X78 X46 K) ∧ (¬ (¬ r16 = 0) → X46  s15)))))) ∧ (¬ ((4 : Int32) ≤ r6) → w_212 (1 : Int32) s5 (fun s17 => (pin (s17.1 5531) 180 = true ∧ w_213 (sA (sI (sI s17 5531 ((s17.1 5531) + (1 : Int32))) 5526 ((s17.1 5526) + (1 : Int32))) 77 (upd (s17.2.1 77) ((s17.1 5531)).toNatClampNeg ((16777216 : Int32) * r6))) (fun r20 s19 => ((¬ r20 = 0 → w_215_L8 n x1 s19 X78 X46 K) ∧ (¬ (¬ r20 = 0) → X46  s19)))))))))))
theorem q_215_L8 {d : Nat} {X78 : Int32 → ST → Prop} {X46 : ST → Prop} {K : Int32 → ST → Prop} : ∀ (n : Nat) (x1 : Int32) (s : ST), w_215_L8 n x1 s X78 X46 K → (∀ (y1 : Int32) (s : ST), X78 y1 s → Ex sc (d + 4) 215 78 [.ref 55, .int y1, pu] [] (hpS s) (kZ K)) → (∀ (s : ST), X46  s → Ex sc (d + 4) 215 46 [pu, pu, pu] [] (hpS s) (kZ K)) → Ex sc (d + 4) 215 8 [.ref 55, .int x1, pu] [] (hpS s) (kZ K) := by
  have hq : prog[215]? = some pm215 := rfl
  intro n
  induction n with
  | zero =>
    intro x1 s k
    exact k.elim
  | succ n ih =>
    intro x1 s k hX78 hX46
    rw [w_215_L8] at k
    refine Ex.seg hq 1 (j := 9) (L' := [.ref 55, .int x1, pu]) (S' := [.ref 55]) (h' := hpS s) rfl ?_
    refine Ex.cl hq rfl rfl ?_
    refine Rn.mono (q_202 (d := d + 3) s k) ?_
    rintro _ _ ⟨r4, s3, rfl, rfl, k⟩
    show Ex sc (d + 4) 215 10 [.ref 55, .int x1, pu] [.int r4] (hpS s3) _
    refine Ex.cl hq rfl rfl ?_
    refine Rn.mono (q_211 (d := d + 3) r4 s3 k) ?_
    rintro _ _ ⟨r6, s5, rfl, rfl, k⟩
    show Ex sc (d + 4) 215 11 [.ref 55, .int x1, pu] [.int r6] (hpS s5) _
    refine Ex.seg hq 3 (j := 14) (L' := [.ref 55, .int x1, .int r6]) (S' := [.int (-1 : Int32), .int r6]) (h' := hpS s5) rfl ?_
    refine Ex.i2 hq rfl (fun c => ?_) (fun c => ?_)
    · have k := k.1 c
      refine Ex.seg hq 1 (j := 49) (L' := [.ref 55, .int x1, .int r6]) (S' := [.ref 55]) (h' := hpS s5) rfl ?_
      refine Ex.cl hq rfl rfl ?_
      refine Rn.mono (q_202 (d := d + 3) s5 k) ?_
      rintro _ _ ⟨r8, s7, rfl, rfl, k⟩
      show Ex sc (d + 4) 215 50 [.ref 55, .int x1, .int r6] [.int r8] (hpS s7) _
      refine Ex.seg hq 1 (j := 51) (L' := [.ref 55, .int x1, .int r6]) (S' := [.int (93 : Int32), .int r8]) (h' := hpS s7) rfl ?_
      refine Ex.i2 hq rfl (fun c => ?_) (fun c => ?_)
      · have k := k.1 c
        refine Ex.fg (L := [.ref 55, .int x1, pu]) ⟨Or.inl rfl, ⟨Or.inl rfl, ⟨Or.inr ⟨rfl, rfl⟩, trivial⟩⟩⟩ ?_
        exact hX78 x1 s7 k
      · have k := k.2 c
        refine Ex.seg hq 2 (j := 54) (L' := [.ref 55, .int x1, .int r6]) (S' := [.int x1, .ref 55]) (h' := hpS s7) rfl ?_
        refine Ex.cl hq rfl rfl ?_
        refine Rn.mono (q_214 (d := d + 3) x1 s7 k) ?_
        rintro _ _ ⟨r10, s9, rfl, hzr10, rfl, k⟩
        show Ex sc (d + 4) 215 55 [.ref 55, .int x1, .int r6] [.int r10] (hpS s9) _
        refine Ex.i1 hq rfl (fun c => ?_) (fun c => ?_)
        · have k := k.1 c
          refine Ex.fg (L := [.ref 55, .int x1, pu]) ⟨Or.inl rfl, ⟨Or.inl rfl, ⟨Or.inr ⟨rfl, rfl⟩, trivial⟩⟩⟩ ?_
          exact hX78 x1 s9 k
        · have k := k.2 c
          refine Ex.seg hq 2 (j := 58) (L' := [.ref 55, .int x1, .int r6]) (S' := [.int (1 : Int32), .ref 55]) (h' := hpS s9) rfl ?_
          refine Ex.cl hq rfl rfl ?_
          refine Rn.mono (q_212 (d := d + 2) (1 : Int32) s9 k) ?_
          rintro _ _ ⟨s11, rfl, rfl, k⟩
          show Ex sc (d + 4) 215 59 [.ref 55, .int x1, .int r6] [] (hpS s11) _
          refine Ex.seg hq 20 (j := 8) (L' := [.ref 55, .int x1, .int r6]) (S' := []) (h' := hpS (sI (sI (sI s11 5531 ((s11.1 5531) - (1 : Int32))) 5529 ((s11.1 5529) - (1 : Int32))) 5526 ((s11.1 5526) + (1 : Int32)))) rfl ?_
          refine Ex.fg (L := [.ref 55, .int x1, pu]) ⟨Or.inl rfl, ⟨Or.inl rfl, ⟨Or.inr ⟨rfl, rfl⟩, trivial⟩⟩⟩ ?_
          exact ih x1 (sI (sI (sI s11 5531 ((s11.1 5531) - (1 : Int32))) 5529 ((s11.1 5529) - (1 : Int32))) 5526 ((s11.1 5526) + (1 : Int32))) k hX78 hX46
    · have k := k.2 c
      refine Ex.seg hq 3 (j := 18) (L' := [.ref 55, .int x1, .int r6]) (S' := [.int (4 : Int32), .int r6, .ref 55]) (h' := hpS s5) rfl ?_
      refine Ex.i2 hq rfl (fun c => ?_) (fun c => ?_)
      · have k := k.1 c
        refine Ex.seg hq 1 (j := 22) (L' := [.ref 55, .int x1, .int r6]) (S' := [.int (0 : Int32), .ref 55]) (h' := hpS s5) rfl ?_
        refine Ex.cl hq rfl rfl ?_
        refine Rn.mono (q_212 (d := d + 2) (0 : Int32) s5 k) ?_
        rintro _ _ ⟨s13, rfl, rfl, k⟩
        show Ex sc (d + 4) 215 23 [.ref 55, .int x1, .int r6] [] (hpS s13) _
        refine Ex.seg hq 7 (j := 30) (L' := [.ref 55, .int x1, .int r6]) (S' := [.int ((16777216 : Int32) * r6), .int (s13.1 5531), .ref 77]) (h' := hpS s13) rfl ?_
        obtain ⟨hin, k⟩ := k
        refine Ex.ias hq rfl rfl hin (h' := hpS (sA s13 77 (upd (s13.2.1 77) ((s13.1 5531)).toNatClampNeg ((16777216 : Int32) * r6)))) (hset_77 _ _) ?_
        refine Ex.seg hq 13 (j := 44) (L' := [.ref 55, .int x1, .int r6]) (S' := [.ref 55]) (h' := hpS (sA (sI (sI s13 5531 ((s13.1 5531) + (1 : Int32))) 5526 ((s13.1 5526) + (1 : Int32))) 77 (upd (s13.2.1 77) ((s13.1 5531)).toNatClampNeg ((16777216 : Int32) * r6)))) rfl ?_
        refine Ex.cl hq rfl rfl ?_
        refine Rn.mono (q_213 (d := d + 0) (sA (sI (sI s13 5531 ((s13.1 5531) + (1 : Int32))) 5526 ((s13.1 5526) + (1 : Int32))) 77 (upd (s13.2.1 77) ((s13.1 5531)).toNatClampNeg ((16777216 : Int32) * r6))) k) ?_
        rintro _ _ ⟨r16, s15, rfl, hzr16, rfl, k⟩
        show Ex sc (d + 4) 215 45 [.ref 55, .int x1, .int r6] [.int r16] (hpS s15) _
        refine Ex.i1 hq rfl (fun c => ?_) (fun c => ?_)
        · have k := k.1 c
          refine Ex.seg hq 1 (j := 8) (L' := [.ref 55, .int x1, .int r6]) (S' := []) (h' := hpS s15) rfl ?_
          refine Ex.fg (L := [.ref 55, .int x1, pu]) ⟨Or.inl rfl, ⟨Or.inl rfl, ⟨Or.inr ⟨rfl, rfl⟩, trivial⟩⟩⟩ ?_
          exact ih x1 s15 k hX78 hX46
        · have k := k.2 c
          refine Ex.fg (L := [pu, pu, pu]) ⟨Or.inr ⟨rfl, rfl⟩, ⟨Or.inr ⟨rfl, rfl⟩, ⟨Or.inr ⟨rfl, rfl⟩, trivial⟩⟩⟩ ?_
          exact hX46  s15 k
      · have k := k.2 c
        refine Ex.seg hq 2 (j := 22) (L' := [.ref 55, .int x1, .int r6]) (S' := [.int (1 : Int32), .ref 55]) (h' := hpS s5) rfl ?_
        refine Ex.cl hq rfl rfl ?_
        refine Rn.mono (q_212 (d := d + 2) (1 : Int32) s5 k) ?_
        rintro _ _ ⟨s17, rfl, rfl, k⟩
        show Ex sc (d + 4) 215 23 [.ref 55, .int x1, .int r6] [] (hpS s17) _
        refine Ex.seg hq 7 (j := 30) (L' := [.ref 55, .int x1, .int r6]) (S' := [.int ((16777216 : Int32) * r6), .int (s17.1 5531), .ref 77]) (h' := hpS s17) rfl ?_
        obtain ⟨hin, k⟩ := k
        refine Ex.ias hq rfl rfl hin (h' := hpS (sA s17 77 (upd (s17.2.1 77) ((s17.1 5531)).toNatClampNeg ((16777216 : Int32) * r6)))) (hset_77 _ _) ?_
        refine Ex.seg hq 13 (j := 44) (L' := [.ref 55, .int x1, .int r6]) (S' := [.ref 55]) (h' := hpS (sA (sI (sI s17 5531 ((s17.1 5531) + (1 : Int32))) 5526 ((s17.1 5526) + (1 : Int32))) 77 (upd (s17.2.1 77) ((s17.1 5531)).toNatClampNeg ((16777216 : Int32) * r6)))) rfl ?_
        refine Ex.cl hq rfl rfl ?_
        refine Rn.mono (q_213 (d := d + 0) (sA (sI (sI s17 5531 ((s17.1 5531) + (1 : Int32))) 5526 ((s17.1 5526) + (1 : Int32))) 77 (upd (s17.2.1 77) ((s17.1 5531)).toNatClampNeg ((16777216 : Int32) * r6))) k) ?_
        rintro _ _ ⟨r20, s19, rfl, hzr20, rfl, k⟩
        show Ex sc (d + 4) 215 45 [.ref 55, .int x1, .int r6] [.int r20] (hpS s19) _
        refine Ex.i1 hq rfl (fun c => ?_) (fun c => ?_)
        · have k := k.1 c
          refine Ex.seg hq 1 (j := 8) (L' := [.ref 55, .int x1, .int r6]) (S' := []) (h' := hpS s19) rfl ?_
          refine Ex.fg (L := [.ref 55, .int x1, pu]) ⟨Or.inl rfl, ⟨Or.inl rfl, ⟨Or.inr ⟨rfl, rfl⟩, trivial⟩⟩⟩ ?_
          exact ih x1 s19 k hX78 hX46
        · have k := k.2 c
          refine Ex.fg (L := [pu, pu, pu]) ⟨Or.inr ⟨rfl, rfl⟩, ⟨Or.inr ⟨rfl, rfl⟩, ⟨Or.inr ⟨rfl, rfl⟩, trivial⟩⟩⟩ ?_
          exact hX46  s19 k
/-- RowAuditorModel.readsSum()Z -/
def w_215  (s : ST) (K : Int32 → ST → Prop) : Prop := w_213 s (fun r2 s1 => ((¬ r2 = 0 → (∃ m, w_215_L8 m (s.1 5531) s1 (fun y1 s21 => w_214 y1 s21 (fun r23 s22 => ((r23 = 0 → w_212 (1 : Int32) s22 (fun s24 => K (1 : Int32) s24)) ∧ (¬ (r23 = 0) → w_204 (1 : Int32) (s22.1 5526) s22 (fun r27 s26 => K r27 s26))))) (fun s28 => K (0 : Int32) s28) K)) ∧ (¬ (¬ r2 = 0) → K (0 : Int32) s1)))
theorem q_215 {d : Nat} {K : Int32 → ST → Prop}  (s : ST) (k : w_215  s K) : Rn sc (d + 4) 215 [.ref 55] (hpS s) (kZ K) := by
  have hq : prog[215]? = some pm215 := rfl
  refine Rn.of (L := [.ref 55, pu, pu]) hq rfl rfl ?_
  unfold w_215 at k
  refine Ex.seg hq 4 (j := 4) (L' := [.ref 55, .int (s.1 5531), pu]) (S' := [.ref 55]) (h' := hpS s) rfl ?_
  refine Ex.cl hq rfl rfl ?_
  refine Rn.mono (q_213 (d := d + 0) s k) ?_
  rintro _ _ ⟨r2, s1, rfl, hzr2, rfl, k⟩
  show Ex sc (d + 4) 215 5 [.ref 55, .int (s.1 5531), pu] [.int r2] (hpS s1) _
  refine Ex.i1 hq rfl (fun c => ?_) (fun c => ?_)
  · have k := k.1 c
    obtain ⟨m, k⟩ := k
    refine q_215_L8 (d := d) m (s.1 5531) s1 k ?_ ?_
    · intro y1 s21 k
      refine Ex.seg hq 2 (j := 80) (L' := [.ref 55, .int y1, pu]) (S' := [.int y1, .ref 55]) (h' := hpS s21) rfl ?_
      refine Ex.cl hq rfl rfl ?_
      refine Rn.mono (q_214 (d := d + 3) y1 s21 k) ?_
      rintro _ _ ⟨r23, s22, rfl, hzr23, rfl, k⟩
      show Ex sc (d + 4) 215 81 [.ref 55, .int y1, pu] [.int r23] (hpS s22) _
      refine Ex.i1 hq rfl (fun c => ?_) (fun c => ?_)
      · have k := k.1 c
        refine Ex.seg hq 2 (j := 90) (L' := [.ref 55, .int y1, pu]) (S' := [.int (1 : Int32), .ref 55]) (h' := hpS s22) rfl ?_
        refine Ex.cl hq rfl rfl ?_
        refine Rn.mono (q_212 (d := d + 2) (1 : Int32) s22 k) ?_
        rintro _ _ ⟨s24, rfl, rfl, k⟩
        show Ex sc (d + 4) 215 91 [.ref 55, .int y1, pu] [] (hpS s24) _
        refine Ex.seg hq 1 (j := 92) (L' := [.ref 55, .int y1, pu]) (S' := [.int (1 : Int32)]) (h' := hpS s24) rfl ?_
        exact Ex.zr hq rfl rfl (Or.inr rfl) ⟨(1 : Int32), s24, rfl, (Or.inr rfl), rfl, k⟩
      · have k := k.2 c
        refine Ex.seg hq 4 (j := 86) (L' := [.ref 55, .int y1, pu]) (S' := [.int (s22.1 5526), .int (1 : Int32), .ref 55]) (h' := hpS s22) rfl ?_
        refine Ex.cl hq rfl rfl ?_
        refine Rn.mono (q_204 (d := d + 3) (1 : Int32) (s22.1 5526) s22 k) ?_
        rintro _ _ ⟨r27, s26, rfl, hzr27, rfl, k⟩
        show Ex sc (d + 4) 215 87 [.ref 55, .int y1, pu] [.int r27] (hpS s26) _
        exact Ex.zr hq rfl rfl hzr27 ⟨r27, s26, rfl, hzr27, rfl, k⟩
    · intro s28 k
      refine Ex.seg hq 1 (j := 47) (L' := [pu, pu, pu]) (S' := [.int (0 : Int32)]) (h' := hpS s28) rfl ?_
      exact Ex.zr hq rfl rfl (Or.inl rfl) ⟨(0 : Int32), s28, rfl, (Or.inl rfl), rfl, k⟩
  · have k := k.2 c
    refine Ex.seg hq 1 (j := 7) (L' := [.ref 55, .int (s.1 5531), pu]) (S' := [.int (0 : Int32)]) (h' := hpS s1) rfl ?_
    exact Ex.zr hq rfl rfl (Or.inl rfl) ⟨(0 : Int32), s1, rfl, (Or.inl rfl), rfl, k⟩
def w_216_L0 : Nat → ST → (ST → Prop) → (ST → Prop) → Prop
  | 0, _, _, _ => False
  | n + 1, s, X21, K => w_209 s (fun r2 s1 => ((¬ r2 = (10 : Int32) → X21  s1) ∧ (¬ (¬ r2 = (10 : Int32)) → w_207 (10 : Int32) (0 : Int32) s1 (fun s3 => w_216_L0 n  (sI (sI s3 5531 ((s3.1 5531) - (1 : Int32))) 5529 ((s3.1 5529) - (1 : Int32))) X21 K))))
theorem q_216_L0 {d : Nat} {X21 : ST → Prop} {K : ST → Prop} : ∀ (n : Nat)  (s : ST), w_216_L0 n  s X21 K → (∀ (s : ST), X21  s → Ex sc (d + 1) 216 21 [pu] [] (hpS s) (kV K)) → Ex sc (d + 1) 216 0 [.ref 55] [] (hpS s) (kV K) := by
  have hq : prog[216]? = some pm216 := rfl
  intro n
  induction n with
  | zero =>
    intro s k
    exact k.elim
  | succ n ih =>
    intro s k hX21
    rw [w_216_L0] at k
    refine Ex.seg hq 1 (j := 1) (L' := [.ref 55]) (S' := [.ref 55]) (h' := hpS s) rfl ?_
    refine Ex.cl hq rfl rfl ?_
    refine Rn.mono (q_209 (d := d + 0) s k) ?_
    rintro _ _ ⟨r2, s1, rfl, rfl, k⟩
    show Ex sc (d + 1) 216 2 [.ref 55] [.int r2] (hpS s1) _
    refine Ex.seg hq 1 (j := 3) (L' := [.ref 55]) (S' := [.int (10 : Int32), .int r2]) (h' := hpS s1) rfl ?_
    refine Ex.i2 hq rfl (fun c => ?_) (fun c => ?_)
    · have k := k.1 c
      refine Ex.fg (L := [pu]) ⟨Or.inr ⟨rfl, rfl⟩, trivial⟩ ?_
      exact hX21  s1 k
    · have k := k.2 c
      refine Ex.seg hq 3 (j := 7) (L' := [.ref 55]) (S' := [.int (0 : Int32), .int (10 : Int32), .ref 55]) (h' := hpS s1) rfl ?_
      refine Ex.cl hq rfl rfl ?_
      refine Rn.mono (q_207 (d := d + 0) (10 : Int32) (0 : Int32) s1 k) ?_
      rintro _ _ ⟨s3, rfl, rfl, k⟩
      show Ex sc (d + 1) 216 8 [.ref 55] [] (hpS s3) _
      refine Ex.seg hq 13 (j := 0) (L' := [.ref 55]) (S' := []) (h' := hpS (sI (sI s3 5531 ((s3.1 5531) - (1 : Int32))) 5529 ((s3.1 5529) - (1 : Int32)))) rfl ?_
      exact ih  (sI (sI s3 5531 ((s3.1 5531) - (1 : Int32))) 5529 ((s3.1 5529) - (1 : Int32))) k hX21
/-- RowAuditorModel.endsPiece()V -/
def w_216  (s : ST) (K : ST → Prop) : Prop := (∃ m, w_216_L0 m  s (fun s5 => K s5) K)
theorem q_216 {d : Nat} {K : ST → Prop}  (s : ST) (k : w_216  s K) : Rn sc (d + 1) 216 [.ref 55] (hpS s) (kV K) := by
  have hq : prog[216]? = some pm216 := rfl
  refine Rn.of (L := [.ref 55]) hq rfl rfl ?_
  unfold w_216 at k
  obtain ⟨m, k⟩ := k
  refine q_216_L0 (d := d) m  s k ?_
  · intro s5 k
    exact Ex.rt hq rfl rfl ⟨s5, rfl, rfl, k⟩
def w_217_L0 : Nat → Int32 → ST → (ST → Prop) → (ST → Prop) → Prop
  | 0, _, _, _, _ => False
  | n + 1, x1, s, X42, K => w_209 s (fun r2 s1 => ((r2 = (11 : Int32) → (pin ((s1.1 5531) - (1 : Int32)) 180 = true ∧ (¬ (16777216 : Int32) = 0 ∧ (pin (((s1.2.1 77) (((s1.1 5531) - (1 : Int32))).toNatClampNeg) - ((s1.2.1 77) (((s1.1 5531) - (1 : Int32))).toNatClampNeg) / (16777216 : Int32) * (16777216 : Int32)) 180 = true ∧ (¬ (16777216 : Int32) = 0 ∧ (pin (((s1.2.1 77) (((s1.1 5531) - (1 : Int32))).toNatClampNeg) - ((s1.2.1 77) (((s1.1 5531) - (1 : Int32))).toNatClampNeg) / (16777216 : Int32) * (16777216 : Int32)) 180 = true ∧ w_217_L0 n x1 (sA (sI s1 5531 ((s1.1 5531) - (1 : Int32))) 76 (upd (s1.2.1 76) ((((s1.2.1 77) (((s1.1 5531) - (1 : Int32))).toNatClampNeg) - ((s1.2.1 77) (((s1.1 5531) - (1 : Int32))).toNatClampNeg) / (16777216 : Int32) * (16777216 : Int32))).toNatClampNeg (((16777216 : Int32) * (((s1.2.1 76) ((((s1.2.1 77) (((s1.1 5531) - (1 : Int32))).toNatClampNeg) - ((s1.2.1 77) (((s1.1 5531) - (1 : Int32))).toNatClampNeg) / (16777216 : Int32) * (16777216 : Int32))).toNatClampNeg) / (16777216 : Int32))) + (s1.1 5530)))) X42 K)))))) ∧ (¬ (r2 = (11 : Int32)) → ((x1 = 0 → X42  s1) ∧ (¬ (x1 = 0) → w_209 s1 (fun r4 s3 => ((¬ r4 = (12 : Int32) → X42  s3) ∧ (¬ (¬ r4 = (12 : Int32)) → (pin ((s3.1 5531) - (1 : Int32)) 180 = true ∧ (¬ (16777216 : Int32) = 0 ∧ (pin (((s3.2.1 77) (((s3.1 5531) - (1 : Int32))).toNatClampNeg) - ((s3.2.1 77) (((s3.1 5531) - (1 : Int32))).toNatClampNeg) / (16777216 : Int32) * (16777216 : Int32)) 180 = true ∧ (¬ (16777216 : Int32) = 0 ∧ (pin (((s3.2.1 77) (((s3.1 5531) - (1 : Int32))).toNatClampNeg) - ((s3.2.1 77) (((s3.1 5531) - (1 : Int32))).toNatClampNeg) / (16777216 : Int32) * (16777216 : Int32)) 180 = true ∧ w_217_L0 n x1 (sA (sI s3 5531 ((s3.1 5531) - (1 : Int32))) 76 (upd (s3.2.1 76) ((((s3.2.1 77) (((s3.1 5531) - (1 : Int32))).toNatClampNeg) - ((s3.2.1 77) (((s3.1 5531) - (1 : Int32))).toNatClampNeg) / (16777216 : Int32) * (16777216 : Int32))).toNatClampNeg (((16777216 : Int32) * (((s3.2.1 76) ((((s3.2.1 77) (((s3.1 5531) - (1 : Int32))).toNatClampNeg) - ((s3.2.1 77) (((s3.1 5531) - (1 : Int32))).toNatClampNeg) / (16777216 : Int32) * (16777216 : Int32))).toNatClampNeg) / (16777216 : Int32))) + (s3.1 5530)))) X42 K)))))))))))))
theorem q_217_L0 {d : Nat} {X42 : ST → Prop} {K : ST → Prop} : ∀ (n : Nat) (x1 : Int32) (s : ST), w_217_L0 n x1 s X42 K → (∀ (s : ST), X42  s → Ex sc (d + 1) 217 42 [pu, pu, pu] [] (hpS s) (kV K)) → Ex sc (d + 1) 217 0 [.ref 55, .int x1, pu] [] (hpS s) (kV K) := by
  have hq : prog[217]? = some pm217 := rfl
  intro n
  induction n with
  | zero =>
    intro x1 s k
    exact k.elim
  | succ n ih =>
    intro x1 s k hX42
    rw [w_217_L0] at k
    refine Ex.seg hq 1 (j := 1) (L' := [.ref 55, .int x1, pu]) (S' := [.ref 55]) (h' := hpS s) rfl ?_
    refine Ex.cl hq rfl rfl ?_
    refine Rn.mono (q_209 (d := d + 0) s k) ?_
    rintro _ _ ⟨r2, s1, rfl, rfl, k⟩
    show Ex sc (d + 1) 217 2 [.ref 55, .int x1, pu] [.int r2] (hpS s1) _
    refine Ex.seg hq 1 (j := 3) (L' := [.ref 55, .int x1, pu]) (S' := [.int (11 : Int32), .int r2]) (h' := hpS s1) rfl ?_
    refine Ex.i2 hq rfl (fun c => ?_) (fun c => ?_)
    · have k := k.1 c
      refine Ex.seg hq 6 (j := 16) (L' := [.ref 55, .int x1, pu]) (S' := [.int ((s1.1 5531) - (1 : Int32)), .ref 77]) (h' := hpS s1) rfl ?_
      obtain ⟨hin, k⟩ := k
      refine Ex.ial hq rfl rfl hin ?_
      refine Ex.seg hq 1 (j := 18) (L' := [.ref 55, .int x1, pu]) (S' := [.int (16777216 : Int32), .int ((s1.2.1 77) (((s1.1 5531) - (1 : Int32))).toNatClampNeg)]) (h' := hpS s1) rfl ?_
      obtain ⟨hz, k⟩ := k
      refine Ex.rm hq rfl hz ?_
      refine Ex.seg hq 8 (j := 27) (L' := [.ref 55, .int x1, .int (((s1.2.1 77) (((s1.1 5531) - (1 : Int32))).toNatClampNeg) - ((s1.2.1 77) (((s1.1 5531) - (1 : Int32))).toNatClampNeg) / (16777216 : Int32) * (16777216 : Int32))]) (S' := [.int (((s1.2.1 77) (((s1.1 5531) - (1 : Int32))).toNatClampNeg) - ((s1.2.1 77) (((s1.1 5531) - (1 : Int32))).toNatClampNeg) / (16777216 : Int32) * (16777216 : Int32)), .ref 76, .int (16777216 : Int32), .int (((s1.2.1 77) (((s1.1 5531) - (1 : Int32))).toNatClampNeg) - ((s1.2.1 77) (((s1.1 5531) - (1 : Int32))).toNatClampNeg) / (16777216 : Int32) * (16777216 : Int32)), .ref 76]) (h' := hpS s1) rfl ?_
      obtain ⟨hin, k⟩ := k
      refine Ex.ial hq rfl rfl hin ?_
      refine Ex.seg hq 1 (j := 29) (L' := [.ref 55, .int x1, .int (((s1.2.1 77) (((s1.1 5531) - (1 : Int32))).toNatClampNeg) - ((s1.2.1 77) (((s1.1 5531) - (1 : Int32))).toNatClampNeg) / (16777216 : Int32) * (16777216 : Int32))]) (S' := [.int (16777216 : Int32), .int ((s1.2.1 76) ((((s1.2.1 77) (((s1.1 5531) - (1 : Int32))).toNatClampNeg) - ((s1.2.1 77) (((s1.1 5531) - (1 : Int32))).toNatClampNeg) / (16777216 : Int32) * (16777216 : Int32))).toNatClampNeg), .int (16777216 : Int32), .int (((s1.2.1 77) (((s1.1 5531) - (1 : Int32))).toNatClampNeg) - ((s1.2.1 77) (((s1.1 5531) - (1 : Int32))).toNatClampNeg) / (16777216 : Int32) * (16777216 : Int32)), .ref 76]) (h' := hpS s1) rfl ?_
      obtain ⟨hz, k⟩ := k
      refine Ex.dv hq rfl hz ?_
      refine Ex.seg hq 4 (j := 34) (L' := [.ref 55, .int x1, .int (((s1.2.1 77) (((s1.1 5531) - (1 : Int32))).toNatClampNeg) - ((s1.2.1 77) (((s1.1 5531) - (1 : Int32))).toNatClampNeg) / (16777216 : Int32) * (16777216 : Int32))]) (S' := [.int (((16777216 : Int32) * (((s1.2.1 76) ((((s1.2.1 77) (((s1.1 5531) - (1 : Int32))).toNatClampNeg) - ((s1.2.1 77) (((s1.1 5531) - (1 : Int32))).toNatClampNeg) / (16777216 : Int32) * (16777216 : Int32))).toNatClampNeg) / (16777216 : Int32))) + (s1.1 5530)), .int (((s1.2.1 77) (((s1.1 5531) - (1 : Int32))).toNatClampNeg) - ((s1.2.1 77) (((s1.1 5531) - (1 : Int32))).toNatClampNeg) / (16777216 : Int32) * (16777216 : Int32)), .ref 76]) (h' := hpS s1) rfl ?_
      obtain ⟨hin, k⟩ := k
      refine Ex.ias hq rfl rfl hin (h' := hpS (sA s1 76 (upd (s1.2.1 76) ((((s1.2.1 77) (((s1.1 5531) - (1 : Int32))).toNatClampNeg) - ((s1.2.1 77) (((s1.1 5531) - (1 : Int32))).toNatClampNeg) / (16777216 : Int32) * (16777216 : Int32))).toNatClampNeg (((16777216 : Int32) * (((s1.2.1 76) ((((s1.2.1 77) (((s1.1 5531) - (1 : Int32))).toNatClampNeg) - ((s1.2.1 77) (((s1.1 5531) - (1 : Int32))).toNatClampNeg) / (16777216 : Int32) * (16777216 : Int32))).toNatClampNeg) / (16777216 : Int32))) + (s1.1 5530))))) (hset_76 _ _) ?_
      refine Ex.seg hq 7 (j := 0) (L' := [.ref 55, .int x1, .int (((s1.2.1 77) (((s1.1 5531) - (1 : Int32))).toNatClampNeg) - ((s1.2.1 77) (((s1.1 5531) - (1 : Int32))).toNatClampNeg) / (16777216 : Int32) * (16777216 : Int32))]) (S' := []) (h' := hpS (sA (sI s1 5531 ((s1.1 5531) - (1 : Int32))) 76 (upd (s1.2.1 76) ((((s1.2.1 77) (((s1.1 5531) - (1 : Int32))).toNatClampNeg) - ((s1.2.1 77) (((s1.1 5531) - (1 : Int32))).toNatClampNeg) / (16777216 : Int32) * (16777216 : Int32))).toNatClampNeg (((16777216 : Int32) * (((s1.2.1 76) ((((s1.2.1 77) (((s1.1 5531) - (1 : Int32))).toNatClampNeg) - ((s1.2.1 77) (((s1.1 5531) - (1 : Int32))).toNatClampNeg) / (16777216 : Int32) * (16777216 : Int32))).toNatClampNeg) / (16777216 : Int32))) + (s1.1 5530))))) rfl ?_
      refine Ex.fg (L := [.ref 55, .int x1, pu]) ⟨Or.inl rfl, ⟨Or.inl rfl, ⟨Or.inr ⟨rfl, rfl⟩, trivial⟩⟩⟩ ?_
      exact ih x1 (sA (sI s1 5531 ((s1.1 5531) - (1 : Int32))) 76 (upd (s1.2.1 76) ((((s1.2.1 77) (((s1.1 5531) - (1 : Int32))).toNatClampNeg) - ((s1.2.1 77) (((s1.1 5531) - (1 : Int32))).toNatClampNeg) / (16777216 : Int32) * (16777216 : Int32))).toNatClampNeg (((16777216 : Int32) * (((s1.2.1 76) ((((s1.2.1 77) (((s1.1 5531) - (1 : Int32))).toNatClampNeg) - ((s1.2.1 77) (((s1.1 5531) - (1 : Int32))).toNatClampNeg) / (16777216 : Int32) * (16777216 : Int32))).toNatClampNeg) / (16777216 : Int32))) + (s1.1 5530)))) k hX42
    · have k := k.2 c
      refine Ex.seg hq 1 (j := 5) (L' := [.ref 55, .int x1, pu]) (S' := [.int x1]) (h' := hpS s1) rfl ?_
      refine Ex.i1 hq rfl (fun c => ?_) (fun c => ?_)
      · have k := k.1 c
        refine Ex.fg (L := [pu, pu, pu]) ⟨Or.inr ⟨rfl, rfl⟩, ⟨Or.inr ⟨rfl, rfl⟩, ⟨Or.inl rfl, trivial⟩⟩⟩ ?_
        exact hX42  s1 k
      · have k := k.2 c
        refine Ex.seg hq 1 (j := 7) (L' := [.ref 55, .int x1, pu]) (S' := [.ref 55]) (h' := hpS s1) rfl ?_
        refine Ex.cl hq rfl rfl ?_
        refine Rn.mono (q_209 (d := d + 0) s1 k) ?_
        rintro _ _ ⟨r4, s3, rfl, rfl, k⟩
        show Ex sc (d + 1) 217 8 [.ref 55, .int x1, pu] [.int r4] (hpS s3) _
        refine Ex.seg hq 1 (j := 9) (L' := [.ref 55, .int x1, pu]) (S' := [.int (12 : Int32), .int r4]) (h' := hpS s3) rfl ?_
        refine Ex.i2 hq rfl (fun c => ?_) (fun c => ?_)
        · have k := k.1 c
          refine Ex.fg (L := [pu, pu, pu]) ⟨Or.inr ⟨rfl, rfl⟩, ⟨Or.inr ⟨rfl, rfl⟩, ⟨Or.inl rfl, trivial⟩⟩⟩ ?_
          exact hX42  s3 k
        · have k := k.2 c
          refine Ex.seg hq 6 (j := 16) (L' := [.ref 55, .int x1, pu]) (S' := [.int ((s3.1 5531) - (1 : Int32)), .ref 77]) (h' := hpS s3) rfl ?_
          obtain ⟨hin, k⟩ := k
          refine Ex.ial hq rfl rfl hin ?_
          refine Ex.seg hq 1 (j := 18) (L' := [.ref 55, .int x1, pu]) (S' := [.int (16777216 : Int32), .int ((s3.2.1 77) (((s3.1 5531) - (1 : Int32))).toNatClampNeg)]) (h' := hpS s3) rfl ?_
          obtain ⟨hz, k⟩ := k
          refine Ex.rm hq rfl hz ?_
          refine Ex.seg hq 8 (j := 27) (L' := [.ref 55, .int x1, .int (((s3.2.1 77) (((s3.1 5531) - (1 : Int32))).toNatClampNeg) - ((s3.2.1 77) (((s3.1 5531) - (1 : Int32))).toNatClampNeg) / (16777216 : Int32) * (16777216 : Int32))]) (S' := [.int (((s3.2.1 77) (((s3.1 5531) - (1 : Int32))).toNatClampNeg) - ((s3.2.1 77) (((s3.1 5531) - (1 : Int32))).toNatClampNeg) / (16777216 : Int32) * (16777216 : Int32)), .ref 76, .int (16777216 : Int32), .int (((s3.2.1 77) (((s3.1 5531) - (1 : Int32))).toNatClampNeg) - ((s3.2.1 77) (((s3.1 5531) - (1 : Int32))).toNatClampNeg) / (16777216 : Int32) * (16777216 : Int32)), .ref 76]) (h' := hpS s3) rfl ?_
          obtain ⟨hin, k⟩ := k
          refine Ex.ial hq rfl rfl hin ?_
          refine Ex.seg hq 1 (j := 29) (L' := [.ref 55, .int x1, .int (((s3.2.1 77) (((s3.1 5531) - (1 : Int32))).toNatClampNeg) - ((s3.2.1 77) (((s3.1 5531) - (1 : Int32))).toNatClampNeg) / (16777216 : Int32) * (16777216 : Int32))]) (S' := [.int (16777216 : Int32), .int ((s3.2.1 76) ((((s3.2.1 77) (((s3.1 5531) - (1 : Int32))).toNatClampNeg) - ((s3.2.1 77) (((s3.1 5531) - (1 : Int32))).toNatClampNeg) / (16777216 : Int32) * (16777216 : Int32))).toNatClampNeg), .int (16777216 : Int32), .int (((s3.2.1 77) (((s3.1 5531) - (1 : Int32))).toNatClampNeg) - ((s3.2.1 77) (((s3.1 5531) - (1 : Int32))).toNatClampNeg) / (16777216 : Int32) * (16777216 : Int32)), .ref 76]) (h' := hpS s3) rfl ?_
          obtain ⟨hz, k⟩ := k
          refine Ex.dv hq rfl hz ?_
          refine Ex.seg hq 4 (j := 34) (L' := [.ref 55, .int x1, .int (((s3.2.1 77) (((s3.1 5531) - (1 : Int32))).toNatClampNeg) - ((s3.2.1 77) (((s3.1 5531) - (1 : Int32))).toNatClampNeg) / (16777216 : Int32) * (16777216 : Int32))]) (S' := [.int (((16777216 : Int32) * (((s3.2.1 76) ((((s3.2.1 77) (((s3.1 5531) - (1 : Int32))).toNatClampNeg) - ((s3.2.1 77) (((s3.1 5531) - (1 : Int32))).toNatClampNeg) / (16777216 : Int32) * (16777216 : Int32))).toNatClampNeg) / (16777216 : Int32))) + (s3.1 5530)), .int (((s3.2.1 77) (((s3.1 5531) - (1 : Int32))).toNatClampNeg) - ((s3.2.1 77) (((s3.1 5531) - (1 : Int32))).toNatClampNeg) / (16777216 : Int32) * (16777216 : Int32)), .ref 76]) (h' := hpS s3) rfl ?_
          obtain ⟨hin, k⟩ := k
          refine Ex.ias hq rfl rfl hin (h' := hpS (sA s3 76 (upd (s3.2.1 76) ((((s3.2.1 77) (((s3.1 5531) - (1 : Int32))).toNatClampNeg) - ((s3.2.1 77) (((s3.1 5531) - (1 : Int32))).toNatClampNeg) / (16777216 : Int32) * (16777216 : Int32))).toNatClampNeg (((16777216 : Int32) * (((s3.2.1 76) ((((s3.2.1 77) (((s3.1 5531) - (1 : Int32))).toNatClampNeg) - ((s3.2.1 77) (((s3.1 5531) - (1 : Int32))).toNatClampNeg) / (16777216 : Int32) * (16777216 : Int32))).toNatClampNeg) / (16777216 : Int32))) + (s3.1 5530))))) (hset_76 _ _) ?_
          refine Ex.seg hq 7 (j := 0) (L' := [.ref 55, .int x1, .int (((s3.2.1 77) (((s3.1 5531) - (1 : Int32))).toNatClampNeg) - ((s3.2.1 77) (((s3.1 5531) - (1 : Int32))).toNatClampNeg) / (16777216 : Int32) * (16777216 : Int32))]) (S' := []) (h' := hpS (sA (sI s3 5531 ((s3.1 5531) - (1 : Int32))) 76 (upd (s3.2.1 76) ((((s3.2.1 77) (((s3.1 5531) - (1 : Int32))).toNatClampNeg) - ((s3.2.1 77) (((s3.1 5531) - (1 : Int32))).toNatClampNeg) / (16777216 : Int32) * (16777216 : Int32))).toNatClampNeg (((16777216 : Int32) * (((s3.2.1 76) ((((s3.2.1 77) (((s3.1 5531) - (1 : Int32))).toNatClampNeg) - ((s3.2.1 77) (((s3.1 5531) - (1 : Int32))).toNatClampNeg) / (16777216 : Int32) * (16777216 : Int32))).toNatClampNeg) / (16777216 : Int32))) + (s3.1 5530))))) rfl ?_
          refine Ex.fg (L := [.ref 55, .int x1, pu]) ⟨Or.inl rfl, ⟨Or.inl rfl, ⟨Or.inr ⟨rfl, rfl⟩, trivial⟩⟩⟩ ?_
          exact ih x1 (sA (sI s3 5531 ((s3.1 5531) - (1 : Int32))) 76 (upd (s3.2.1 76) ((((s3.2.1 77) (((s3.1 5531) - (1 : Int32))).toNatClampNeg) - ((s3.2.1 77) (((s3.1 5531) - (1 : Int32))).toNatClampNeg) / (16777216 : Int32) * (16777216 : Int32))).toNatClampNeg (((16777216 : Int32) * (((s3.2.1 76) ((((s3.2.1 77) (((s3.1 5531) - (1 : Int32))).toNatClampNeg) - ((s3.2.1 77) (((s3.1 5531) - (1 : Int32))).toNatClampNeg) / (16777216 : Int32) * (16777216 : Int32))).toNatClampNeg) / (16777216 : Int32))) + (s3.1 5530)))) k hX42
/-- RowAuditorModel.lands(Z)V -/
def w_217 (p1 : Int32) (s : ST) (K : ST → Prop) : Prop := (∃ m, w_217_L0 m p1 s (fun s5 => K s5) K)
theorem q_217 {d : Nat} {K : ST → Prop} (p1 : Int32) (s : ST) (k : w_217 p1 s K) : Rn sc (d + 1) 217 [.ref 55, .int p1] (hpS s) (kV K) := by
  have hq : prog[217]? = some pm217 := rfl
  refine Rn.of (L := [.ref 55, .int p1, pu]) hq rfl rfl ?_
  unfold w_217 at k
  obtain ⟨m, k⟩ := k
  refine q_217_L0 (d := d) m p1 s k ?_
  · intro s5 k
    exact Ex.rt hq rfl rfl ⟨s5, rfl, rfl, k⟩
/-- RowAuditorModel.jumps(I)V -/
def w_218 (p1 : Int32) (s : ST) (K : ST → Prop) : Prop := (pin (s.1 5531) 180 = true ∧ w_207 p1 (0 : Int32) (sA (sI s 5531 ((s.1 5531) + (1 : Int32))) 77 (upd (s.2.1 77) ((s.1 5531)).toNatClampNeg (((16777216 : Int32) * p1) + (s.1 5530)))) (fun s1 => K (sI s1 5526 ((s1.1 5526) + (1 : Int32)))))
theorem q_218 {d : Nat} {K : ST → Prop} (p1 : Int32) (s : ST) (k : w_218 p1 s K) : Rn sc (d + 1) 218 [.ref 55, .int p1] (hpS s) (kV K) := by
  have hq : prog[218]? = some pm218 := rfl
  refine Rn.of (L := [.ref 55, .int p1]) hq rfl rfl ?_
  unfold w_218 at k
  refine Ex.seg hq 10 (j := 10) (L' := [.ref 55, .int p1]) (S' := [.int (((16777216 : Int32) * p1) + (s.1 5530)), .int (s.1 5531), .ref 77]) (h' := hpS s) rfl ?_
  obtain ⟨hin, k⟩ := k
  refine Ex.ias hq rfl rfl hin (h' := hpS (sA s 77 (upd (s.2.1 77) ((s.1 5531)).toNatClampNeg (((16777216 : Int32) * p1) + (s.1 5530))))) (hset_77 _ _) ?_
  refine Ex.seg hq 9 (j := 20) (L' := [.ref 55, .int p1]) (S' := [.int (0 : Int32), .int p1, .ref 55]) (h' := hpS (sA (sI s 5531 ((s.1 5531) + (1 : Int32))) 77 (upd (s.2.1 77) ((s.1 5531)).toNatClampNeg (((16777216 : Int32) * p1) + (s.1 5530))))) rfl ?_
  refine Ex.cl hq rfl rfl ?_
  refine Rn.mono (q_207 (d := d + 0) p1 (0 : Int32) (sA (sI s 5531 ((s.1 5531) + (1 : Int32))) 77 (upd (s.2.1 77) ((s.1 5531)).toNatClampNeg (((16777216 : Int32) * p1) + (s.1 5530)))) k) ?_
  rintro _ _ ⟨s1, rfl, rfl, k⟩
  show Ex sc (d + 1) 218 21 [.ref 55, .int p1] [] (hpS s1) _
  refine Ex.seg hq 6 (j := 27) (L' := [.ref 55, .int p1]) (S' := []) (h' := hpS (sI s1 5526 ((s1.1 5526) + (1 : Int32)))) rfl ?_
  exact Ex.rt hq rfl rfl ⟨(sI s1 5526 ((s1.1 5526) + (1 : Int32))), rfl, rfl, k⟩
/-- RowAuditorModel.readsCompared()Z -/
def w_219  (s : ST) (K : Int32 → ST → Prop) : Prop := w_215 s (fun r2 s1 => ((¬ r2 = 0 → w_202 s1 (fun r4 s3 => ((¬ r4 = (60 : Int32) → w_202 s3 (fun r6 s5 => ((¬ r6 = (62 : Int32) → w_202 s5 (fun r8 s7 => ((¬ r8 = (61 : Int32) → ((¬ (-1 : Int32) = (-1 : Int32) → w_215 (sI s7 5526 ((s7.1 5526) + (1 : Int32))) (fun r10 s9 => ((¬ r10 = 0 → w_207 (-1 : Int32) (0 : Int32) s9 (fun s11 => w_216 s11 (fun s13 => K (1 : Int32) s13))) ∧ (¬ (¬ r10 = 0) → K (0 : Int32) s9)))) ∧ (¬ (¬ (-1 : Int32) = (-1 : Int32)) → w_204 (1 : Int32) (s7.1 5526) s7 (fun r16 s15 => K r16 s15)))) ∧ (¬ (¬ r8 = (61 : Int32)) → ((¬ (9 : Int32) = (-1 : Int32) → w_215 (sI s7 5526 ((s7.1 5526) + (1 : Int32))) (fun r18 s17 => ((¬ r18 = 0 → w_207 (9 : Int32) (0 : Int32) s17 (fun s19 => w_216 s19 (fun s21 => K (1 : Int32) s21))) ∧ (¬ (¬ r18 = 0) → K (0 : Int32) s17)))) ∧ (¬ (¬ (9 : Int32) = (-1 : Int32)) → w_204 (1 : Int32) (s7.1 5526) s7 (fun r24 s23 => K r24 s23))))))) ∧ (¬ (¬ r6 = (62 : Int32)) → ((¬ (8 : Int32) = (-1 : Int32) → w_215 (sI s5 5526 ((s5.1 5526) + (1 : Int32))) (fun r26 s25 => ((¬ r26 = 0 → w_207 (8 : Int32) (0 : Int32) s25 (fun s27 => w_216 s27 (fun s29 => K (1 : Int32) s29))) ∧ (¬ (¬ r26 = 0) → K (0 : Int32) s25)))) ∧ (¬ (¬ (8 : Int32) = (-1 : Int32)) → w_204 (1 : Int32) (s5.1 5526) s5 (fun r32 s31 => K r32 s31))))))) ∧ (¬ (¬ r4 = (60 : Int32)) → ((¬ (7 : Int32) = (-1 : Int32) → w_215 (sI s3 5526 ((s3.1 5526) + (1 : Int32))) (fun r34 s33 => ((¬ r34 = 0 → w_207 (7 : Int32) (0 : Int32) s33 (fun s35 => w_216 s35 (fun s37 => K (1 : Int32) s37))) ∧ (¬ (¬ r34 = 0) → K (0 : Int32) s33)))) ∧ (¬ (¬ (7 : Int32) = (-1 : Int32)) → w_204 (1 : Int32) (s3.1 5526) s3 (fun r40 s39 => K r40 s39))))))) ∧ (¬ (¬ r2 = 0) → K (0 : Int32) s1)))
theorem q_219 {d : Nat} {K : Int32 → ST → Prop}  (s : ST) (k : w_219  s K) : Rn sc (d + 5) 219 [.ref 55] (hpS s) (kZ K) := by
  have hq : prog[219]? = some pm219 := rfl
  refine Rn.of (L := [.ref 55, pu]) hq rfl rfl ?_
  unfold w_219 at k
  refine Ex.seg hq 1 (j := 1) (L' := [.ref 55, pu]) (S' := [.ref 55]) (h' := hpS s) rfl ?_
  refine Ex.cl hq rfl rfl ?_
  refine Rn.mono (q_215 (d := d + 0) s k) ?_
  rintro _ _ ⟨r2, s1, rfl, hzr2, rfl, k⟩
  show Ex sc (d + 5) 219 2 [.ref 55, pu] [.int r2] (hpS s1) _
  refine Ex.i1 hq rfl (fun c => ?_) (fun c => ?_)
  · have k := k.1 c
    refine Ex.seg hq 1 (j := 6) (L' := [.ref 55, pu]) (S' := [.ref 55]) (h' := hpS s1) rfl ?_
    refine Ex.cl hq rfl rfl ?_
    refine Rn.mono (q_202 (d := d + 4) s1 k) ?_
    rintro _ _ ⟨r4, s3, rfl, rfl, k⟩
    show Ex sc (d + 5) 219 7 [.ref 55, pu] [.int r4] (hpS s3) _
    refine Ex.seg hq 1 (j := 8) (L' := [.ref 55, pu]) (S' := [.int (60 : Int32), .int r4]) (h' := hpS s3) rfl ?_
    refine Ex.i2 hq rfl (fun c => ?_) (fun c => ?_)
    · have k := k.1 c
      refine Ex.seg hq 1 (j := 12) (L' := [.ref 55, pu]) (S' := [.ref 55]) (h' := hpS s3) rfl ?_
      refine Ex.cl hq rfl rfl ?_
      refine Rn.mono (q_202 (d := d + 4) s3 k) ?_
      rintro _ _ ⟨r6, s5, rfl, rfl, k⟩
      show Ex sc (d + 5) 219 13 [.ref 55, pu] [.int r6] (hpS s5) _
      refine Ex.seg hq 1 (j := 14) (L' := [.ref 55, pu]) (S' := [.int (62 : Int32), .int r6]) (h' := hpS s5) rfl ?_
      refine Ex.i2 hq rfl (fun c => ?_) (fun c => ?_)
      · have k := k.1 c
        refine Ex.seg hq 1 (j := 18) (L' := [.ref 55, pu]) (S' := [.ref 55]) (h' := hpS s5) rfl ?_
        refine Ex.cl hq rfl rfl ?_
        refine Rn.mono (q_202 (d := d + 4) s5 k) ?_
        rintro _ _ ⟨r8, s7, rfl, rfl, k⟩
        show Ex sc (d + 5) 219 19 [.ref 55, pu] [.int r8] (hpS s7) _
        refine Ex.seg hq 1 (j := 20) (L' := [.ref 55, pu]) (S' := [.int (61 : Int32), .int r8]) (h' := hpS s7) rfl ?_
        refine Ex.i2 hq rfl (fun c => ?_) (fun c => ?_)
        · have k := k.1 c
          refine Ex.seg hq 4 (j := 27) (L' := [.ref 55, .int (-1 : Int32)]) (S' := [.int (-1 : Int32), .int (-1 : Int32)]) (h' := hpS s7) rfl ?_
          refine Ex.i2 hq rfl (fun c => ?_) (fun c => ?_)
          · have k := k.1 c
            refine Ex.seg hq 7 (j := 41) (L' := [.ref 55, .int (-1 : Int32)]) (S' := [.ref 55]) (h' := hpS (sI s7 5526 ((s7.1 5526) + (1 : Int32)))) rfl ?_
            refine Ex.cl hq rfl rfl ?_
            refine Rn.mono (q_215 (d := d + 0) (sI s7 5526 ((s7.1 5526) + (1 : Int32))) k) ?_
            rintro _ _ ⟨r10, s9, rfl, hzr10, rfl, k⟩
            show Ex sc (d + 5) 219 42 [.ref 55, .int (-1 : Int32)] [.int r10] (hpS s9) _
            refine Ex.i1 hq rfl (fun c => ?_) (fun c => ?_)
            · have k := k.1 c
              refine Ex.seg hq 3 (j := 48) (L' := [.ref 55, .int (-1 : Int32)]) (S' := [.int (0 : Int32), .int (-1 : Int32), .ref 55]) (h' := hpS s9) rfl ?_
              refine Ex.cl hq rfl rfl ?_
              refine Rn.mono (q_207 (d := d + 4) (-1 : Int32) (0 : Int32) s9 k) ?_
              rintro _ _ ⟨s11, rfl, rfl, k⟩
              show Ex sc (d + 5) 219 49 [.ref 55, .int (-1 : Int32)] [] (hpS s11) _
              refine Ex.seg hq 1 (j := 50) (L' := [.ref 55, .int (-1 : Int32)]) (S' := [.ref 55]) (h' := hpS s11) rfl ?_
              refine Ex.cl hq rfl rfl ?_
              refine Rn.mono (q_216 (d := d + 3) s11 k) ?_
              rintro _ _ ⟨s13, rfl, rfl, k⟩
              show Ex sc (d + 5) 219 51 [.ref 55, .int (-1 : Int32)] [] (hpS s13) _
              refine Ex.seg hq 1 (j := 52) (L' := [.ref 55, .int (-1 : Int32)]) (S' := [.int (1 : Int32)]) (h' := hpS s13) rfl ?_
              exact Ex.zr hq rfl rfl (Or.inr rfl) ⟨(1 : Int32), s13, rfl, (Or.inr rfl), rfl, k⟩
            · have k := k.2 c
              refine Ex.seg hq 1 (j := 44) (L' := [.ref 55, .int (-1 : Int32)]) (S' := [.int (0 : Int32)]) (h' := hpS s9) rfl ?_
              exact Ex.zr hq rfl rfl (Or.inl rfl) ⟨(0 : Int32), s9, rfl, (Or.inl rfl), rfl, k⟩
          · have k := k.2 c
            refine Ex.seg hq 4 (j := 32) (L' := [.ref 55, .int (-1 : Int32)]) (S' := [.int (s7.1 5526), .int (1 : Int32), .ref 55]) (h' := hpS s7) rfl ?_
            refine Ex.cl hq rfl rfl ?_
            refine Rn.mono (q_204 (d := d + 4) (1 : Int32) (s7.1 5526) s7 k) ?_
            rintro _ _ ⟨r16, s15, rfl, hzr16, rfl, k⟩
            show Ex sc (d + 5) 219 33 [.ref 55, .int (-1 : Int32)] [.int r16] (hpS s15) _
            exact Ex.zr hq rfl rfl hzr16 ⟨r16, s15, rfl, hzr16, rfl, k⟩
        · have k := k.2 c
          refine Ex.seg hq 5 (j := 27) (L' := [.ref 55, .int (9 : Int32)]) (S' := [.int (-1 : Int32), .int (9 : Int32)]) (h' := hpS s7) rfl ?_
          refine Ex.i2 hq rfl (fun c => ?_) (fun c => ?_)
          · have k := k.1 c
            refine Ex.seg hq 7 (j := 41) (L' := [.ref 55, .int (9 : Int32)]) (S' := [.ref 55]) (h' := hpS (sI s7 5526 ((s7.1 5526) + (1 : Int32)))) rfl ?_
            refine Ex.cl hq rfl rfl ?_
            refine Rn.mono (q_215 (d := d + 0) (sI s7 5526 ((s7.1 5526) + (1 : Int32))) k) ?_
            rintro _ _ ⟨r18, s17, rfl, hzr18, rfl, k⟩
            show Ex sc (d + 5) 219 42 [.ref 55, .int (9 : Int32)] [.int r18] (hpS s17) _
            refine Ex.i1 hq rfl (fun c => ?_) (fun c => ?_)
            · have k := k.1 c
              refine Ex.seg hq 3 (j := 48) (L' := [.ref 55, .int (9 : Int32)]) (S' := [.int (0 : Int32), .int (9 : Int32), .ref 55]) (h' := hpS s17) rfl ?_
              refine Ex.cl hq rfl rfl ?_
              refine Rn.mono (q_207 (d := d + 4) (9 : Int32) (0 : Int32) s17 k) ?_
              rintro _ _ ⟨s19, rfl, rfl, k⟩
              show Ex sc (d + 5) 219 49 [.ref 55, .int (9 : Int32)] [] (hpS s19) _
              refine Ex.seg hq 1 (j := 50) (L' := [.ref 55, .int (9 : Int32)]) (S' := [.ref 55]) (h' := hpS s19) rfl ?_
              refine Ex.cl hq rfl rfl ?_
              refine Rn.mono (q_216 (d := d + 3) s19 k) ?_
              rintro _ _ ⟨s21, rfl, rfl, k⟩
              show Ex sc (d + 5) 219 51 [.ref 55, .int (9 : Int32)] [] (hpS s21) _
              refine Ex.seg hq 1 (j := 52) (L' := [.ref 55, .int (9 : Int32)]) (S' := [.int (1 : Int32)]) (h' := hpS s21) rfl ?_
              exact Ex.zr hq rfl rfl (Or.inr rfl) ⟨(1 : Int32), s21, rfl, (Or.inr rfl), rfl, k⟩
            · have k := k.2 c
              refine Ex.seg hq 1 (j := 44) (L' := [.ref 55, .int (9 : Int32)]) (S' := [.int (0 : Int32)]) (h' := hpS s17) rfl ?_
              exact Ex.zr hq rfl rfl (Or.inl rfl) ⟨(0 : Int32), s17, rfl, (Or.inl rfl), rfl, k⟩
          · have k := k.2 c
            refine Ex.seg hq 4 (j := 32) (L' := [.ref 55, .int (9 : Int32)]) (S' := [.int (s7.1 5526), .int (1 : Int32), .ref 55]) (h' := hpS s7) rfl ?_
            refine Ex.cl hq rfl rfl ?_
            refine Rn.mono (q_204 (d := d + 4) (1 : Int32) (s7.1 5526) s7 k) ?_
            rintro _ _ ⟨r24, s23, rfl, hzr24, rfl, k⟩
            show Ex sc (d + 5) 219 33 [.ref 55, .int (9 : Int32)] [.int r24] (hpS s23) _
            exact Ex.zr hq rfl rfl hzr24 ⟨r24, s23, rfl, hzr24, rfl, k⟩
      · have k := k.2 c
        refine Ex.seg hq 5 (j := 27) (L' := [.ref 55, .int (8 : Int32)]) (S' := [.int (-1 : Int32), .int (8 : Int32)]) (h' := hpS s5) rfl ?_
        refine Ex.i2 hq rfl (fun c => ?_) (fun c => ?_)
        · have k := k.1 c
          refine Ex.seg hq 7 (j := 41) (L' := [.ref 55, .int (8 : Int32)]) (S' := [.ref 55]) (h' := hpS (sI s5 5526 ((s5.1 5526) + (1 : Int32)))) rfl ?_
          refine Ex.cl hq rfl rfl ?_
          refine Rn.mono (q_215 (d := d + 0) (sI s5 5526 ((s5.1 5526) + (1 : Int32))) k) ?_
          rintro _ _ ⟨r26, s25, rfl, hzr26, rfl, k⟩
          show Ex sc (d + 5) 219 42 [.ref 55, .int (8 : Int32)] [.int r26] (hpS s25) _
          refine Ex.i1 hq rfl (fun c => ?_) (fun c => ?_)
          · have k := k.1 c
            refine Ex.seg hq 3 (j := 48) (L' := [.ref 55, .int (8 : Int32)]) (S' := [.int (0 : Int32), .int (8 : Int32), .ref 55]) (h' := hpS s25) rfl ?_
            refine Ex.cl hq rfl rfl ?_
            refine Rn.mono (q_207 (d := d + 4) (8 : Int32) (0 : Int32) s25 k) ?_
            rintro _ _ ⟨s27, rfl, rfl, k⟩
            show Ex sc (d + 5) 219 49 [.ref 55, .int (8 : Int32)] [] (hpS s27) _
            refine Ex.seg hq 1 (j := 50) (L' := [.ref 55, .int (8 : Int32)]) (S' := [.ref 55]) (h' := hpS s27) rfl ?_
            refine Ex.cl hq rfl rfl ?_
            refine Rn.mono (q_216 (d := d + 3) s27 k) ?_
            rintro _ _ ⟨s29, rfl, rfl, k⟩
            show Ex sc (d + 5) 219 51 [.ref 55, .int (8 : Int32)] [] (hpS s29) _
            refine Ex.seg hq 1 (j := 52) (L' := [.ref 55, .int (8 : Int32)]) (S' := [.int (1 : Int32)]) (h' := hpS s29) rfl ?_
            exact Ex.zr hq rfl rfl (Or.inr rfl) ⟨(1 : Int32), s29, rfl, (Or.inr rfl), rfl, k⟩
          · have k := k.2 c
            refine Ex.seg hq 1 (j := 44) (L' := [.ref 55, .int (8 : Int32)]) (S' := [.int (0 : Int32)]) (h' := hpS s25) rfl ?_
            exact Ex.zr hq rfl rfl (Or.inl rfl) ⟨(0 : Int32), s25, rfl, (Or.inl rfl), rfl, k⟩
        · have k := k.2 c
          refine Ex.seg hq 4 (j := 32) (L' := [.ref 55, .int (8 : Int32)]) (S' := [.int (s5.1 5526), .int (1 : Int32), .ref 55]) (h' := hpS s5) rfl ?_
          refine Ex.cl hq rfl rfl ?_
          refine Rn.mono (q_204 (d := d + 4) (1 : Int32) (s5.1 5526) s5 k) ?_
          rintro _ _ ⟨r32, s31, rfl, hzr32, rfl, k⟩
          show Ex sc (d + 5) 219 33 [.ref 55, .int (8 : Int32)] [.int r32] (hpS s31) _
          exact Ex.zr hq rfl rfl hzr32 ⟨r32, s31, rfl, hzr32, rfl, k⟩
    · have k := k.2 c
      refine Ex.seg hq 5 (j := 27) (L' := [.ref 55, .int (7 : Int32)]) (S' := [.int (-1 : Int32), .int (7 : Int32)]) (h' := hpS s3) rfl ?_
      refine Ex.i2 hq rfl (fun c => ?_) (fun c => ?_)
      · have k := k.1 c
        refine Ex.seg hq 7 (j := 41) (L' := [.ref 55, .int (7 : Int32)]) (S' := [.ref 55]) (h' := hpS (sI s3 5526 ((s3.1 5526) + (1 : Int32)))) rfl ?_
        refine Ex.cl hq rfl rfl ?_
        refine Rn.mono (q_215 (d := d + 0) (sI s3 5526 ((s3.1 5526) + (1 : Int32))) k) ?_
        rintro _ _ ⟨r34, s33, rfl, hzr34, rfl, k⟩
        show Ex sc (d + 5) 219 42 [.ref 55, .int (7 : Int32)] [.int r34] (hpS s33) _
        refine Ex.i1 hq rfl (fun c => ?_) (fun c => ?_)
        · have k := k.1 c
          refine Ex.seg hq 3 (j := 48) (L' := [.ref 55, .int (7 : Int32)]) (S' := [.int (0 : Int32), .int (7 : Int32), .ref 55]) (h' := hpS s33) rfl ?_
          refine Ex.cl hq rfl rfl ?_
          refine Rn.mono (q_207 (d := d + 4) (7 : Int32) (0 : Int32) s33 k) ?_
          rintro _ _ ⟨s35, rfl, rfl, k⟩
          show Ex sc (d + 5) 219 49 [.ref 55, .int (7 : Int32)] [] (hpS s35) _
          refine Ex.seg hq 1 (j := 50) (L' := [.ref 55, .int (7 : Int32)]) (S' := [.ref 55]) (h' := hpS s35) rfl ?_
          refine Ex.cl hq rfl rfl ?_
          refine Rn.mono (q_216 (d := d + 3) s35 k) ?_
          rintro _ _ ⟨s37, rfl, rfl, k⟩
          show Ex sc (d + 5) 219 51 [.ref 55, .int (7 : Int32)] [] (hpS s37) _
          refine Ex.seg hq 1 (j := 52) (L' := [.ref 55, .int (7 : Int32)]) (S' := [.int (1 : Int32)]) (h' := hpS s37) rfl ?_
          exact Ex.zr hq rfl rfl (Or.inr rfl) ⟨(1 : Int32), s37, rfl, (Or.inr rfl), rfl, k⟩
        · have k := k.2 c
          refine Ex.seg hq 1 (j := 44) (L' := [.ref 55, .int (7 : Int32)]) (S' := [.int (0 : Int32)]) (h' := hpS s33) rfl ?_
          exact Ex.zr hq rfl rfl (Or.inl rfl) ⟨(0 : Int32), s33, rfl, (Or.inl rfl), rfl, k⟩
      · have k := k.2 c
        refine Ex.seg hq 4 (j := 32) (L' := [.ref 55, .int (7 : Int32)]) (S' := [.int (s3.1 5526), .int (1 : Int32), .ref 55]) (h' := hpS s3) rfl ?_
        refine Ex.cl hq rfl rfl ?_
        refine Rn.mono (q_204 (d := d + 4) (1 : Int32) (s3.1 5526) s3 k) ?_
        rintro _ _ ⟨r40, s39, rfl, hzr40, rfl, k⟩
        show Ex sc (d + 5) 219 33 [.ref 55, .int (7 : Int32)] [.int r40] (hpS s39) _
        exact Ex.zr hq rfl rfl hzr40 ⟨r40, s39, rfl, hzr40, rfl, k⟩
  · have k := k.2 c
    refine Ex.seg hq 1 (j := 4) (L' := [.ref 55, pu]) (S' := [.int (0 : Int32)]) (h' := hpS s1) rfl ?_
    exact Ex.zr hq rfl rfl (Or.inl rfl) ⟨(0 : Int32), s1, rfl, (Or.inl rfl), rfl, k⟩
end WP
