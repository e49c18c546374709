/-! ===== weakest preconditions, printed by wip/whole/genwp.py ===== -/
section WP
variable {sc : Nat × (Nat → Int32)}
/-- RowAuditorModel.count(I)I -/
def w_282 (p0 : Int32) (s : ST) (K : Int32 → ST → Prop) : Prop := (((p0).toInt < 0 ∨ 8 < (p0).toInt → w_186 p0 (20 : Int32) ((19 : Int32) + (s.1 5541)) s (fun r2 s1 => ((r2 = 0 → w_186 p0 (40 : Int32) ((39 : Int32) + (s1.1 5542)) s1 (fun r4 s3 => ((r4 = 0 → K (-1 : Int32) s3) ∧ (¬ (r4 = 0) → (pin (((20 : Int32) + p0) - (40 : Int32)) 26 = true ∧ K ((s3.2.1 86) ((((20 : Int32) + p0) - (40 : Int32))).toNatClampNeg) s3))))) ∧ (¬ (r2 = 0) → (pin (p0 - (20 : Int32)) 26 = true ∧ K ((s1.2.1 86) ((p0 - (20 : Int32))).toNatClampNeg) s1))))) ∧ (p0 = (0 : Int32) → K (s.1 5500) s) ∧ (p0 = (1 : Int32) → K (s.1 5501) s) ∧ (p0 = (2 : Int32) → K (s.1 5502) s) ∧ (p0 = (3 : Int32) → K (s.1 5541) s) ∧ (p0 = (4 : Int32) → K (s.1 5503) s) ∧ (p0 = (5 : Int32) → K (s.1 5542) s) ∧ (p0 = (6 : Int32) → K (s.1 5578) s) ∧ (p0 = (7 : Int32) → K (s.1 5579) s) ∧ (p0 = (8 : Int32) → K (s.1 5525) s))
theorem q_282 {d : Nat} {K : Int32 → ST → Prop} (p0 : Int32) (s : ST) (k : w_282 p0 s K) : Rn sc (d + 1) 282 [.ref 55, .int p0] (hpS s) (kI K) := by
  have hq : prog[282]? = some pm282 := rfl
  refine Rn.of (L := [.ref 55, .int p0]) hq rfl rfl ?_
  unfold w_282 at k
  refine Ex.seg hq 1 (j := 1) (L' := [.ref 55, .int p0]) (S' := [.int p0]) (h' := hpS s) rfl ?_
  refine Ex.tsw hq rfl (fun c => ?_) (fun t c ht => ?_) (by decide)
  · have k := k.1 c
    refine Ex.seg hq 6 (j := 35) (L' := [.ref 55, .int p0]) (S' := [.int ((19 : Int32) + (s.1 5541)), .int (20 : Int32), .int p0]) (h' := hpS s) rfl ?_
    refine Ex.cl hq rfl rfl ?_
    refine Rn.mono (q_186 (d := d + 0) p0 (20 : Int32) ((19 : Int32) + (s.1 5541)) s k) ?_
    rintro _ _ ⟨r2, s1, rfl, hzr2, rfl, k⟩
    show Ex sc (d + 1) 282 36 [.ref 55, .int p0] [.int r2] (hpS s1) _
    refine Ex.i1 hq rfl (fun c => ?_) (fun c => ?_)
    · have k := k.1 c
      refine Ex.seg hq 6 (j := 50) (L' := [.ref 55, .int p0]) (S' := [.int ((39 : Int32) + (s1.1 5542)), .int (40 : Int32), .int p0]) (h' := hpS s1) rfl ?_
      refine Ex.cl hq rfl rfl ?_
      refine Rn.mono (q_186 (d := d + 0) p0 (40 : Int32) ((39 : Int32) + (s1.1 5542)) s1 k) ?_
      rintro _ _ ⟨r4, s3, rfl, hzr4, rfl, k⟩
      show Ex sc (d + 1) 282 51 [.ref 55, .int p0] [.int r4] (hpS s3) _
      refine Ex.i1 hq rfl (fun c => ?_) (fun c => ?_)
      · have k := k.1 c
        refine Ex.seg hq 1 (j := 62) (L' := [.ref 55, .int p0]) (S' := [.int (-1 : Int32)]) (h' := hpS s3) rfl ?_
        exact Ex.rt hq rfl rfl ⟨(-1 : Int32), s3, rfl, rfl, k⟩
      · have k := k.2 c
        refine Ex.seg hq 7 (j := 59) (L' := [.ref 55, .int p0]) (S' := [.int (((20 : Int32) + p0) - (40 : Int32)), .ref 86]) (h' := hpS s3) rfl ?_
        obtain ⟨hin, k⟩ := k
        refine Ex.ial hq rfl rfl hin ?_
        refine Ex.seg hq 1 (j := 62) (L' := [.ref 55, .int p0]) (S' := [.int ((s3.2.1 86) ((((20 : Int32) + p0) - (40 : Int32))).toNatClampNeg)]) (h' := hpS s3) rfl ?_
        exact Ex.rt hq rfl rfl ⟨((s3.2.1 86) ((((20 : Int32) + p0) - (40 : Int32))).toNatClampNeg), s3, rfl, rfl, k⟩
    · have k := k.2 c
      refine Ex.seg hq 5 (j := 42) (L' := [.ref 55, .int p0]) (S' := [.int (p0 - (20 : Int32)), .ref 86]) (h' := hpS s1) rfl ?_
      obtain ⟨hin, k⟩ := k
      refine Ex.ial hq rfl rfl hin ?_
      exact Ex.rt hq rfl rfl ⟨((s1.2.1 86) ((p0 - (20 : Int32))).toNatClampNeg), s1, rfl, rfl, k⟩
  · have k := k.2
    rcases (show (p0).toInt = 0 ∨ (p0).toInt = 1 ∨ (p0).toInt = 2 ∨ (p0).toInt = 3 ∨ (p0).toInt = 4 ∨ (p0).toInt = 5 ∨ (p0).toInt = 6 ∨ (p0).toInt = 7 ∨ (p0).toInt = 8 by omega) with e | e | e | e | e | e | e | e | e
    · have cx : p0 = (0 : Int32) := Int32.toInt_inj.mp (by rw [e]; rfl)
      have k := k.1 cx
      rw [e] at ht
      have ht : (some 2 : Option Nat) = some t := ht
      cases ht
      refine Ex.seg hq 2 (j := 4) (L' := [.ref 55, .int p0]) (S' := [.int (s.1 5500)]) (h' := hpS s) rfl ?_
      exact Ex.rt hq rfl rfl ⟨(s.1 5500), s, rfl, rfl, k⟩
    · have cx : p0 = (1 : Int32) := Int32.toInt_inj.mp (by rw [e]; rfl)
      have k := k.2.1 cx
      rw [e] at ht
      have ht : (some 5 : Option Nat) = some t := ht
      cases ht
      refine Ex.seg hq 2 (j := 7) (L' := [.ref 55, .int p0]) (S' := [.int (s.1 5501)]) (h' := hpS s) rfl ?_
      exact Ex.rt hq rfl rfl ⟨(s.1 5501), s, rfl, rfl, k⟩
    · have cx : p0 = (2 : Int32) := Int32.toInt_inj.mp (by rw [e]; rfl)
      have k := k.2.2.1 cx
      rw [e] at ht
      have ht : (some 8 : Option Nat) = some t := ht
      cases ht
      refine Ex.seg hq 2 (j := 10) (L' := [.ref 55, .int p0]) (S' := [.int (s.1 5502)]) (h' := hpS s) rfl ?_
      exact Ex.rt hq rfl rfl ⟨(s.1 5502), s, rfl, rfl, k⟩
    · have cx : p0 = (3 : Int32) := Int32.toInt_inj.mp (by rw [e]; rfl)
      have k := k.2.2.2.1 cx
      rw [e] at ht
      have ht : (some 11 : Option Nat) = some t := ht
      cases ht
      refine Ex.seg hq 2 (j := 13) (L' := [.ref 55, .int p0]) (S' := [.int (s.1 5541)]) (h' := hpS s) rfl ?_
      exact Ex.rt hq rfl rfl ⟨(s.1 5541), s, rfl, rfl, k⟩
    · have cx : p0 = (4 : Int32) := Int32.toInt_inj.mp (by rw [e]; rfl)
      have k := k.2.2.2.2.1 cx
      rw [e] at ht
      have ht : (some 14 : Option Nat) = some t := ht
      cases ht
      refine Ex.seg hq 2 (j := 16) (L' := [.ref 55, .int p0]) (S' := [.int (s.1 5503)]) (h' := hpS s) rfl ?_
      exact Ex.rt hq rfl rfl ⟨(s.1 5503), s, rfl, rfl, k⟩
    · have cx : p0 = (5 : Int32) := Int32.toInt_inj.mp (by rw [e]; rfl)
      have k := k.2.2.2.2.2.1 cx
      rw [e] at ht
      have ht : (some 17 : Option Nat) = some t := ht
      cases ht
      refine Ex.seg hq 2 (j := 19) (L' := [.ref 55, .int p0]) (S' := [.int (s.1 5542)]) (h' := hpS s) rfl ?_
      exact Ex.rt hq rfl rfl ⟨(s.1 5542), s, rfl, rfl, k⟩
    · have cx : p0 = (6 : Int32) := Int32.toInt_inj.mp (by rw [e]; rfl)
      have k := k.2.2.2.2.2.2.1 cx
      rw [e] at ht
      have ht : (some 20 : Option Nat) = some t := ht
      cases ht
      refine Ex.seg hq 2 (j := 22) (L' := [.ref 55, .int p0]) (S' := [.int (s.1 5578)]) (h' := hpS s) rfl ?_
      exact Ex.rt hq rfl rfl ⟨(s.1 5578), s, rfl, rfl, k⟩
    · have cx : p0 = (7 : Int32) := Int32.toInt_inj.mp (by rw [e]; rfl)
      have k := k.2.2.2.2.2.2.2.1 cx
      rw [e] at ht
      have ht : (some 23 : Option Nat) = some t := ht
      cases ht
      refine Ex.seg hq 2 (j := 25) (L' := [.ref 55, .int p0]) (S' := [.int (s.1 5579)]) (h' := hpS s) rfl ?_
      exact Ex.rt hq rfl rfl ⟨(s.1 5579), s, rfl, rfl, k⟩
    · have cx : p0 = (8 : Int32) := Int32.toInt_inj.mp (by rw [e]; rfl)
      have k := k.2.2.2.2.2.2.2.2 cx
      rw [e] at ht
      have ht : (some 26 : Option Nat) = some t := ht
      cases ht
      refine Ex.seg hq 2 (j := 28) (L' := [.ref 55, .int p0]) (S' := [.int (s.1 5525)]) (h' := hpS s) rfl ?_
      exact Ex.rt hq rfl rfl ⟨(s.1 5525), s, rfl, rfl, k⟩
/-- java/lang/Integer.bitCount(I)I -/
def w_283 (p0 : Int32) (s : ST) (K : Int32 → ST → Prop) : Prop := K ((((((((p0 - ((((p0).toUInt32 >>> (((1 : Int32)).toUInt32 &&& Int32.toUInt32 31)).toInt32) &&& (1431655765 : Int32))) &&& (858993459 : Int32)) + (((((p0 - ((((p0).toUInt32 >>> (((1 : Int32)).toUInt32 &&& Int32.toUInt32 31)).toInt32) &&& (1431655765 : Int32)))).toUInt32 >>> (((2 : Int32)).toUInt32 &&& Int32.toUInt32 31)).toInt32) &&& (858993459 : Int32))) + ((((((p0 - ((((p0).toUInt32 >>> (((1 : Int32)).toUInt32 &&& Int32.toUInt32 31)).toInt32) &&& (1431655765 : Int32))) &&& (858993459 : Int32)) + (((((p0 - ((((p0).toUInt32 >>> (((1 : Int32)).toUInt32 &&& Int32.toUInt32 31)).toInt32) &&& (1431655765 : Int32)))).toUInt32 >>> (((2 : Int32)).toUInt32 &&& Int32.toUInt32 31)).toInt32) &&& (858993459 : Int32)))).toUInt32 >>> (((4 : Int32)).toUInt32 &&& Int32.toUInt32 31)).toInt32)) &&& (252645135 : Int32)) + ((((((((p0 - ((((p0).toUInt32 >>> (((1 : Int32)).toUInt32 &&& Int32.toUInt32 31)).toInt32) &&& (1431655765 : Int32))) &&& (858993459 : Int32)) + (((((p0 - ((((p0).toUInt32 >>> (((1 : Int32)).toUInt32 &&& Int32.toUInt32 31)).toInt32) &&& (1431655765 : Int32)))).toUInt32 >>> (((2 : Int32)).toUInt32 &&& Int32.toUInt32 31)).toInt32) &&& (858993459 : Int32))) + ((((((p0 - ((((p0).toUInt32 >>> (((1 : Int32)).toUInt32 &&& Int32.toUInt32 31)).toInt32) &&& (1431655765 : Int32))) &&& (858993459 : Int32)) + (((((p0 - ((((p0).toUInt32 >>> (((1 : Int32)).toUInt32 &&& Int32.toUInt32 31)).toInt32) &&& (1431655765 : Int32)))).toUInt32 >>> (((2 : Int32)).toUInt32 &&& Int32.toUInt32 31)).toInt32) &&& (858993459 : Int32)))).toUInt32 >>> (((4 : Int32)).toUInt32 &&& Int32.toUInt32 31)).toInt32)) &&& (252645135 : Int32))).toUInt32 >>> (((8 : Int32)).toUInt32 &&& Int32.toUInt32 31)).toInt32)) + (((((((((p0 - ((((p0).toUInt32 >>> (((1 : Int32)).toUInt32 &&& Int32.toUInt32 31)).toInt32) &&& (1431655765 : Int32))) &&& (858993459 : Int32)) + (((((p0 - ((((p0).toUInt32 >>> (((1 : Int32)).toUInt32 &&& Int32.toUInt32 31)).toInt32) &&& (1431655765 : Int32)))).toUInt32 >>> (((2 : Int32)).toUInt32 &&& Int32.toUInt32 31)).toInt32) &&& (858993459 : Int32))) + ((((((p0 - ((((p0).toUInt32 >>> (((1 : Int32)).toUInt32 &&& Int32.toUInt32 31)).toInt32) &&& (1431655765 : Int32))) &&& (858993459 : Int32)) + (((((p0 - ((((p0).toUInt32 >>> (((1 : Int32)).toUInt32 &&& Int32.toUInt32 31)).toInt32) &&& (1431655765 : Int32)))).toUInt32 >>> (((2 : Int32)).toUInt32 &&& Int32.toUInt32 31)).toInt32) &&& (858993459 : Int32)))).toUInt32 >>> (((4 : Int32)).toUInt32 &&& Int32.toUInt32 31)).toInt32)) &&& (252645135 : Int32)) + ((((((((p0 - ((((p0).toUInt32 >>> (((1 : Int32)).toUInt32 &&& Int32.toUInt32 31)).toInt32) &&& (1431655765 : Int32))) &&& (858993459 : Int32)) + (((((p0 - ((((p0).toUInt32 >>> (((1 : Int32)).toUInt32 &&& Int32.toUInt32 31)).toInt32) &&& (1431655765 : Int32)))).toUInt32 >>> (((2 : Int32)).toUInt32 &&& Int32.toUInt32 31)).toInt32) &&& (858993459 : Int32))) + ((((((p0 - ((((p0).toUInt32 >>> (((1 : Int32)).toUInt32 &&& Int32.toUInt32 31)).toInt32) &&& (1431655765 : Int32))) &&& (858993459 : Int32)) + (((((p0 - ((((p0).toUInt32 >>> (((1 : Int32)).toUInt32 &&& Int32.toUInt32 31)).toInt32) &&& (1431655765 : Int32)))).toUInt32 >>> (((2 : Int32)).toUInt32 &&& Int32.toUInt32 31)).toInt32) &&& (858993459 : Int32)))).toUInt32 >>> (((4 : Int32)).toUInt32 &&& Int32.toUInt32 31)).toInt32)) &&& (252645135 : Int32))).toUInt32 >>> (((8 : Int32)).toUInt32 &&& Int32.toUInt32 31)).toInt32))).toUInt32 >>> (((16 : Int32)).toUInt32 &&& Int32.toUInt32 31)).toInt32)) &&& (63 : Int32)) s
theorem q_283 {d : Nat} {K : Int32 → ST → Prop} (p0 : Int32) (s : ST) (k : w_283 p0 s K) : Rn sc (d + 0) 283 [.int p0] (hpS s) (kI K) := by
  have hq : prog[283]? = some pm283 := rfl
  refine Rn.of (L := [.int p0]) hq rfl rfl ?_
  unfold w_283 at k
  refine Ex.seg hq 41 (j := 41) (L' := [.int (((((((p0 - ((((p0).toUInt32 >>> (((1 : Int32)).toUInt32 &&& Int32.toUInt32 31)).toInt32) &&& (1431655765 : Int32))) &&& (858993459 : Int32)) + (((((p0 - ((((p0).toUInt32 >>> (((1 : Int32)).toUInt32 &&& Int32.toUInt32 31)).toInt32) &&& (1431655765 : Int32)))).toUInt32 >>> (((2 : Int32)).toUInt32 &&& Int32.toUInt32 31)).toInt32) &&& (858993459 : Int32))) + ((((((p0 - ((((p0).toUInt32 >>> (((1 : Int32)).toUInt32 &&& Int32.toUInt32 31)).toInt32) &&& (1431655765 : Int32))) &&& (858993459 : Int32)) + (((((p0 - ((((p0).toUInt32 >>> (((1 : Int32)).toUInt32 &&& Int32.toUInt32 31)).toInt32) &&& (1431655765 : Int32)))).toUInt32 >>> (((2 : Int32)).toUInt32 &&& Int32.toUInt32 31)).toInt32) &&& (858993459 : Int32)))).toUInt32 >>> (((4 : Int32)).toUInt32 &&& Int32.toUInt32 31)).toInt32)) &&& (252645135 : Int32)) + ((((((((p0 - ((((p0).toUInt32 >>> (((1 : Int32)).toUInt32 &&& Int32.toUInt32 31)).toInt32) &&& (1431655765 : Int32))) &&& (858993459 : Int32)) + (((((p0 - ((((p0).toUInt32 >>> (((1 : Int32)).toUInt32 &&& Int32.toUInt32 31)).toInt32) &&& (1431655765 : Int32)))).toUInt32 >>> (((2 : Int32)).toUInt32 &&& Int32.toUInt32 31)).toInt32) &&& (858993459 : Int32))) + ((((((p0 - ((((p0).toUInt32 >>> (((1 : Int32)).toUInt32 &&& Int32.toUInt32 31)).toInt32) &&& (1431655765 : Int32))) &&& (858993459 : Int32)) + (((((p0 - ((((p0).toUInt32 >>> (((1 : Int32)).toUInt32 &&& Int32.toUInt32 31)).toInt32) &&& (1431655765 : Int32)))).toUInt32 >>> (((2 : Int32)).toUInt32 &&& Int32.toUInt32 31)).toInt32) &&& (858993459 : Int32)))).toUInt32 >>> (((4 : Int32)).toUInt32 &&& Int32.toUInt32 31)).toInt32)) &&& (252645135 : Int32))).toUInt32 >>> (((8 : Int32)).toUInt32 &&& Int32.toUInt32 31)).toInt32)) + (((((((((p0 - ((((p0).toUInt32 >>> (((1 : Int32)).toUInt32 &&& Int32.toUInt32 31)).toInt32) &&& (1431655765 : Int32))) &&& (858993459 : Int32)) + (((((p0 - ((((p0).toUInt32 >>> (((1 : Int32)).toUInt32 &&& Int32.toUInt32 31)).toInt32) &&& (1431655765 : Int32)))).toUInt32 >>> (((2 : Int32)).toUInt32 &&& Int32.toUInt32 31)).toInt32) &&& (858993459 : Int32))) + ((((((p0 - ((((p0).toUInt32 >>> (((1 : Int32)).toUInt32 &&& Int32.toUInt32 31)).toInt32) &&& (1431655765 : Int32))) &&& (858993459 : Int32)) + (((((p0 - ((((p0).toUInt32 >>> (((1 : Int32)).toUInt32 &&& Int32.toUInt32 31)).toInt32) &&& (1431655765 : Int32)))).toUInt32 >>> (((2 : Int32)).toUInt32 &&& Int32.toUInt32 31)).toInt32) &&& (858993459 : Int32)))).toUInt32 >>> (((4 : Int32)).toUInt32 &&& Int32.toUInt32 31)).toInt32)) &&& (252645135 : Int32)) + ((((((((p0 - ((((p0).toUInt32 >>> (((1 : Int32)).toUInt32 &&& Int32.toUInt32 31)).toInt32) &&& (1431655765 : Int32))) &&& (858993459 : Int32)) + (((((p0 - ((((p0).toUInt32 >>> (((1 : Int32)).toUInt32 &&& Int32.toUInt32 31)).toInt32) &&& (1431655765 : Int32)))).toUInt32 >>> (((2 : Int32)).toUInt32 &&& Int32.toUInt32 31)).toInt32) &&& (858993459 : Int32))) + ((((((p0 - ((((p0).toUInt32 >>> (((1 : Int32)).toUInt32 &&& Int32.toUInt32 31)).toInt32) &&& (1431655765 : Int32))) &&& (858993459 : Int32)) + (((((p0 - ((((p0).toUInt32 >>> (((1 : Int32)).toUInt32 &&& Int32.toUInt32 31)).toInt32) &&& (1431655765 : Int32)))).toUInt32 >>> (((2 : Int32)).toUInt32 &&& Int32.toUInt32 31)).toInt32) &&& (858993459 : Int32)))).toUInt32 >>> (((4 : Int32)).toUInt32 &&& Int32.toUInt32 31)).toInt32)) &&& (252645135 : Int32))).toUInt32 >>> (((8 : Int32)).toUInt32 &&& Int32.toUInt32 31)).toInt32))).toUInt32 >>> (((16 : Int32)).toUInt32 &&& Int32.toUInt32 31)).toInt32))]) (S' := [.int ((((((((p0 - ((((p0).toUInt32 >>> (((1 : Int32)).toUInt32 &&& Int32.toUInt32 31)).toInt32) &&& (1431655765 : Int32))) &&& (858993459 : Int32)) + (((((p0 - ((((p0).toUInt32 >>> (((1 : Int32)).toUInt32 &&& Int32.toUInt32 31)).toInt32) &&& (1431655765 : Int32)))).toUInt32 >>> (((2 : Int32)).toUInt32 &&& Int32.toUInt32 31)).toInt32) &&& (858993459 : Int32))) + ((((((p0 - ((((p0).toUInt32 >>> (((1 : Int32)).toUInt32 &&& Int32.toUInt32 31)).toInt32) &&& (1431655765 : Int32))) &&& (858993459 : Int32)) + (((((p0 - ((((p0).toUInt32 >>> (((1 : Int32)).toUInt32 &&& Int32.toUInt32 31)).toInt32) &&& (1431655765 : Int32)))).toUInt32 >>> (((2 : Int32)).toUInt32 &&& Int32.toUInt32 31)).toInt32) &&& (858993459 : Int32)))).toUInt32 >>> (((4 : Int32)).toUInt32 &&& Int32.toUInt32 31)).toInt32)) &&& (252645135 : Int32)) + ((((((((p0 - ((((p0).toUInt32 >>> (((1 : Int32)).toUInt32 &&& Int32.toUInt32 31)).toInt32) &&& (1431655765 : Int32))) &&& (858993459 : Int32)) + (((((p0 - ((((p0).toUInt32 >>> (((1 : Int32)).toUInt32 &&& Int32.toUInt32 31)).toInt32) &&& (1431655765 : Int32)))).toUInt32 >>> (((2 : Int32)).toUInt32 &&& Int32.toUInt32 31)).toInt32) &&& (858993459 : Int32))) + ((((((p0 - ((((p0).toUInt32 >>> (((1 : Int32)).toUInt32 &&& Int32.toUInt32 31)).toInt32) &&& (1431655765 : Int32))) &&& (858993459 : Int32)) + (((((p0 - ((((p0).toUInt32 >>> (((1 : Int32)).toUInt32 &&& Int32.toUInt32 31)).toInt32) &&& (1431655765 : Int32)))).toUInt32 >>> (((2 : Int32)).toUInt32 &&& Int32.toUInt32 31)).toInt32) &&& (858993459 : Int32)))).toUInt32 >>> (((4 : Int32)).toUInt32 &&& Int32.toUInt32 31)).toInt32)) &&& (252645135 : Int32))).toUInt32 >>> (((8 : Int32)).toUInt32 &&& Int32.toUInt32 31)).toInt32)) + (((((((((p0 - ((((p0).toUInt32 >>> (((1 : Int32)).toUInt32 &&& Int32.toUInt32 31)).toInt32) &&& (1431655765 : Int32))) &&& (858993459 : Int32)) + (((((p0 - ((((p0).toUInt32 >>> (((1 : Int32)).toUInt32 &&& Int32.toUInt32 31)).toInt32) &&& (1431655765 : Int32)))).toUInt32 >>> (((2 : Int32)).toUInt32 &&& Int32.toUInt32 31)).toInt32) &&& (858993459 : Int32))) + ((((((p0 - ((((p0).toUInt32 >>> (((1 : Int32)).toUInt32 &&& Int32.toUInt32 31)).toInt32) &&& (1431655765 : Int32))) &&& (858993459 : Int32)) + (((((p0 - ((((p0).toUInt32 >>> (((1 : Int32)).toUInt32 &&& Int32.toUInt32 31)).toInt32) &&& (1431655765 : Int32)))).toUInt32 >>> (((2 : Int32)).toUInt32 &&& Int32.toUInt32 31)).toInt32) &&& (858993459 : Int32)))).toUInt32 >>> (((4 : Int32)).toUInt32 &&& Int32.toUInt32 31)).toInt32)) &&& (252645135 : Int32)) + ((((((((p0 - ((((p0).toUInt32 >>> (((1 : Int32)).toUInt32 &&& Int32.toUInt32 31)).toInt32) &&& (1431655765 : Int32))) &&& (858993459 : Int32)) + (((((p0 - ((((p0).toUInt32 >>> (((1 : Int32)).toUInt32 &&& Int32.toUInt32 31)).toInt32) &&& (1431655765 : Int32)))).toUInt32 >>> (((2 : Int32)).toUInt32 &&& Int32.toUInt32 31)).toInt32) &&& (858993459 : Int32))) + ((((((p0 - ((((p0).toUInt32 >>> (((1 : Int32)).toUInt32 &&& Int32.toUInt32 31)).toInt32) &&& (1431655765 : Int32))) &&& (858993459 : Int32)) + (((((p0 - ((((p0).toUInt32 >>> (((1 : Int32)).toUInt32 &&& Int32.toUInt32 31)).toInt32) &&& (1431655765 : Int32)))).toUInt32 >>> (((2 : Int32)).toUInt32 &&& Int32.toUInt32 31)).toInt32) &&& (858993459 : Int32)))).toUInt32 >>> (((4 : Int32)).toUInt32 &&& Int32.toUInt32 31)).toInt32)) &&& (252645135 : Int32))).toUInt32 >>> (((8 : Int32)).toUInt32 &&& Int32.toUInt32 31)).toInt32))).toUInt32 >>> (((16 : Int32)).toUInt32 &&& Int32.toUInt32 31)).toInt32)) &&& (63 : Int32))]) (h' := hpS s) rfl ?_
  exact Ex.rt hq rfl rfl ⟨((((((((p0 - ((((p0).toUInt32 >>> (((1 : Int32)).toUInt32 &&& Int32.toUInt32 31)).toInt32) &&& (1431655765 : Int32))) &&& (858993459 : Int32)) + (((((p0 - ((((p0).toUInt32 >>> (((1 : Int32)).toUInt32 &&& Int32.toUInt32 31)).toInt32) &&& (1431655765 : Int32)))).toUInt32 >>> (((2 : Int32)).toUInt32 &&& Int32.toUInt32 31)).toInt32) &&& (858993459 : Int32))) + ((((((p0 - ((((p0).toUInt32 >>> (((1 : Int32)).toUInt32 &&& Int32.toUInt32 31)).toInt32) &&& (1431655765 : Int32))) &&& (858993459 : Int32)) + (((((p0 - ((((p0).toUInt32 >>> (((1 : Int32)).toUInt32 &&& Int32.toUInt32 31)).toInt32) &&& (1431655765 : Int32)))).toUInt32 >>> (((2 : Int32)).toUInt32 &&& Int32.toUInt32 31)).toInt32) &&& (858993459 : Int32)))).toUInt32 >>> (((4 : Int32)).toUInt32 &&& Int32.toUInt32 31)).toInt32)) &&& (252645135 : Int32)) + ((((((((p0 - ((((p0).toUInt32 >>> (((1 : Int32)).toUInt32 &&& Int32.toUInt32 31)).toInt32) &&& (1431655765 : Int32))) &&& (858993459 : Int32)) + (((((p0 - ((((p0).toUInt32 >>> (((1 : Int32)).toUInt32 &&& Int32.toUInt32 31)).toInt32) &&& (1431655765 : Int32)))).toUInt32 >>> (((2 : Int32)).toUInt32 &&& Int32.toUInt32 31)).toInt32) &&& (858993459 : Int32))) + ((((((p0 - ((((p0).toUInt32 >>> (((1 : Int32)).toUInt32 &&& Int32.toUInt32 31)).toInt32) &&& (1431655765 : Int32))) &&& (858993459 : Int32)) + (((((p0 - ((((p0).toUInt32 >>> (((1 : Int32)).toUInt32 &&& Int32.toUInt32 31)).toInt32) &&& (1431655765 : Int32)))).toUInt32 >>> (((2 : Int32)).toUInt32 &&& Int32.toUInt32 31)).toInt32) &&& (858993459 : Int32)))).toUInt32 >>> (((4 : Int32)).toUInt32 &&& Int32.toUInt32 31)).toInt32)) &&& (252645135 : Int32))).toUInt32 >>> (((8 : Int32)).toUInt32 &&& Int32.toUInt32 31)).toInt32)) + (((((((((p0 - ((((p0).toUInt32 >>> (((1 : Int32)).toUInt32 &&& Int32.toUInt32 31)).toInt32) &&& (1431655765 : Int32))) &&& (858993459 : Int32)) + (((((p0 - ((((p0).toUInt32 >>> (((1 : Int32)).toUInt32 &&& Int32.toUInt32 31)).toInt32) &&& (1431655765 : Int32)))).toUInt32 >>> (((2 : Int32)).toUInt32 &&& Int32.toUInt32 31)).toInt32) &&& (858993459 : Int32))) + ((((((p0 - ((((p0).toUInt32 >>> (((1 : Int32)).toUInt32 &&& Int32.toUInt32 31)).toInt32) &&& (1431655765 : Int32))) &&& (858993459 : Int32)) + (((((p0 - ((((p0).toUInt32 >>> (((1 : Int32)).toUInt32 &&& Int32.toUInt32 31)).toInt32) &&& (1431655765 : Int32)))).toUInt32 >>> (((2 : Int32)).toUInt32 &&& Int32.toUInt32 31)).toInt32) &&& (858993459 : Int32)))).toUInt32 >>> (((4 : Int32)).toUInt32 &&& Int32.toUInt32 31)).toInt32)) &&& (252645135 : Int32)) + ((((((((p0 - ((((p0).toUInt32 >>> (((1 : Int32)).toUInt32 &&& Int32.toUInt32 31)).toInt32) &&& (1431655765 : Int32))) &&& (858993459 : Int32)) + (((((p0 - ((((p0).toUInt32 >>> (((1 : Int32)).toUInt32 &&& Int32.toUInt32 31)).toInt32) &&& (1431655765 : Int32)))).toUInt32 >>> (((2 : Int32)).toUInt32 &&& Int32.toUInt32 31)).toInt32) &&& (858993459 : Int32))) + ((((((p0 - ((((p0).toUInt32 >>> (((1 : Int32)).toUInt32 &&& Int32.toUInt32 31)).toInt32) &&& (1431655765 : Int32))) &&& (858993459 : Int32)) + (((((p0 - ((((p0).toUInt32 >>> (((1 : Int32)).toUInt32 &&& Int32.toUInt32 31)).toInt32) &&& (1431655765 : Int32)))).toUInt32 >>> (((2 : Int32)).toUInt32 &&& Int32.toUInt32 31)).toInt32) &&& (858993459 : Int32)))).toUInt32 >>> (((4 : Int32)).toUInt32 &&& Int32.toUInt32 31)).toInt32)) &&& (252645135 : Int32))).toUInt32 >>> (((8 : Int32)).toUInt32 &&& Int32.toUInt32 31)).toInt32))).toUInt32 >>> (((16 : Int32)).toUInt32 &&& Int32.toUInt32 31)).toInt32)) &&& (63 : Int32)), s, rfl, rfl, k⟩
/-- java/lang/StringLatin1.canEncode(I)Z -/
def w_289 (p0 : Int32) (s : ST) (K : Int32 → ST → Prop) : Prop := ((p0 < 0 → K (0 : Int32) s) ∧ (¬ (p0 < 0) → (((255 : Int32) < p0 → K (0 : Int32) s) ∧ (¬ ((255 : Int32) < p0) → K (1 : Int32) s))))
theorem q_289 {d : Nat} {K : Int32 → ST → Prop} (p0 : Int32) (s : ST) (k : w_289 p0 s K) : Rn sc (d + 0) 289 [.int p0] (hpS s) (kZ K) := by
  have hq : prog[289]? = some pm289 := rfl
  refine Rn.of (L := [.int p0]) hq rfl rfl ?_
  unfold w_289 at k
  refine Ex.seg hq 1 (j := 1) (L' := [.int p0]) (S' := [.int p0]) (h' := hpS s) rfl ?_
  refine Ex.i1 hq rfl (fun c => ?_) (fun c => ?_)
  · have k := k.1 c
    refine Ex.seg hq 1 (j := 8) (L' := [.int p0]) (S' := [.int (0 : Int32)]) (h' := hpS s) rfl ?_
    exact Ex.zr hq rfl rfl (Or.inl rfl) ⟨(0 : Int32), s, rfl, (Or.inl rfl), rfl, k⟩
  · have k := k.2 c
    refine Ex.seg hq 2 (j := 4) (L' := [.int p0]) (S' := [.int (255 : Int32), .int p0]) (h' := hpS s) rfl ?_
    refine Ex.i2 hq rfl (fun c => ?_) (fun c => ?_)
    · have k := k.1 c
      refine Ex.seg hq 1 (j := 8) (L' := [.int p0]) (S' := [.int (0 : Int32)]) (h' := hpS s) rfl ?_
      exact Ex.zr hq rfl rfl (Or.inl rfl) ⟨(0 : Int32), s, rfl, (Or.inl rfl), rfl, k⟩
    · have k := k.2 c
      refine Ex.seg hq 2 (j := 8) (L' := [.int p0]) (S' := [.int (1 : Int32)]) (h' := hpS s) rfl ?_
      exact Ex.zr hq rfl rfl (Or.inr rfl) ⟨(1 : Int32), s, rfl, (Or.inr rfl), rfl, k⟩
/-- RowAuditor$Books.isLater(II)Z -/
def w_7 (p0 : Int32) (p1 : Int32) (s : ST) (K : Int32 → ST → Prop) : Prop := w_9 p0 (3 : Int32) s (fun r2 s1 => w_9 p1 (3 : Int32) s1 (fun r4 s3 => ((0 < (r2 - r4) → K (1 : Int32) s3) ∧ (¬ (0 < (r2 - r4)) → ((¬ (r2 - r4) = 0 → K (0 : Int32) s3) ∧ (¬ (¬ (r2 - r4) = 0) → w_9 p0 (4 : Int32) s3 (fun r6 s5 => w_9 p1 (4 : Int32) s5 (fun r8 s7 => ((r6 ≤ r8 → K (0 : Int32) s7) ∧ (¬ (r6 ≤ r8) → K (1 : Int32) s7))))))))))
theorem q_7 {d : Nat} {K : Int32 → ST → Prop} (p0 : Int32) (p1 : Int32) (s : ST) (k : w_7 p0 p1 s K) : Rn sc (d + 1) 7 [.ref 1, .int p0, .int p1] (hpS s) (kZ K) := by
  have hq : prog[7]? = some pm7 := rfl
  refine Rn.of (L := [.ref 1, .int p0, .int p1, pu]) hq rfl rfl ?_
  unfold w_7 at k
  refine Ex.seg hq 3 (j := 3) (L' := [.ref 1, .int p0, .int p1, pu]) (S' := [.int (3 : Int32), .int p0, .ref 1]) (h' := hpS s) rfl ?_
  refine Ex.cl hq rfl rfl ?_
  refine Rn.mono (q_9 (d := d + 0) p0 (3 : Int32) s k) ?_
  rintro _ _ ⟨r2, s1, rfl, rfl, k⟩
  show Ex sc (d + 1) 7 4 [.ref 1, .int p0, .int p1, pu] [.int r2] (hpS s1) _
  refine Ex.seg hq 3 (j := 7) (L' := [.ref 1, .int p0, .int p1, pu]) (S' := [.int (3 : Int32), .int p1, .ref 1, .int r2]) (h' := hpS s1) rfl ?_
  refine Ex.cl hq rfl rfl ?_
  refine Rn.mono (q_9 (d := d + 0) p1 (3 : Int32) s1 k) ?_
  rintro _ _ ⟨r4, s3, rfl, rfl, k⟩
  show Ex sc (d + 1) 7 8 [.ref 1, .int p0, .int p1, pu] [.int r4, .int r2] (hpS s3) _
  refine Ex.seg hq 3 (j := 11) (L' := [.ref 1, .int p0, .int p1, .int (r2 - r4)]) (S' := [.int (r2 - r4)]) (h' := hpS s3) rfl ?_
  refine Ex.i1 hq rfl (fun c => ?_) (fun c => ?_)
  · have k := k.1 c
    refine Ex.seg hq 2 (j := 26) (L' := [.ref 1, .int p0, .int p1, .int (r2 - r4)]) (S' := [.int (1 : Int32)]) (h' := hpS s3) rfl ?_
    exact Ex.zr hq rfl rfl (Or.inr rfl) ⟨(1 : Int32), s3, rfl, (Or.inr rfl), rfl, k⟩
  · have k := k.2 c
    refine Ex.seg hq 1 (j := 13) (L' := [.ref 1, .int p0, .int p1, .int (r2 - r4)]) (S' := [.int (r2 - r4)]) (h' := hpS s3) rfl ?_
    refine Ex.i1 hq rfl (fun c => ?_) (fun c => ?_)
    · have k := k.1 c
      refine Ex.seg hq 1 (j := 26) (L' := [.ref 1, .int p0, .int p1, .int (r2 - r4)]) (S' := [.int (0 : Int32)]) (h' := hpS s3) rfl ?_
      exact Ex.zr hq rfl rfl (Or.inl rfl) ⟨(0 : Int32), s3, rfl, (Or.inl rfl), rfl, k⟩
    · have k := k.2 c
      refine Ex.seg hq 3 (j := 17) (L' := [.ref 1, .int p0, .int p1, .int (r2 - r4)]) (S' := [.int (4 : Int32), .int p0, .ref 1]) (h' := hpS s3) rfl ?_
      refine Ex.cl hq rfl rfl ?_
      refine Rn.mono (q_9 (d := d + 0) p0 (4 : Int32) s3 k) ?_
      rintro _ _ ⟨r6, s5, rfl, rfl, k⟩
      show Ex sc (d + 1) 7 18 [.ref 1, .int p0, .int p1, .int (r2 - r4)] [.int r6] (hpS s5) _
      refine Ex.seg hq 3 (j := 21) (L' := [.ref 1, .int p0, .int p1, .int (r2 - r4)]) (S' := [.int (4 : Int32), .int p1, .ref 1, .int r6]) (h' := hpS s5) rfl ?_
      refine Ex.cl hq rfl rfl ?_
      refine Rn.mono (q_9 (d := d + 0) p1 (4 : Int32) s5 k) ?_
      rintro _ _ ⟨r8, s7, rfl, rfl, k⟩
      show Ex sc (d + 1) 7 22 [.ref 1, .int p0, .int p1, .int (r2 - r4)] [.int r8, .int r6] (hpS s7) _
      refine Ex.i2 hq rfl (fun c => ?_) (fun c => ?_)
      · have k := k.1 c
        refine Ex.seg hq 1 (j := 26) (L' := [.ref 1, .int p0, .int p1, .int (r2 - r4)]) (S' := [.int (0 : Int32)]) (h' := hpS s7) rfl ?_
        exact Ex.zr hq rfl rfl (Or.inl rfl) ⟨(0 : Int32), s7, rfl, (Or.inl rfl), rfl, k⟩
      · have k := k.2 c
        refine Ex.seg hq 2 (j := 26) (L' := [.ref 1, .int p0, .int p1, .int (r2 - r4)]) (S' := [.int (1 : Int32)]) (h' := hpS s7) rfl ?_
        exact Ex.zr hq rfl rfl (Or.inr rfl) ⟨(1 : Int32), s7, rfl, (Or.inr rfl), rfl, k⟩
/-- RowAuditor$Facts.face(I)V -/
def w_20 (p0 : Int32) (s : ST) (K : ST → Prop) : Prop := w_9 p0 (7 : Int32) s (fun r2 s1 => w_9 p0 (0 : Int32) s1 (fun r4 s3 => (pin (0 : Int32) 13 = true ∧ w_119 p0 (sL s3 17 (vp_updL (s3.2.2.1 17) ((0 : Int32)).toNatClampNeg ((r4).toInt64))) (fun r6 s5 => (pin (1 : Int32) 13 = true ∧ w_9 p0 (3 : Int32) (sL s5 17 (vp_updL (s5.2.2.1 17) ((1 : Int32)).toNatClampNeg ((r6).toInt64))) (fun r8 s7 => (pin (2 : Int32) 13 = true ∧ w_9 p0 (4 : Int32) (sL s7 17 (vp_updL (s7.2.2.1 17) ((2 : Int32)).toNatClampNeg ((r8).toInt64))) (fun r10 s9 => (pin (3 : Int32) 13 = true ∧ w_9 p0 (6 : Int32) (sL s9 17 (vp_updL (s9.2.2.1 17) ((3 : Int32)).toNatClampNeg ((r10).toInt64))) (fun r12 s11 => (pin (4 : Int32) 13 = true ∧ ((¬ r2 = (s11.1 1600) → (pin (5 : Int32) 13 = true ∧ w_9 p0 (1 : Int32) (sL s11 17 (vp_updL (vp_updL (s11.2.2.1 17) ((4 : Int32)).toNatClampNeg ((r12).toInt64)) ((5 : Int32)).toNatClampNeg ((r2).toInt64))) (fun r14 s13 => (pin (6 : Int32) 13 = true ∧ w_16 p0 (sL s13 17 (vp_updL (s13.2.2.1 17) ((6 : Int32)).toNatClampNeg ((r14).toInt64))) (fun r16 s15 => (pin (7 : Int32) 13 = true ∧ w_15 p0 (sL s15 17 (vp_updL (s15.2.2.1 17) ((7 : Int32)).toNatClampNeg ((r16).toInt64))) (fun r18 s17 => (pin (8 : Int32) 13 = true ∧ w_9 p0 (8 : Int32) (sL s17 17 (vp_updL (s17.2.2.1 17) ((8 : Int32)).toNatClampNeg ((r18).toInt64))) (fun r20 s19 => (pin (9 : Int32) 13 = true ∧ w_9 p0 (9 : Int32) (sL s19 17 (vp_updL (s19.2.2.1 17) ((9 : Int32)).toNatClampNeg ((r20).toInt64))) (fun r22 s21 => w_9 p0 (3 : Int32) s21 (fun r24 s23 => (pin (10 : Int32) 13 = true ∧ w_121 p0 (sL s23 17 (vp_updL (s23.2.2.1 17) ((10 : Int32)).toNatClampNeg (((r22 - r24)).toInt64))) (fun r26 s25 => (pin (11 : Int32) 13 = true ∧ w_122 p0 (sL s25 17 (vp_updL (s25.2.2.1 17) ((11 : Int32)).toNatClampNeg ((r26).toInt64))) (fun r28 s27 => (pin (12 : Int32) 13 = true ∧ K (sL s27 17 (vp_updL (s27.2.2.1 17) ((12 : Int32)).toNatClampNeg ((r28).toInt64)))))))))))))))))))) ∧ (¬ (¬ r2 = (s11.1 1600)) → (pin (5 : Int32) 13 = true ∧ w_9 p0 (1 : Int32) (sL s11 17 (vp_updL (vp_updL (s11.2.2.1 17) ((4 : Int32)).toNatClampNeg ((r12).toInt64)) ((5 : Int32)).toNatClampNeg (-1 : Int64))) (fun r30 s29 => (pin (6 : Int32) 13 = true ∧ w_16 p0 (sL s29 17 (vp_updL (s29.2.2.1 17) ((6 : Int32)).toNatClampNeg ((r30).toInt64))) (fun r32 s31 => (pin (7 : Int32) 13 = true ∧ w_15 p0 (sL s31 17 (vp_updL (s31.2.2.1 17) ((7 : Int32)).toNatClampNeg ((r32).toInt64))) (fun r34 s33 => (pin (8 : Int32) 13 = true ∧ w_9 p0 (8 : Int32) (sL s33 17 (vp_updL (s33.2.2.1 17) ((8 : Int32)).toNatClampNeg ((r34).toInt64))) (fun r36 s35 => (pin (9 : Int32) 13 = true ∧ w_9 p0 (9 : Int32) (sL s35 17 (vp_updL (s35.2.2.1 17) ((9 : Int32)).toNatClampNeg ((r36).toInt64))) (fun r38 s37 => w_9 p0 (3 : Int32) s37 (fun r40 s39 => (pin (10 : Int32) 13 = true ∧ w_121 p0 (sL s39 17 (vp_updL (s39.2.2.1 17) ((10 : Int32)).toNatClampNeg (((r38 - r40)).toInt64))) (fun r42 s41 => (pin (11 : Int32) 13 = true ∧ w_122 p0 (sL s41 17 (vp_updL (s41.2.2.1 17) ((11 : Int32)).toNatClampNeg ((r42).toInt64))) (fun r44 s43 => (pin (12 : Int32) 13 = true ∧ K (sL s43 17 (vp_updL (s43.2.2.1 17) ((12 : Int32)).toNatClampNeg ((r44).toInt64))))))))))))))))))))))))))))))))
theorem q_20 {d : Nat} {K : ST → Prop} (p0 : Int32) (s : ST) (k : w_20 p0 s K) : Rn sc (d + 2) 20 [.ref 16, .int p0] (hpS s) (kV K) := by
  have hq : prog[20]? = some pm20 := rfl
  refine Rn.of (L := [.ref 16, .int p0, pu]) hq rfl rfl ?_
  unfold w_20 at k
  refine Ex.seg hq 4 (j := 4) (L' := [.ref 16, .int p0, pu]) (S' := [.int (7 : Int32), .int p0, .ref 1]) (h' := hpS s) rfl ?_
  refine Ex.cl hq rfl rfl ?_
  refine Rn.mono (q_9 (d := d + 1) p0 (7 : Int32) s k) ?_
  rintro _ _ ⟨r2, s1, rfl, rfl, k⟩
  show Ex sc (d + 2) 20 5 [.ref 16, .int p0, pu] [.int r2] (hpS s1) _
  refine Ex.seg hq 8 (j := 13) (L' := [.ref 16, .int p0, .int r2]) (S' := [.int (0 : Int32), .int p0, .ref 1, .int (0 : Int32), .ref 17]) (h' := hpS s1) rfl ?_
  refine Ex.cl hq rfl rfl ?_
  refine Rn.mono (q_9 (d := d + 1) p0 (0 : Int32) s1 k) ?_
  rintro _ _ ⟨r4, s3, rfl, rfl, k⟩
  show Ex sc (d + 2) 20 14 [.ref 16, .int p0, .int r2] [.int r4, .int (0 : Int32), .ref 17] (hpS s3) _
  refine Ex.seg hq 1 (j := 15) (L' := [.ref 16, .int p0, .int r2]) (S' := [.long ((r4).toInt64), .int (0 : Int32), .ref 17]) (h' := hpS s3) rfl ?_
  obtain ⟨hin, k⟩ := k
  refine Ex.las hq rfl rfl hin (h' := hpS (sL s3 17 (vp_updL (s3.2.2.1 17) ((0 : Int32)).toNatClampNeg ((r4).toInt64)))) (hset_17 _ _) ?_
  refine Ex.seg hq 6 (j := 22) (L' := [.ref 16, .int p0, .int r2]) (S' := [.int p0, .ref 8, .int (1 : Int32), .ref 17]) (h' := hpS (sL s3 17 (vp_updL (s3.2.2.1 17) ((0 : Int32)).toNatClampNeg ((r4).toInt64)))) rfl ?_
  refine Ex.cl hq rfl rfl ?_
  refine Rn.mono (q_119 (d := d + 1) p0 (sL s3 17 (vp_updL (s3.2.2.1 17) ((0 : Int32)).toNatClampNeg ((r4).toInt64))) k) ?_
  rintro _ _ ⟨r6, s5, rfl, rfl, k⟩
  show Ex sc (d + 2) 20 23 [.ref 16, .int p0, .int r2] [.int r6, .int (1 : Int32), .ref 17] (hpS s5) _
  refine Ex.seg hq 1 (j := 24) (L' := [.ref 16, .int p0, .int r2]) (S' := [.long ((r6).toInt64), .int (1 : Int32), .ref 17]) (h' := hpS s5) rfl ?_
  obtain ⟨hin, k⟩ := k
  refine Ex.las hq rfl rfl hin (h' := hpS (sL s5 17 (vp_updL (s5.2.2.1 17) ((1 : Int32)).toNatClampNeg ((r6).toInt64)))) (hset_17 _ _) ?_
  refine Ex.seg hq 7 (j := 32) (L' := [.ref 16, .int p0, .int r2]) (S' := [.int (3 : Int32), .int p0, .ref 1, .int (2 : Int32), .ref 17]) (h' := hpS (sL s5 17 (vp_updL (s5.2.2.1 17) ((1 : Int32)).toNatClampNeg ((r6).toInt64)))) rfl ?_
  refine Ex.cl hq rfl rfl ?_
  refine Rn.mono (q_9 (d := d + 1) p0 (3 : Int32) (sL s5 17 (vp_updL (s5.2.2.1 17) ((1 : Int32)).toNatClampNeg ((r6).toInt64))) k) ?_
  rintro _ _ ⟨r8, s7, rfl, rfl, k⟩
  show Ex sc (d + 2) 20 33 [.ref 16, .int p0, .int r2] [.int r8, .int (2 : Int32), .ref 17] (hpS s7) _
  refine Ex.seg hq 1 (j := 34) (L' := [.ref 16, .int p0, .int r2]) (S' := [.long ((r8).toInt64), .int (2 : Int32), .ref 17]) (h' := hpS s7) rfl ?_
  obtain ⟨hin, k⟩ := k
  refine Ex.las hq rfl rfl hin (h' := hpS (sL s7 17 (vp_updL (s7.2.2.1 17) ((2 : Int32)).toNatClampNeg ((r8).toInt64)))) (hset_17 _ _) ?_
  refine Ex.seg hq 7 (j := 42) (L' := [.ref 16, .int p0, .int r2]) (S' := [.int (4 : Int32), .int p0, .ref 1, .int (3 : Int32), .ref 17]) (h' := hpS (sL s7 17 (vp_updL (s7.2.2.1 17) ((2 : Int32)).toNatClampNeg ((r8).toInt64)))) rfl ?_
  refine Ex.cl hq rfl rfl ?_
  refine Rn.mono (q_9 (d := d + 1) p0 (4 : Int32) (sL s7 17 (vp_updL (s7.2.2.1 17) ((2 : Int32)).toNatClampNeg ((r8).toInt64))) k) ?_
  rintro _ _ ⟨r10, s9, rfl, rfl, k⟩
  show Ex sc (d + 2) 20 43 [.ref 16, .int p0, .int r2] [.int r10, .int (3 : Int32), .ref 17] (hpS s9) _
  refine Ex.seg hq 1 (j := 44) (L' := [.ref 16, .int p0, .int r2]) (S' := [.long ((r10).toInt64), .int (3 : Int32), .ref 17]) (h' := hpS s9) rfl ?_
  obtain ⟨hin, k⟩ := k
  refine Ex.las hq rfl rfl hin (h' := hpS (sL s9 17 (vp_updL (s9.2.2.1 17) ((3 : Int32)).toNatClampNeg ((r10).toInt64)))) (hset_17 _ _) ?_
  refine Ex.seg hq 7 (j := 52) (L' := [.ref 16, .int p0, .int r2]) (S' := [.int (6 : Int32), .int p0, .ref 1, .int (4 : Int32), .ref 17]) (h' := hpS (sL s9 17 (vp_updL (s9.2.2.1 17) ((3 : Int32)).toNatClampNeg ((r10).toInt64)))) rfl ?_
  refine Ex.cl hq rfl rfl ?_
  refine Rn.mono (q_9 (d := d + 1) p0 (6 : Int32) (sL s9 17 (vp_updL (s9.2.2.1 17) ((3 : Int32)).toNatClampNeg ((r10).toInt64))) k) ?_
  rintro _ _ ⟨r12, s11, rfl, rfl, k⟩
  show Ex sc (d + 2) 20 53 [.ref 16, .int p0, .int r2] [.int r12, .int (4 : Int32), .ref 17] (hpS s11) _
  refine Ex.seg hq 1 (j := 54) (L' := [.ref 16, .int p0, .int r2]) (S' := [.long ((r12).toInt64), .int (4 : Int32), .ref 17]) (h' := hpS s11) rfl ?_
  obtain ⟨hin, k⟩ := k
  refine Ex.las hq rfl rfl hin (h' := hpS (sL s11 17 (vp_updL (s11.2.2.1 17) ((4 : Int32)).toNatClampNeg ((r12).toInt64)))) (hset_17 _ _) ?_
  refine Ex.seg hq 6 (j := 61) (L' := [.ref 16, .int p0, .int r2]) (S' := [.int (s11.1 1600), .int r2, .int (5 : Int32), .ref 17]) (h' := hpS (sL s11 17 (vp_updL (s11.2.2.1 17) ((4 : Int32)).toNatClampNeg ((r12).toInt64)))) rfl ?_
  refine Ex.i2 hq rfl (fun c => ?_) (fun c => ?_)
  · have k := k.1 c
    refine Ex.seg hq 2 (j := 66) (L' := [.ref 16, .int p0, .int r2]) (S' := [.long ((r2).toInt64), .int (5 : Int32), .ref 17]) (h' := hpS (sL s11 17 (vp_updL (s11.2.2.1 17) ((4 : Int32)).toNatClampNeg ((r12).toInt64)))) rfl ?_
    obtain ⟨hin, k⟩ := k
    refine Ex.las hq rfl rfl hin (h' := hpS (sL s11 17 (vp_updL (vp_updL (s11.2.2.1 17) ((4 : Int32)).toNatClampNeg ((r12).toInt64)) ((5 : Int32)).toNatClampNeg ((r2).toInt64)))) (hset_17 _ _) ?_
    refine Ex.seg hq 7 (j := 74) (L' := [.ref 16, .int p0, .int r2]) (S' := [.int (1 : Int32), .int p0, .ref 1, .int (6 : Int32), .ref 17]) (h' := hpS (sL s11 17 (vp_updL (vp_updL (s11.2.2.1 17) ((4 : Int32)).toNatClampNeg ((r12).toInt64)) ((5 : Int32)).toNatClampNeg ((r2).toInt64)))) rfl ?_
    refine Ex.cl hq rfl rfl ?_
    refine Rn.mono (q_9 (d := d + 1) p0 (1 : Int32) (sL s11 17 (vp_updL (vp_updL (s11.2.2.1 17) ((4 : Int32)).toNatClampNeg ((r12).toInt64)) ((5 : Int32)).toNatClampNeg ((r2).toInt64))) k) ?_
    rintro _ _ ⟨r14, s13, rfl, rfl, k⟩
    show Ex sc (d + 2) 20 75 [.ref 16, .int p0, .int r2] [.int r14, .int (6 : Int32), .ref 17] (hpS s13) _
    refine Ex.seg hq 1 (j := 76) (L' := [.ref 16, .int p0, .int r2]) (S' := [.long ((r14).toInt64), .int (6 : Int32), .ref 17]) (h' := hpS s13) rfl ?_
    obtain ⟨hin, k⟩ := k
    refine Ex.las hq rfl rfl hin (h' := hpS (sL s13 17 (vp_updL (s13.2.2.1 17) ((6 : Int32)).toNatClampNeg ((r14).toInt64)))) (hset_17 _ _) ?_
    refine Ex.seg hq 6 (j := 83) (L' := [.ref 16, .int p0, .int r2]) (S' := [.int p0, .ref 1, .int (7 : Int32), .ref 17]) (h' := hpS (sL s13 17 (vp_updL (s13.2.2.1 17) ((6 : Int32)).toNatClampNeg ((r14).toInt64)))) rfl ?_
    refine Ex.cl hq rfl rfl ?_
    refine Rn.mono (q_16 (d := d + 0) p0 (sL s13 17 (vp_updL (s13.2.2.1 17) ((6 : Int32)).toNatClampNeg ((r14).toInt64))) k) ?_
    rintro _ _ ⟨r16, s15, rfl, rfl, k⟩
    show Ex sc (d + 2) 20 84 [.ref 16, .int p0, .int r2] [.int r16, .int (7 : Int32), .ref 17] (hpS s15) _
    refine Ex.seg hq 1 (j := 85) (L' := [.ref 16, .int p0, .int r2]) (S' := [.long ((r16).toInt64), .int (7 : Int32), .ref 17]) (h' := hpS s15) rfl ?_
    obtain ⟨hin, k⟩ := k
    refine Ex.las hq rfl rfl hin (h' := hpS (sL s15 17 (vp_updL (s15.2.2.1 17) ((7 : Int32)).toNatClampNeg ((r16).toInt64)))) (hset_17 _ _) ?_
    refine Ex.seg hq 6 (j := 92) (L' := [.ref 16, .int p0, .int r2]) (S' := [.int p0, .ref 1, .int (8 : Int32), .ref 17]) (h' := hpS (sL s15 17 (vp_updL (s15.2.2.1 17) ((7 : Int32)).toNatClampNeg ((r16).toInt64)))) rfl ?_
    refine Ex.cl hq rfl rfl ?_
    refine Rn.mono (q_15 (d := d + 0) p0 (sL s15 17 (vp_updL (s15.2.2.1 17) ((7 : Int32)).toNatClampNeg ((r16).toInt64))) k) ?_
    rintro _ _ ⟨r18, s17, rfl, rfl, k⟩
    show Ex sc (d + 2) 20 93 [.ref 16, .int p0, .int r2] [.int r18, .int (8 : Int32), .ref 17] (hpS s17) _
    refine Ex.seg hq 1 (j := 94) (L' := [.ref 16, .int p0, .int r2]) (S' := [.long ((r18).toInt64), .int (8 : Int32), .ref 17]) (h' := hpS s17) rfl ?_
    obtain ⟨hin, k⟩ := k
    refine Ex.las hq rfl rfl hin (h' := hpS (sL s17 17 (vp_updL (s17.2.2.1 17) ((8 : Int32)).toNatClampNeg ((r18).toInt64)))) (hset_17 _ _) ?_
    refine Ex.seg hq 7 (j := 102) (L' := [.ref 16, .int p0, .int r2]) (S' := [.int (8 : Int32), .int p0, .ref 1, .int (9 : Int32), .ref 17]) (h' := hpS (sL s17 17 (vp_updL (s17.2.2.1 17) ((8 : Int32)).toNatClampNeg ((r18).toInt64)))) rfl ?_
    refine Ex.cl hq rfl rfl ?_
    refine Rn.mono (q_9 (d := d + 1) p0 (8 : Int32) (sL s17 17 (vp_updL (s17.2.2.1 17) ((8 : Int32)).toNatClampNeg ((r18).toInt64))) k) ?_
    rintro _ _ ⟨r20, s19, rfl, rfl, k⟩
    show Ex sc (d + 2) 20 103 [.ref 16, .int p0, .int r2] [.int r20, .int (9 : Int32), .ref 17] (hpS s19) _
    refine Ex.seg hq 1 (j := 104) (L' := [.ref 16, .int p0, .int r2]) (S' := [.long ((r20).toInt64), .int (9 : Int32), .ref 17]) (h' := hpS s19) rfl ?_
    obtain ⟨hin, k⟩ := k
    refine Ex.las hq rfl rfl hin (h' := hpS (sL s19 17 (vp_updL (s19.2.2.1 17) ((9 : Int32)).toNatClampNeg ((r20).toInt64)))) (hset_17 _ _) ?_
    refine Ex.seg hq 7 (j := 112) (L' := [.ref 16, .int p0, .int r2]) (S' := [.int (9 : Int32), .int p0, .ref 1, .int (10 : Int32), .ref 17]) (h' := hpS (sL s19 17 (vp_updL (s19.2.2.1 17) ((9 : Int32)).toNatClampNeg ((r20).toInt64)))) rfl ?_
    refine Ex.cl hq rfl rfl ?_
    refine Rn.mono (q_9 (d := d + 1) p0 (9 : Int32) (sL s19 17 (vp_updL (s19.2.2.1 17) ((9 : Int32)).toNatClampNeg ((r20).toInt64))) k) ?_
    rintro _ _ ⟨r22, s21, rfl, rfl, k⟩
    show Ex sc (d + 2) 20 113 [.ref 16, .int p0, .int r2] [.int r22, .int (10 : Int32), .ref 17] (hpS s21) _
    refine Ex.seg hq 4 (j := 117) (L' := [.ref 16, .int p0, .int r2]) (S' := [.int (3 : Int32), .int p0, .ref 1, .int r22, .int (10 : Int32), .ref 17]) (h' := hpS s21) rfl ?_
    refine Ex.cl hq rfl rfl ?_
    refine Rn.mono (q_9 (d := d + 1) p0 (3 : Int32) s21 k) ?_
    rintro _ _ ⟨r24, s23, rfl, rfl, k⟩
    show Ex sc (d + 2) 20 118 [.ref 16, .int p0, .int r2] [.int r24, .int r22, .int (10 : Int32), .ref 17] (hpS s23) _
    refine Ex.seg hq 2 (j := 120) (L' := [.ref 16, .int p0, .int r2]) (S' := [.long (((r22 - r24)).toInt64), .int (10 : Int32), .ref 17]) (h' := hpS s23) rfl ?_
    obtain ⟨hin, k⟩ := k
    refine Ex.las hq rfl rfl hin (h' := hpS (sL s23 17 (vp_updL (s23.2.2.1 17) ((10 : Int32)).toNatClampNeg (((r22 - r24)).toInt64)))) (hset_17 _ _) ?_
    refine Ex.seg hq 6 (j := 127) (L' := [.ref 16, .int p0, .int r2]) (S' := [.int p0, .ref 8, .int (11 : Int32), .ref 17]) (h' := hpS (sL s23 17 (vp_updL (s23.2.2.1 17) ((10 : Int32)).toNatClampNeg (((r22 - r24)).toInt64)))) rfl ?_
    refine Ex.cl hq rfl rfl ?_
    refine Rn.mono (q_121 (d := d + 1) p0 (sL s23 17 (vp_updL (s23.2.2.1 17) ((10 : Int32)).toNatClampNeg (((r22 - r24)).toInt64))) k) ?_
    rintro _ _ ⟨r26, s25, rfl, rfl, k⟩
    show Ex sc (d + 2) 20 128 [.ref 16, .int p0, .int r2] [.int r26, .int (11 : Int32), .ref 17] (hpS s25) _
    refine Ex.seg hq 1 (j := 129) (L' := [.ref 16, .int p0, .int r2]) (S' := [.long ((r26).toInt64), .int (11 : Int32), .ref 17]) (h' := hpS s25) rfl ?_
    obtain ⟨hin, k⟩ := k
    refine Ex.las hq rfl rfl hin (h' := hpS (sL s25 17 (vp_updL (s25.2.2.1 17) ((11 : Int32)).toNatClampNeg ((r26).toInt64)))) (hset_17 _ _) ?_
    refine Ex.seg hq 6 (j := 136) (L' := [.ref 16, .int p0, .int r2]) (S' := [.int p0, .ref 8, .int (12 : Int32), .ref 17]) (h' := hpS (sL s25 17 (vp_updL (s25.2.2.1 17) ((11 : Int32)).toNatClampNeg ((r26).toInt64)))) rfl ?_
    refine Ex.cl hq rfl rfl ?_
    refine Rn.mono (q_122 (d := d + 1) p0 (sL s25 17 (vp_updL (s25.2.2.1 17) ((11 : Int32)).toNatClampNeg ((r26).toInt64))) k) ?_
    rintro _ _ ⟨r28, s27, rfl, rfl, k⟩
    show Ex sc (d + 2) 20 137 [.ref 16, .int p0, .int r2] [.int r28, .int (12 : Int32), .ref 17] (hpS s27) _
    refine Ex.seg hq 1 (j := 138) (L' := [.ref 16, .int p0, .int r2]) (S' := [.long ((r28).toInt64), .int (12 : Int32), .ref 17]) (h' := hpS s27) rfl ?_
    obtain ⟨hin, k⟩ := k
    refine Ex.las hq rfl rfl hin (h' := hpS (sL s27 17 (vp_updL (s27.2.2.1 17) ((12 : Int32)).toNatClampNeg ((r28).toInt64)))) (hset_17 _ _) ?_
    exact Ex.rt hq rfl rfl ⟨(sL s27 17 (vp_updL (s27.2.2.1 17) ((12 : Int32)).toNatClampNeg ((r28).toInt64))), rfl, rfl, k⟩
  · have k := k.2 c
    refine Ex.seg hq 2 (j := 66) (L' := [.ref 16, .int p0, .int r2]) (S' := [.long (-1 : Int64), .int (5 : Int32), .ref 17]) (h' := hpS (sL s11 17 (vp_updL (s11.2.2.1 17) ((4 : Int32)).toNatClampNeg ((r12).toInt64)))) rfl ?_
    obtain ⟨hin, k⟩ := k
    refine Ex.las hq rfl rfl hin (h' := hpS (sL s11 17 (vp_updL (vp_updL (s11.2.2.1 17) ((4 : Int32)).toNatClampNeg ((r12).toInt64)) ((5 : Int32)).toNatClampNeg (-1 : Int64)))) (hset_17 _ _) ?_
    refine Ex.seg hq 7 (j := 74) (L' := [.ref 16, .int p0, .int r2]) (S' := [.int (1 : Int32), .int p0, .ref 1, .int (6 : Int32), .ref 17]) (h' := hpS (sL s11 17 (vp_updL (vp_updL (s11.2.2.1 17) ((4 : Int32)).toNatClampNeg ((r12).toInt64)) ((5 : Int32)).toNatClampNeg (-1 : Int64)))) rfl ?_
    refine Ex.cl hq rfl rfl ?_
    refine Rn.mono (q_9 (d := d + 1) p0 (1 : Int32) (sL s11 17 (vp_updL (vp_updL (s11.2.2.1 17) ((4 : Int32)).toNatClampNeg ((r12).toInt64)) ((5 : Int32)).toNatClampNeg (-1 : Int64))) k) ?_
    rintro _ _ ⟨r30, s29, rfl, rfl, k⟩
    show Ex sc (d + 2) 20 75 [.ref 16, .int p0, .int r2] [.int r30, .int (6 : Int32), .ref 17] (hpS s29) _
    refine Ex.seg hq 1 (j := 76) (L' := [.ref 16, .int p0, .int r2]) (S' := [.long ((r30).toInt64), .int (6 : Int32), .ref 17]) (h' := hpS s29) rfl ?_
    obtain ⟨hin, k⟩ := k
    refine Ex.las hq rfl rfl hin (h' := hpS (sL s29 17 (vp_updL (s29.2.2.1 17) ((6 : Int32)).toNatClampNeg ((r30).toInt64)))) (hset_17 _ _) ?_
    refine Ex.seg hq 6 (j := 83) (L' := [.ref 16, .int p0, .int r2]) (S' := [.int p0, .ref 1, .int (7 : Int32), .ref 17]) (h' := hpS (sL s29 17 (vp_updL (s29.2.2.1 17) ((6 : Int32)).toNatClampNeg ((r30).toInt64)))) rfl ?_
    refine Ex.cl hq rfl rfl ?_
    refine Rn.mono (q_16 (d := d + 0) p0 (sL s29 17 (vp_updL (s29.2.2.1 17) ((6 : Int32)).toNatClampNeg ((r30).toInt64))) k) ?_
    rintro _ _ ⟨r32, s31, rfl, rfl, k⟩
    show Ex sc (d + 2) 20 84 [.ref 16, .int p0, .int r2] [.int r32, .int (7 : Int32), .ref 17] (hpS s31) _
    refine Ex.seg hq 1 (j := 85) (L' := [.ref 16, .int p0, .int r2]) (S' := [.long ((r32).toInt64), .int (7 : Int32), .ref 17]) (h' := hpS s31) rfl ?_
    obtain ⟨hin, k⟩ := k
    refine Ex.las hq rfl rfl hin (h' := hpS (sL s31 17 (vp_updL (s31.2.2.1 17) ((7 : Int32)).toNatClampNeg ((r32).toInt64)))) (hset_17 _ _) ?_
    refine Ex.seg hq 6 (j := 92) (L' := [.ref 16, .int p0, .int r2]) (S' := [.int p0, .ref 1, .int (8 : Int32), .ref 17]) (h' := hpS (sL s31 17 (vp_updL (s31.2.2.1 17) ((7 : Int32)).toNatClampNeg ((r32).toInt64)))) rfl ?_
    refine Ex.cl hq rfl rfl ?_
    refine Rn.mono (q_15 (d := d + 0) p0 (sL s31 17 (vp_updL (s31.2.2.1 17) ((7 : Int32)).toNatClampNeg ((r32).toInt64))) k) ?_
    rintro _ _ ⟨r34, s33, rfl, rfl, k⟩
    show Ex sc (d + 2) 20 93 [.ref 16, .int p0, .int r2] [.int r34, .int (8 : Int32), .ref 17] (hpS s33) _
    refine Ex.seg hq 1 (j := 94) (L' := [.ref 16, .int p0, .int r2]) (S' := [.long ((r34).toInt64), .int (8 : Int32), .ref 17]) (h' := hpS s33) rfl ?_
    obtain ⟨hin, k⟩ := k
    refine Ex.las hq rfl rfl hin (h' := hpS (sL s33 17 (vp_updL (s33.2.2.1 17) ((8 : Int32)).toNatClampNeg ((r34).toInt64)))) (hset_17 _ _) ?_
    refine Ex.seg hq 7 (j := 102) (L' := [.ref 16, .int p0, .int r2]) (S' := [.int (8 : Int32), .int p0, .ref 1, .int (9 : Int32), .ref 17]) (h' := hpS (sL s33 17 (vp_updL (s33.2.2.1 17) ((8 : Int32)).toNatClampNeg ((r34).toInt64)))) rfl ?_
    refine Ex.cl hq rfl rfl ?_
    refine Rn.mono (q_9 (d := d + 1) p0 (8 : Int32) (sL s33 17 (vp_updL (s33.2.2.1 17) ((8 : Int32)).toNatClampNeg ((r34).toInt64))) k) ?_
    rintro _ _ ⟨r36, s35, rfl, rfl, k⟩
    show Ex sc (d + 2) 20 103 [.ref 16, .int p0, .int r2] [.int r36, .int (9 : Int32), .ref 17] (hpS s35) _
    refine Ex.seg hq 1 (j := 104) (L' := [.ref 16, .int p0, .int r2]) (S' := [.long ((r36).toInt64), .int (9 : Int32), .ref 17]) (h' := hpS s35) rfl ?_
    obtain ⟨hin, k⟩ := k
    refine Ex.las hq rfl rfl hin (h' := hpS (sL s35 17 (vp_updL (s35.2.2.1 17) ((9 : Int32)).toNatClampNeg ((r36).toInt64)))) (hset_17 _ _) ?_
    refine Ex.seg hq 7 (j := 112) (L' := [.ref 16, .int p0, .int r2]) (S' := [.int (9 : Int32), .int p0, .ref 1, .int (10 : Int32), .ref 17]) (h' := hpS (sL s35 17 (vp_updL (s35.2.2.1 17) ((9 : Int32)).toNatClampNeg ((r36).toInt64)))) rfl ?_
    refine Ex.cl hq rfl rfl ?_
    refine Rn.mono (q_9 (d := d + 1) p0 (9 : Int32) (sL s35 17 (vp_updL (s35.2.2.1 17) ((9 : Int32)).toNatClampNeg ((r36).toInt64))) k) ?_
    rintro _ _ ⟨r38, s37, rfl, rfl, k⟩
    show Ex sc (d + 2) 20 113 [.ref 16, .int p0, .int r2] [.int r38, .int (10 : Int32), .ref 17] (hpS s37) _
    refine Ex.seg hq 4 (j := 117) (L' := [.ref 16, .int p0, .int r2]) (S' := [.int (3 : Int32), .int p0, .ref 1, .int r38, .int (10 : Int32), .ref 17]) (h' := hpS s37) rfl ?_
    refine Ex.cl hq rfl rfl ?_
    refine Rn.mono (q_9 (d := d + 1) p0 (3 : Int32) s37 k) ?_
    rintro _ _ ⟨r40, s39, rfl, rfl, k⟩
    show Ex sc (d + 2) 20 118 [.ref 16, .int p0, .int r2] [.int r40, .int r38, .int (10 : Int32), .ref 17] (hpS s39) _
    refine Ex.seg hq 2 (j := 120) (L' := [.ref 16, .int p0, .int r2]) (S' := [.long (((r38 - r40)).toInt64), .int (10 : Int32), .ref 17]) (h' := hpS s39) rfl ?_
    obtain ⟨hin, k⟩ := k
    refine Ex.las hq rfl rfl hin (h' := hpS (sL s39 17 (vp_updL (s39.2.2.1 17) ((10 : Int32)).toNatClampNeg (((r38 - r40)).toInt64)))) (hset_17 _ _) ?_
    refine Ex.seg hq 6 (j := 127) (L' := [.ref 16, .int p0, .int r2]) (S' := [.int p0, .ref 8, .int (11 : Int32), .ref 17]) (h' := hpS (sL s39 17 (vp_updL (s39.2.2.1 17) ((10 : Int32)).toNatClampNeg (((r38 - r40)).toInt64)))) rfl ?_
    refine Ex.cl hq rfl rfl ?_
    refine Rn.mono (q_121 (d := d + 1) p0 (sL s39 17 (vp_updL (s39.2.2.1 17) ((10 : Int32)).toNatClampNeg (((r38 - r40)).toInt64))) k) ?_
    rintro _ _ ⟨r42, s41, rfl, rfl, k⟩
    show Ex sc (d + 2) 20 128 [.ref 16, .int p0, .int r2] [.int r42, .int (11 : Int32), .ref 17] (hpS s41) _
    refine Ex.seg hq 1 (j := 129) (L' := [.ref 16, .int p0, .int r2]) (S' := [.long ((r42).toInt64), .int (11 : Int32), .ref 17]) (h' := hpS s41) rfl ?_
    obtain ⟨hin, k⟩ := k
    refine Ex.las hq rfl rfl hin (h' := hpS (sL s41 17 (vp_updL (s41.2.2.1 17) ((11 : Int32)).toNatClampNeg ((r42).toInt64)))) (hset_17 _ _) ?_
    refine Ex.seg hq 6 (j := 136) (L' := [.ref 16, .int p0, .int r2]) (S' := [.int p0, .ref 8, .int (12 : Int32), .ref 17]) (h' := hpS (sL s41 17 (vp_updL (s41.2.2.1 17) ((11 : Int32)).toNatClampNeg ((r42).toInt64)))) rfl ?_
    refine Ex.cl hq rfl rfl ?_
    refine Rn.mono (q_122 (d := d + 1) p0 (sL s41 17 (vp_updL (s41.2.2.1 17) ((11 : Int32)).toNatClampNeg ((r42).toInt64))) k) ?_
    rintro _ _ ⟨r44, s43, rfl, rfl, k⟩
    show Ex sc (d + 2) 20 137 [.ref 16, .int p0, .int r2] [.int r44, .int (12 : Int32), .ref 17] (hpS s43) _
    refine Ex.seg hq 1 (j := 138) (L' := [.ref 16, .int p0, .int r2]) (S' := [.long ((r44).toInt64), .int (12 : Int32), .ref 17]) (h' := hpS s43) rfl ?_
    obtain ⟨hin, k⟩ := k
    refine Ex.las hq rfl rfl hin (h' := hpS (sL s43 17 (vp_updL (s43.2.2.1 17) ((12 : Int32)).toNatClampNeg ((r44).toInt64)))) (hset_17 _ _) ?_
    exact Ex.rt hq rfl rfl ⟨(sL s43 17 (vp_updL (s43.2.2.1 17) ((12 : Int32)).toNatClampNeg ((r44).toInt64))), rfl, rfl, k⟩
/-- RowAuditor$Fitter.mostBy(II)I -/
def w_35 (p0 : Int32) (p1 : Int32) (s : ST) (K : Int32 → ST → Prop) : Prop := w_181 p1 (0 : Int32) (149 : Int32) s (fun r2 s1 => ((r2 = 0 → w_37 (p0 + (1 : Int32)) (p1 + (1 : Int32)) s1 (fun r4 s3 => (((0 : Int32) = 0 → K (-1 : Int32) s3) ∧ (¬ ((0 : Int32) = 0) → ((r4 = (-1 : Int32) → K (-1 : Int32) s3) ∧ (¬ (r4 = (-1 : Int32)) → w_123 p1 s3 (fun r6 s5 => w_119 r6 s5 (fun r8 s7 => K (r8 + r4) s7)))))))) ∧ (¬ (r2 = 0) → (pin p1 150 = true ∧ w_184 p0 ((s1.2.1 52) (p1).toNatClampNeg) s1 (fun r10 s9 => ((r10 = 0 → w_37 (p0 + (1 : Int32)) (p1 + (1 : Int32)) s9 (fun r12 s11 => (((0 : Int32) = 0 → K (-1 : Int32) s11) ∧ (¬ ((0 : Int32) = 0) → ((r12 = (-1 : Int32) → K (-1 : Int32) s11) ∧ (¬ (r12 = (-1 : Int32)) → w_123 p1 s11 (fun r14 s13 => w_119 r14 s13 (fun r16 s15 => K (r16 + r12) s15)))))))) ∧ (¬ (r10 = 0) → w_37 (p0 + (1 : Int32)) (p1 + (1 : Int32)) s9 (fun r18 s17 => (((1 : Int32) = 0 → K (-1 : Int32) s17) ∧ (¬ ((1 : Int32) = 0) → ((r18 = (-1 : Int32) → K (-1 : Int32) s17) ∧ (¬ (r18 = (-1 : Int32)) → w_123 p1 s17 (fun r20 s19 => w_119 r20 s19 (fun r22 s21 => K (r22 + r18) s21))))))))))))))
theorem q_35 {d : Nat} {K : Int32 → ST → Prop} (p0 : Int32) (p1 : Int32) (s : ST) (k : w_35 p0 p1 s K) : Rn sc (d + 1) 35 [.ref 50, .int p0, .int p1] (hpS s) (kI K) := by
  have hq : prog[35]? = some pm35 := rfl
  refine Rn.of (L := [.ref 50, .int p0, .int p1, pu, pu]) hq rfl rfl ?_
  unfold w_35 at k
  refine Ex.seg hq 3 (j := 3) (L' := [.ref 50, .int p0, .int p1, pu, pu]) (S' := [.int (149 : Int32), .int (0 : Int32), .int p1]) (h' := hpS s) rfl ?_
  refine Ex.cl hq rfl rfl ?_
  refine Rn.mono (q_181 (d := d + 0) p1 (0 : Int32) (149 : Int32) s k) ?_
  rintro _ _ ⟨r2, s1, rfl, hzr2, rfl, k⟩
  show Ex sc (d + 1) 35 4 [.ref 50, .int p0, .int p1, pu, pu] [.int r2] (hpS s1) _
  refine Ex.i1 hq rfl (fun c => ?_) (fun c => ?_)
  · have k := k.1 c
    refine Ex.seg hq 9 (j := 23) (L' := [.ref 50, .int p0, .int p1, .int (0 : Int32), pu]) (S' := [.int (p1 + (1 : Int32)), .int (p0 + (1 : Int32)), .ref 50]) (h' := hpS s1) rfl ?_
    refine Ex.cl hq rfl rfl ?_
    refine Rn.mono (q_37 (d := d + 0) (p0 + (1 : Int32)) (p1 + (1 : Int32)) s1 k) ?_
    rintro _ _ ⟨r4, s3, rfl, rfl, k⟩
    show Ex sc (d + 1) 35 24 [.ref 50, .int p0, .int p1, .int (0 : Int32), pu] [.int r4] (hpS s3) _
    refine Ex.seg hq 2 (j := 26) (L' := [.ref 50, .int p0, .int p1, .int (0 : Int32), .int r4]) (S' := [.int (0 : Int32)]) (h' := hpS s3) rfl ?_
    refine Ex.i1 hq rfl (fun c => ?_) (fun c => ?_)
    · have k := k.1 c
      refine Ex.seg hq 1 (j := 41) (L' := [.ref 50, .int p0, .int p1, .int (0 : Int32), .int r4]) (S' := [.int (-1 : Int32)]) (h' := hpS s3) rfl ?_
      exact Ex.rt hq rfl rfl ⟨(-1 : Int32), s3, rfl, rfl, k⟩
    · have k := k.2 c
      refine Ex.seg hq 2 (j := 29) (L' := [.ref 50, .int p0, .int p1, .int (0 : Int32), .int r4]) (S' := [.int (-1 : Int32), .int r4]) (h' := hpS s3) rfl ?_
      refine Ex.i2 hq rfl (fun c => ?_) (fun c => ?_)
      · have k := k.1 c
        refine Ex.seg hq 1 (j := 41) (L' := [.ref 50, .int p0, .int p1, .int (0 : Int32), .int r4]) (S' := [.int (-1 : Int32)]) (h' := hpS s3) rfl ?_
        exact Ex.rt hq rfl rfl ⟨(-1 : Int32), s3, rfl, rfl, k⟩
      · have k := k.2 c
        refine Ex.seg hq 5 (j := 35) (L' := [.ref 50, .int p0, .int p1, .int (0 : Int32), .int r4]) (S' := [.int p1, .ref 8, .ref 8]) (h' := hpS s3) rfl ?_
        refine Ex.cl hq rfl rfl ?_
        refine Rn.mono (q_123 (d := d + 0) p1 s3 k) ?_
        rintro _ _ ⟨r6, s5, rfl, rfl, k⟩
        show Ex sc (d + 1) 35 36 [.ref 50, .int p0, .int p1, .int (0 : Int32), .int r4] [.int r6, .ref 8] (hpS s5) _
        refine Ex.cl hq rfl rfl ?_
        refine Rn.mono (q_119 (d := d + 0) r6 s5 k) ?_
        rintro _ _ ⟨r8, s7, rfl, rfl, k⟩
        show Ex sc (d + 1) 35 37 [.ref 50, .int p0, .int p1, .int (0 : Int32), .int r4] [.int r8] (hpS s7) _
        refine Ex.seg hq 3 (j := 41) (L' := [.ref 50, .int p0, .int p1, .int (0 : Int32), .int r4]) (S' := [.int (r8 + r4)]) (h' := hpS s7) rfl ?_
        exact Ex.rt hq rfl rfl ⟨(r8 + r4), s7, rfl, rfl, k⟩
  · have k := k.2 c
    refine Ex.seg hq 4 (j := 9) (L' := [.ref 50, .int p0, .int p1, pu, pu]) (S' := [.int p1, .ref 52, .int p0]) (h' := hpS s1) rfl ?_
    obtain ⟨hin, k⟩ := k
    refine Ex.ial hq rfl rfl hin ?_
    refine Ex.cl hq rfl rfl ?_
    refine Rn.mono (q_184 (d := d + 0) p0 ((s1.2.1 52) (p1).toNatClampNeg) s1 k) ?_
    rintro _ _ ⟨r10, s9, rfl, hzr10, rfl, k⟩
    show Ex sc (d + 1) 35 11 [.ref 50, .int p0, .int p1, pu, pu] [.int r10] (hpS s9) _
    refine Ex.i1 hq rfl (fun c => ?_) (fun c => ?_)
    · have k := k.1 c
      refine Ex.seg hq 9 (j := 23) (L' := [.ref 50, .int p0, .int p1, .int (0 : Int32), pu]) (S' := [.int (p1 + (1 : Int32)), .int (p0 + (1 : Int32)), .ref 50]) (h' := hpS s9) rfl ?_
      refine Ex.cl hq rfl rfl ?_
      refine Rn.mono (q_37 (d := d + 0) (p0 + (1 : Int32)) (p1 + (1 : Int32)) s9 k) ?_
      rintro _ _ ⟨r12, s11, rfl, rfl, k⟩
      show Ex sc (d + 1) 35 24 [.ref 50, .int p0, .int p1, .int (0 : Int32), pu] [.int r12] (hpS s11) _
      refine Ex.seg hq 2 (j := 26) (L' := [.ref 50, .int p0, .int p1, .int (0 : Int32), .int r12]) (S' := [.int (0 : Int32)]) (h' := hpS s11) rfl ?_
      refine Ex.i1 hq rfl (fun c => ?_) (fun c => ?_)
      · have k := k.1 c
        refine Ex.seg hq 1 (j := 41) (L' := [.ref 50, .int p0, .int p1, .int (0 : Int32), .int r12]) (S' := [.int (-1 : Int32)]) (h' := hpS s11) rfl ?_
        exact Ex.rt hq rfl rfl ⟨(-1 : Int32), s11, rfl, rfl, k⟩
      · have k := k.2 c
        refine Ex.seg hq 2 (j := 29) (L' := [.ref 50, .int p0, .int p1, .int (0 : Int32), .int r12]) (S' := [.int (-1 : Int32), .int r12]) (h' := hpS s11) rfl ?_
        refine Ex.i2 hq rfl (fun c => ?_) (fun c => ?_)
        · have k := k.1 c
          refine Ex.seg hq 1 (j := 41) (L' := [.ref 50, .int p0, .int p1, .int (0 : Int32), .int r12]) (S' := [.int (-1 : Int32)]) (h' := hpS s11) rfl ?_
          exact Ex.rt hq rfl rfl ⟨(-1 : Int32), s11, rfl, rfl, k⟩
        · have k := k.2 c
          refine Ex.seg hq 5 (j := 35) (L' := [.ref 50, .int p0, .int p1, .int (0 : Int32), .int r12]) (S' := [.int p1, .ref 8, .ref 8]) (h' := hpS s11) rfl ?_
          refine Ex.cl hq rfl rfl ?_
          refine Rn.mono (q_123 (d := d + 0) p1 s11 k) ?_
          rintro _ _ ⟨r14, s13, rfl, rfl, k⟩
          show Ex sc (d + 1) 35 36 [.ref 50, .int p0, .int p1, .int (0 : Int32), .int r12] [.int r14, .ref 8] (hpS s13) _
          refine Ex.cl hq rfl rfl ?_
          refine Rn.mono (q_119 (d := d + 0) r14 s13 k) ?_
          rintro _ _ ⟨r16, s15, rfl, rfl, k⟩
          show Ex sc (d + 1) 35 37 [.ref 50, .int p0, .int p1, .int (0 : Int32), .int r12] [.int r16] (hpS s15) _
          refine Ex.seg hq 3 (j := 41) (L' := [.ref 50, .int p0, .int p1, .int (0 : Int32), .int r12]) (S' := [.int (r16 + r12)]) (h' := hpS s15) rfl ?_
          exact Ex.rt hq rfl rfl ⟨(r16 + r12), s15, rfl, rfl, k⟩
    · have k := k.2 c
      refine Ex.seg hq 10 (j := 23) (L' := [.ref 50, .int p0, .int p1, .int (1 : Int32), pu]) (S' := [.int (p1 + (1 : Int32)), .int (p0 + (1 : Int32)), .ref 50]) (h' := hpS s9) rfl ?_
      refine Ex.cl hq rfl rfl ?_
      refine Rn.mono (q_37 (d := d + 0) (p0 + (1 : Int32)) (p1 + (1 : Int32)) s9 k) ?_
      rintro _ _ ⟨r18, s17, rfl, rfl, k⟩
      show Ex sc (d + 1) 35 24 [.ref 50, .int p0, .int p1, .int (1 : Int32), pu] [.int r18] (hpS s17) _
      refine Ex.seg hq 2 (j := 26) (L' := [.ref 50, .int p0, .int p1, .int (1 : Int32), .int r18]) (S' := [.int (1 : Int32)]) (h' := hpS s17) rfl ?_
      refine Ex.i1 hq rfl (fun c => ?_) (fun c => ?_)
      · have k := k.1 c
        refine Ex.seg hq 1 (j := 41) (L' := [.ref 50, .int p0, .int p1, .int (1 : Int32), .int r18]) (S' := [.int (-1 : Int32)]) (h' := hpS s17) rfl ?_
        exact Ex.rt hq rfl rfl ⟨(-1 : Int32), s17, rfl, rfl, k⟩
      · have k := k.2 c
        refine Ex.seg hq 2 (j := 29) (L' := [.ref 50, .int p0, .int p1, .int (1 : Int32), .int r18]) (S' := [.int (-1 : Int32), .int r18]) (h' := hpS s17) rfl ?_
        refine Ex.i2 hq rfl (fun c => ?_) (fun c => ?_)
        · have k := k.1 c
          refine Ex.seg hq 1 (j := 41) (L' := [.ref 50, .int p0, .int p1, .int (1 : Int32), .int r18]) (S' := [.int (-1 : Int32)]) (h' := hpS s17) rfl ?_
          exact Ex.rt hq rfl rfl ⟨(-1 : Int32), s17, rfl, rfl, k⟩
        · have k := k.2 c
          refine Ex.seg hq 5 (j := 35) (L' := [.ref 50, .int p0, .int p1, .int (1 : Int32), .int r18]) (S' := [.int p1, .ref 8, .ref 8]) (h' := hpS s17) rfl ?_
          refine Ex.cl hq rfl rfl ?_
          refine Rn.mono (q_123 (d := d + 0) p1 s17 k) ?_
          rintro _ _ ⟨r20, s19, rfl, rfl, k⟩
          show Ex sc (d + 1) 35 36 [.ref 50, .int p0, .int p1, .int (1 : Int32), .int r18] [.int r20, .ref 8] (hpS s19) _
          refine Ex.cl hq rfl rfl ?_
          refine Rn.mono (q_119 (d := d + 0) r20 s19 k) ?_
          rintro _ _ ⟨r22, s21, rfl, rfl, k⟩
          show Ex sc (d + 1) 35 37 [.ref 50, .int p0, .int p1, .int (1 : Int32), .int r18] [.int r22] (hpS s21) _
          refine Ex.seg hq 3 (j := 41) (L' := [.ref 50, .int p0, .int p1, .int (1 : Int32), .int r18]) (S' := [.int (r22 + r18)]) (h' := hpS s21) rfl ?_
          exact Ex.rt hq rfl rfl ⟨(r22 + r18), s21, rfl, rfl, k⟩
/-- RowAuditor$Fitter.leads(III)Z -/
def w_36 (p0 : Int32) (p1 : Int32) (p2 : Int32) (s : ST) (K : Int32 → ST → Prop) : Prop := w_35 p0 p1 s (fun r2 s1 => ((r2 = (-1 : Int32) → K (0 : Int32) s1) ∧ (¬ (r2 = (-1 : Int32)) → ((r2 < p2 → K (0 : Int32) s1) ∧ (¬ (r2 < p2) → K (1 : Int32) s1)))))
theorem q_36 {d : Nat} {K : Int32 → ST → Prop} (p0 : Int32) (p1 : Int32) (p2 : Int32) (s : ST) (k : w_36 p0 p1 p2 s K) : Rn sc (d + 2) 36 [.ref 50, .int p0, .int p1, .int p2] (hpS s) (kZ K) := by
  have hq : prog[36]? = some pm36 := rfl
  refine Rn.of (L := [.ref 50, .int p0, .int p1, .int p2, pu]) hq rfl rfl ?_
  unfold w_36 at k
  refine Ex.seg hq 3 (j := 3) (L' := [.ref 50, .int p0, .int p1, .int p2, pu]) (S' := [.int p1, .int p0, .ref 50]) (h' := hpS s) rfl ?_
  refine Ex.cl hq rfl rfl ?_
  refine Rn.mono (q_35 (d := d + 0) p0 p1 s k) ?_
  rintro _ _ ⟨r2, s1, rfl, rfl, k⟩
  show Ex sc (d + 2) 36 4 [.ref 50, .int p0, .int p1, .int p2, pu] [.int r2] (hpS s1) _
  refine Ex.seg hq 3 (j := 7) (L' := [.ref 50, .int p0, .int p1, .int p2, .int r2]) (S' := [.int (-1 : Int32), .int r2]) (h' := hpS s1) rfl ?_
  refine Ex.i2 hq rfl (fun c => ?_) (fun c => ?_)
  · have k := k.1 c
    refine Ex.seg hq 1 (j := 14) (L' := [.ref 50, .int p0, .int p1, .int p2, .int r2]) (S' := [.int (0 : Int32)]) (h' := hpS s1) rfl ?_
    exact Ex.zr hq rfl rfl (Or.inl rfl) ⟨(0 : Int32), s1, rfl, (Or.inl rfl), rfl, k⟩
  · have k := k.2 c
    refine Ex.seg hq 2 (j := 10) (L' := [.ref 50, .int p0, .int p1, .int p2, .int r2]) (S' := [.int p2, .int r2]) (h' := hpS s1) rfl ?_
    refine Ex.i2 hq rfl (fun c => ?_) (fun c => ?_)
    · have k := k.1 c
      refine Ex.seg hq 1 (j := 14) (L' := [.ref 50, .int p0, .int p1, .int p2, .int r2]) (S' := [.int (0 : Int32)]) (h' := hpS s1) rfl ?_
      exact Ex.zr hq rfl rfl (Or.inl rfl) ⟨(0 : Int32), s1, rfl, (Or.inl rfl), rfl, k⟩
    · have k := k.2 c
      refine Ex.seg hq 2 (j := 14) (L' := [.ref 50, .int p0, .int p1, .int p2, .int r2]) (S' := [.int (1 : Int32)]) (h' := hpS s1) rfl ?_
      exact Ex.zr hq rfl rfl (Or.inr rfl) ⟨(1 : Int32), s1, rfl, (Or.inr rfl), rfl, k⟩
/-- RowAuditor$Flow.link(III)V -/
def w_45 (p0 : Int32) (p1 : Int32) (p2 : Int32) (s : ST) (K : ST → Prop) : Prop := (((624 : Int32) < ((s.1 3711) + (2 : Int32)) → K s) ∧ (¬ ((624 : Int32) < ((s.1 3711) + (2 : Int32))) → w_181 p0 (0 : Int32) ((s.1 3710) - (1 : Int32)) s (fun r2 s1 => ((r2 = 0 → K s1) ∧ (¬ (r2 = 0) → w_181 p1 (0 : Int32) ((s1.1 3710) - (1 : Int32)) s1 (fun r4 s3 => ((r4 = 0 → K s3) ∧ (¬ (r4 = 0) → w_46 p0 p1 p2 s3 (fun s5 => w_46 p1 p0 (0 : Int32) s5 (fun s7 => K s7))))))))))
theorem q_45 {d : Nat} {K : ST → Prop} (p0 : Int32) (p1 : Int32) (p2 : Int32) (s : ST) (k : w_45 p0 p1 p2 s K) : Rn sc (d + 1) 45 [.ref 37, .int p0, .int p1, .int p2] (hpS s) (kV K) := by
  have hq : prog[45]? = some pm45 := rfl
  refine Rn.of (L := [.ref 37, .int p0, .int p1, .int p2]) hq rfl rfl ?_
  unfold w_45 at k
  refine Ex.seg hq 5 (j := 5) (L' := [.ref 37, .int p0, .int p1, .int p2]) (S' := [.int (624 : Int32), .int ((s.1 3711) + (2 : Int32))]) (h' := hpS s) rfl ?_
  refine Ex.i2 hq rfl (fun c => ?_) (fun c => ?_)
  · have k := k.1 c
    exact Ex.rt hq rfl rfl ⟨s, rfl, rfl, k⟩
  · have k := k.2 c
    refine Ex.seg hq 6 (j := 12) (L' := [.ref 37, .int p0, .int p1, .int p2]) (S' := [.int ((s.1 3710) - (1 : Int32)), .int (0 : Int32), .int p0]) (h' := hpS s) rfl ?_
    refine Ex.cl hq rfl rfl ?_
    refine Rn.mono (q_181 (d := d + 0) p0 (0 : Int32) ((s.1 3710) - (1 : Int32)) s k) ?_
    rintro _ _ ⟨r2, s1, rfl, hzr2, rfl, k⟩
    show Ex sc (d + 1) 45 13 [.ref 37, .int p0, .int p1, .int p2] [.int r2] (hpS s1) _
    refine Ex.i1 hq rfl (fun c => ?_) (fun c => ?_)
    · have k := k.1 c
      exact Ex.rt hq rfl rfl ⟨s1, rfl, rfl, k⟩
    · have k := k.2 c
      refine Ex.seg hq 6 (j := 20) (L' := [.ref 37, .int p0, .int p1, .int p2]) (S' := [.int ((s1.1 3710) - (1 : Int32)), .int (0 : Int32), .int p1]) (h' := hpS s1) rfl ?_
      refine Ex.cl hq rfl rfl ?_
      refine Rn.mono (q_181 (d := d + 0) p1 (0 : Int32) ((s1.1 3710) - (1 : Int32)) s1 k) ?_
      rintro _ _ ⟨r4, s3, rfl, hzr4, rfl, k⟩
      show Ex sc (d + 1) 45 21 [.ref 37, .int p0, .int p1, .int p2] [.int r4] (hpS s3) _
      refine Ex.i1 hq rfl (fun c => ?_) (fun c => ?_)
      · have k := k.1 c
        exact Ex.rt hq rfl rfl ⟨s3, rfl, rfl, k⟩
      · have k := k.2 c
        refine Ex.seg hq 4 (j := 26) (L' := [.ref 37, .int p0, .int p1, .int p2]) (S' := [.int p2, .int p1, .int p0, .ref 37]) (h' := hpS s3) rfl ?_
        refine Ex.cl hq rfl rfl ?_
        refine Rn.mono (q_46 (d := d + 0) p0 p1 p2 s3 k) ?_
        rintro _ _ ⟨s5, rfl, rfl, k⟩
        show Ex sc (d + 1) 45 27 [.ref 37, .int p0, .int p1, .int p2] [] (hpS s5) _
        refine Ex.seg hq 4 (j := 31) (L' := [.ref 37, .int p0, .int p1, .int p2]) (S' := [.int (0 : Int32), .int p0, .int p1, .ref 37]) (h' := hpS s5) rfl ?_
        refine Ex.cl hq rfl rfl ?_
        refine Rn.mono (q_46 (d := d + 0) p1 p0 (0 : Int32) s5 k) ?_
        rintro _ _ ⟨s7, rfl, rfl, k⟩
        show Ex sc (d + 1) 45 32 [.ref 37, .int p0, .int p1, .int p2] [] (hpS s7) _
        exact Ex.rt hq rfl rfl ⟨s7, rfl, rfl, k⟩
/-- RowAuditor$Flow.isEdge(I)Z -/
def w_51 (p0 : Int32) (s : ST) (K : Int32 → ST → Prop) : Prop := w_181 p0 (0 : Int32) ((s.1 3711) - (1 : Int32)) s (fun r2 s1 => K r2 s1)
theorem q_51 {d : Nat} {K : Int32 → ST → Prop} (p0 : Int32) (s : ST) (k : w_51 p0 s K) : Rn sc (d + 1) 51 [.ref 37, .int p0] (hpS s) (kZ K) := by
  have hq : prog[51]? = some pm51 := rfl
  refine Rn.of (L := [.ref 37, .int p0]) hq rfl rfl ?_
  unfold w_51 at k
  refine Ex.seg hq 6 (j := 6) (L' := [.ref 37, .int p0]) (S' := [.int ((s.1 3711) - (1 : Int32)), .int (0 : Int32), .int p0]) (h' := hpS s) rfl ?_
  refine Ex.cl hq rfl rfl ?_
  refine Rn.mono (q_181 (d := d + 0) p0 (0 : Int32) ((s.1 3711) - (1 : Int32)) s k) ?_
  rintro _ _ ⟨r2, s1, rfl, hzr2, rfl, k⟩
  show Ex sc (d + 1) 51 7 [.ref 37, .int p0] [.int r2] (hpS s1) _
  exact Ex.zr hq rfl rfl hzr2 ⟨r2, s1, rfl, hzr2, rfl, k⟩
def w_67_4 : Nat → Int32 → Int32 → ST → (Int32 → ST → Prop) → (Int32 → ST → Prop) → (Int32 → ST → Prop) → Prop
  | 0, _, _, _, _, _, _ => False
  | n + 1, x1, x2, s, X36, X14, K => (((s.1 3502) ≤ x2 → X36 x1 s) ∧ (¬ ((s.1 3502) ≤ x2) → w_81 s (fun r2 s1 => w_68 r2 s1 (fun r4 s3 => ((¬ r4 = 0 → (((x1 &&& r4) = 0 → w_67_4 n (x1 ||| r4) (x2 + (1 : Int32)) (sI s3 3504 ((s3.1 3504) + (1 : Int32))) X36 X14 K) ∧ (¬ ((x1 &&& r4) = 0) → w_85 (6 : Int32) (s3.1 3504) s3 (fun s5 => w_67_4 n (x1 ||| r4) (x2 + (1 : Int32)) (sI s5 3504 ((s5.1 3504) + (1 : Int32))) X36 X14 K)))) ∧ (¬ (¬ r4 = 0) → X14 x1 s3))))))
theorem q_67_4 {d : Nat} {X36 : Int32 → ST → Prop} {X14 : Int32 → ST → Prop} {K : Int32 → ST → Prop} : ∀ (n : Nat) (x1 : Int32) (x2 : Int32) (s : ST), w_67_4 n x1 x2 s X36 X14 K → (∀ (y1 : Int32) (s : ST), X36 y1 s → Ex sc (d + 1) 67 36 [pu, .int y1, pu, pu] [] (hpS s) (kI K)) → (∀ (y1 : Int32) (s : ST), X14 y1 s → Ex sc (d + 1) 67 14 [pu, .int y1, pu, pu] [] (hpS s) (kI K)) → Ex sc (d + 1) 67 4 [.ref 35, .int x1, .int x2, pu] [] (hpS s) (kI K) := by
  have hq : prog[67]? = some pm67 := rfl
  intro n
  induction n with
  | zero =>
    intro x1 x2 s k
    exact k.elim
  | succ n ih =>
    intro x1 x2 s k hX36 hX14
    rw [w_67_4] at k
    refine Ex.seg hq 3 (j := 7) (L' := [.ref 35, .int x1, .int x2, pu]) (S' := [.int (s.1 3502), .int x2]) (h' := hpS s) rfl ?_
    refine Ex.i2 hq rfl (fun c => ?_) (fun c => ?_)
    · have k := k.1 c
      refine Ex.fg (L := [pu, .int x1, pu, pu]) ⟨Or.inr ⟨rfl, rfl⟩, ⟨Or.inl rfl, ⟨Or.inr ⟨rfl, rfl⟩, ⟨Or.inl rfl, trivial⟩⟩⟩⟩ ?_
      exact hX36 x1 s k
    · have k := k.2 c
      refine Ex.seg hq 1 (j := 9) (L' := [.ref 35, .int x1, .int x2, pu]) (S' := [.ref 35]) (h' := hpS s) rfl ?_
      refine Ex.cl hq rfl rfl ?_
      refine Rn.mono (q_81 (d := d + 0) s k) ?_
      rintro _ _ ⟨r2, s1, rfl, rfl, k⟩
      show Ex sc (d + 1) 67 10 [.ref 35, .int x1, .int x2, pu] [.int r2] (hpS s1) _
      refine Ex.cl hq rfl rfl ?_
      refine Rn.mono (q_68 (d := d + 0) r2 s1 k) ?_
      rintro _ _ ⟨r4, s3, rfl, rfl, k⟩
      show Ex sc (d + 1) 67 11 [.ref 35, .int x1, .int x2, pu] [.int r4] (hpS s3) _
      refine Ex.seg hq 2 (j := 13) (L' := [.ref 35, .int x1, .int x2, .int r4]) (S' := [.int r4]) (h' := hpS s3) rfl ?_
      refine Ex.i1 hq rfl (fun c => ?_) (fun c => ?_)
      · have k := k.1 c
        refine Ex.seg hq 3 (j := 18) (L' := [.ref 35, .int x1, .int x2, .int r4]) (S' := [.int (x1 &&& r4)]) (h' := hpS s3) rfl ?_
        refine Ex.i1 hq rfl (fun c => ?_) (fun c => ?_)
        · have k := k.1 c
          refine Ex.seg hq 12 (j := 4) (L' := [.ref 35, .int (x1 ||| r4), .int (x2 + (1 : Int32)), .int r4]) (S' := []) (h' := hpS (sI s3 3504 ((s3.1 3504) + (1 : Int32)))) rfl ?_
          refine Ex.fg (L := [.ref 35, .int (x1 ||| r4), .int (x2 + (1 : Int32)), pu]) ⟨Or.inl rfl, ⟨Or.inl rfl, ⟨Or.inl rfl, ⟨Or.inr ⟨rfl, rfl⟩, trivial⟩⟩⟩⟩ ?_
          exact ih (x1 ||| r4) (x2 + (1 : Int32)) (sI s3 3504 ((s3.1 3504) + (1 : Int32))) k hX36 hX14
        · have k := k.2 c
          refine Ex.seg hq 4 (j := 23) (L' := [.ref 35, .int x1, .int x2, .int r4]) (S' := [.int (s3.1 3504), .int (6 : Int32), .ref 35]) (h' := hpS s3) rfl ?_
          refine Ex.cl hq rfl rfl ?_
          refine Rn.mono (q_85 (d := d + 0) (6 : Int32) (s3.1 3504) s3 k) ?_
          rintro _ _ ⟨s5, rfl, rfl, k⟩
          show Ex sc (d + 1) 67 24 [.ref 35, .int x1, .int x2, .int r4] [] (hpS s5) _
          refine Ex.seg hq 12 (j := 4) (L' := [.ref 35, .int (x1 ||| r4), .int (x2 + (1 : Int32)), .int r4]) (S' := []) (h' := hpS (sI s5 3504 ((s5.1 3504) + (1 : Int32)))) rfl ?_
          refine Ex.fg (L := [.ref 35, .int (x1 ||| r4), .int (x2 + (1 : Int32)), pu]) ⟨Or.inl rfl, ⟨Or.inl rfl, ⟨Or.inl rfl, ⟨Or.inr ⟨rfl, rfl⟩, trivial⟩⟩⟩⟩ ?_
          exact ih (x1 ||| r4) (x2 + (1 : Int32)) (sI s5 3504 ((s5.1 3504) + (1 : Int32))) k hX36 hX14
      · have k := k.2 c
        refine Ex.fg (L := [pu, .int x1, pu, pu]) ⟨Or.inr ⟨rfl, rfl⟩, ⟨Or.inl rfl, ⟨Or.inr ⟨rfl, rfl⟩, ⟨Or.inr ⟨rfl, rfl⟩, trivial⟩⟩⟩⟩ ?_
        exact hX14 x1 s3 k
/-- RowAuditor$Parser.stepLetters()I -/
def w_67  (s : ST) (K : Int32 → ST → Prop) : Prop := (∃ m, w_67_4 m (0 : Int32) (0 : Int32) s (fun y1 s7 => K y1 s7) (fun y1 s8 => K y1 s8) K)
theorem q_67 {d : Nat} {K : Int32 → ST → Prop}  (s : ST) (k : w_67  s K) : Rn sc (d + 1) 67 [.ref 35] (hpS s) (kI K) := by
  have hq : prog[67]? = some pm67 := rfl
  refine Rn.of (L := [.ref 35, pu, pu, pu]) hq rfl rfl ?_
  unfold w_67 at k
  refine Ex.seg hq 4 (j := 4) (L' := [.ref 35, .int (0 : Int32), .int (0 : Int32), pu]) (S' := []) (h' := hpS s) rfl ?_
  obtain ⟨m, k⟩ := k
  refine q_67_4 (d := d) m (0 : Int32) (0 : Int32) s k ?_ ?_
  · intro y1 s7 k
    refine Ex.seg hq 1 (j := 37) (L' := [pu, .int y1, pu, pu]) (S' := [.int y1]) (h' := hpS s7) rfl ?_
    exact Ex.rt hq rfl rfl ⟨y1, s7, rfl, rfl, k⟩
  · intro y1 s8 k
    refine Ex.seg hq 2 (j := 37) (L' := [pu, .int y1, pu, pu]) (S' := [.int y1]) (h' := hpS s8) rfl ?_
    exact Ex.rt hq rfl rfl ⟨y1, s8, rfl, rfl, k⟩
/-- RowAuditor$Parser.comparison(I)I -/
def w_72 (p0 : Int32) (s : ST) (K : Int32 → ST → Prop) : Prop := (((p0).toInt < 60 ∨ 62 < (p0).toInt → w_85 (1 : Int32) (s.1 3504) s (fun s1 => K (12 : Int32) s1)) ∧ (p0 = (60 : Int32) → K (10 : Int32) s) ∧ (p0 = (61 : Int32) → K (12 : Int32) s) ∧ (p0 = (62 : Int32) → K (11 : Int32) s))
theorem q_72 {d : Nat} {K : Int32 → ST → Prop} (p0 : Int32) (s : ST) (k : w_72 p0 s K) : Rn sc (d + 1) 72 [.ref 35, .int p0] (hpS s) (kI K) := by
  have hq : prog[72]? = some pm72 := rfl
  refine Rn.of (L := [.ref 35, .int p0]) hq rfl rfl ?_
  unfold w_72 at k
  refine Ex.seg hq 1 (j := 1) (L' := [.ref 35, .int p0]) (S' := [.int p0]) (h' := hpS s) rfl ?_
  refine Ex.tsw hq rfl (fun c => ?_) (fun t c ht => ?_) (by decide)
  · have k := k.1 c
    refine Ex.seg hq 4 (j := 12) (L' := [.ref 35, .int p0]) (S' := [.int (s.1 3504), .int (1 : Int32), .ref 35]) (h' := hpS s) rfl ?_
    refine Ex.cl hq rfl rfl ?_
    refine Rn.mono (q_85 (d := d + 0) (1 : Int32) (s.1 3504) s k) ?_
    rintro _ _ ⟨s1, rfl, rfl, k⟩
    show Ex sc (d + 1) 72 13 [.ref 35, .int p0] [] (hpS s1) _
    refine Ex.seg hq 1 (j := 14) (L' := [.ref 35, .int p0]) (S' := [.int (12 : Int32)]) (h' := hpS s1) rfl ?_
    exact Ex.rt hq rfl rfl ⟨(12 : Int32), s1, rfl, rfl, k⟩
  · have k := k.2
    rcases (show (p0).toInt = 60 ∨ (p0).toInt = 61 ∨ (p0).toInt = 62 by omega) with e | e | e
    · have cx : p0 = (60 : Int32) := Int32.toInt_inj.mp (by rw [e]; rfl)
      have k := k.1 cx
      rw [e] at ht
      have ht : (some 2 : Option Nat) = some t := ht
      cases ht
      refine Ex.seg hq 1 (j := 3) (L' := [.ref 35, .int p0]) (S' := [.int (10 : Int32)]) (h' := hpS s) rfl ?_
      exact Ex.rt hq rfl rfl ⟨(10 : Int32), s, rfl, rfl, k⟩
    · have cx : p0 = (61 : Int32) := Int32.toInt_inj.mp (by rw [e]; rfl)
      have k := k.2.1 cx
      rw [e] at ht
      have ht : (some 6 : Option Nat) = some t := ht
      cases ht
      refine Ex.seg hq 1 (j := 7) (L' := [.ref 35, .int p0]) (S' := [.int (12 : Int32)]) (h' := hpS s) rfl ?_
      exact Ex.rt hq rfl rfl ⟨(12 : Int32), s, rfl, rfl, k⟩
    · have cx : p0 = (62 : Int32) := Int32.toInt_inj.mp (by rw [e]; rfl)
      have k := k.2.2 cx
      rw [e] at ht
      have ht : (some 4 : Option Nat) = some t := ht
      cases ht
      refine Ex.seg hq 1 (j := 5) (L' := [.ref 35, .int p0]) (S' := [.int (11 : Int32)]) (h' := hpS s) rfl ?_
      exact Ex.rt hq rfl rfl ⟨(11 : Int32), s, rfl, rfl, k⟩
end WP
