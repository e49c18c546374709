/-! ===== weakest preconditions, printed by wip/whole/genwp.py ===== -/
section WP
variable {sc : Nat × (Nat → Int32)}
/-- RowAuditorModel.count(I)I -/
def w_282 (p1 : Int32) (s : ST) (K : Int32 → ST → Prop) : Prop := (((p1).toInt < 0 ∨ 8 < (p1).toInt → w_186 p1 (20 : Int32) ((19 : Int32) + (s.1 5541)) s (fun r2 s1 => ((r2 = 0 → w_186 p1 (40 : Int32) ((39 : Int32) + (s1.1 5542)) s1 (fun r4 s3 => ((r4 = 0 → K (-1 : Int32) s3) ∧ (¬ (r4 = 0) → (pin (((20 : Int32) + p1) - (40 : Int32)) 26 = true ∧ K ((s3.2.1 86) ((((20 : Int32) + p1) - (40 : Int32))).toNatClampNeg) s3))))) ∧ (¬ (r2 = 0) → (pin (p1 - (20 : Int32)) 26 = true ∧ K ((s1.2.1 86) ((p1 - (20 : Int32))).toNatClampNeg) s1))))) ∧ (p1 = (0 : Int32) → K (s.1 5500) s) ∧ (p1 = (1 : Int32) → K (s.1 5501) s) ∧ (p1 = (2 : Int32) → K (s.1 5502) s) ∧ (p1 = (3 : Int32) → K (s.1 5541) s) ∧ (p1 = (4 : Int32) → K (s.1 5503) s) ∧ (p1 = (5 : Int32) → K (s.1 5542) s) ∧ (p1 = (6 : Int32) → K (s.1 5578) s) ∧ (p1 = (7 : Int32) → K (s.1 5579) s) ∧ (p1 = (8 : Int32) → K (s.1 5525) s))
theorem q_282 {d : Nat} {K : Int32 → ST → Prop} (p1 : Int32) (s : ST) (k : w_282 p1 s K) : Rn sc (d + 1) 282 [.ref 55, .int p1] (hpS s) (kI K) := by
  have hq : prog[282]? = some pm282 := rfl
  refine Rn.of (L := [.ref 55, .int p1]) hq rfl rfl ?_
  unfold w_282 at k
  refine Ex.seg hq 1 (j := 1) (L' := [.ref 55, .int p1]) (S' := [.int p1]) (h' := hpS s) rfl ?_
  refine Ex.tsw hq rfl (fun c => ?_) (fun t c ht => ?_) (by decide)
  · have k := k.1 c
    refine Ex.seg hq 6 (j := 35) (L' := [.ref 55, .int p1]) (S' := [.int ((19 : Int32) + (s.1 5541)), .int (20 : Int32), .int p1]) (h' := hpS s) rfl ?_
    refine Ex.cl hq rfl rfl ?_
    refine Rn.mono (q_186 (d := d + 0) p1 (20 : Int32) ((19 : Int32) + (s.1 5541)) s k) ?_
    rintro _ _ ⟨r2, s1, rfl, hzr2, rfl, k⟩
    show Ex sc (d + 1) 282 36 [.ref 55, .int p1] [.int r2] (hpS s1) _
    refine Ex.i1 hq rfl (fun c => ?_) (fun c => ?_)
    · have k := k.1 c
      refine Ex.seg hq 6 (j := 50) (L' := [.ref 55, .int p1]) (S' := [.int ((39 : Int32) + (s1.1 5542)), .int (40 : Int32), .int p1]) (h' := hpS s1) rfl ?_
      refine Ex.cl hq rfl rfl ?_
      refine Rn.mono (q_186 (d := d + 0) p1 (40 : Int32) ((39 : Int32) + (s1.1 5542)) s1 k) ?_
      rintro _ _ ⟨r4, s3, rfl, hzr4, rfl, k⟩
      show Ex sc (d + 1) 282 51 [.ref 55, .int p1] [.int r4] (hpS s3) _
      refine Ex.i1 hq rfl (fun c => ?_) (fun c => ?_)
      · have k := k.1 c
        refine Ex.seg hq 1 (j := 62) (L' := [.ref 55, .int p1]) (S' := [.int (-1 : Int32)]) (h' := hpS s3) rfl ?_
        exact Ex.rt hq rfl rfl ⟨(-1 : Int32), s3, rfl, rfl, k⟩
      · have k := k.2 c
        refine Ex.seg hq 7 (j := 59) (L' := [.ref 55, .int p1]) (S' := [.int (((20 : Int32) + p1) - (40 : Int32)), .ref 86]) (h' := hpS s3) rfl ?_
        obtain ⟨hin, k⟩ := k
        refine Ex.ial hq rfl rfl hin ?_
        refine Ex.seg hq 1 (j := 62) (L' := [.ref 55, .int p1]) (S' := [.int ((s3.2.1 86) ((((20 : Int32) + p1) - (40 : Int32))).toNatClampNeg)]) (h' := hpS s3) rfl ?_
        exact Ex.rt hq rfl rfl ⟨((s3.2.1 86) ((((20 : Int32) + p1) - (40 : Int32))).toNatClampNeg), s3, rfl, rfl, k⟩
    · have k := k.2 c
      refine Ex.seg hq 5 (j := 42) (L' := [.ref 55, .int p1]) (S' := [.int (p1 - (20 : Int32)), .ref 86]) (h' := hpS s1) rfl ?_
      obtain ⟨hin, k⟩ := k
      refine Ex.ial hq rfl rfl hin ?_
      exact Ex.rt hq rfl rfl ⟨((s1.2.1 86) ((p1 - (20 : Int32))).toNatClampNeg), s1, rfl, rfl, k⟩
  · have k := k.2
    rcases (show (p1).toInt = 0 ∨ (p1).toInt = 1 ∨ (p1).toInt = 2 ∨ (p1).toInt = 3 ∨ (p1).toInt = 4 ∨ (p1).toInt = 5 ∨ (p1).toInt = 6 ∨ (p1).toInt = 7 ∨ (p1).toInt = 8 by omega) with e | e | e | e | e | e | e | e | e
    · have cx : p1 = (0 : Int32) := Int32.toInt_inj.mp (by rw [e]; rfl)
      have k := k.1 cx
      rw [e] at ht
      have ht : (some 2 : Option Nat) = some t := ht
      cases ht
      refine Ex.seg hq 2 (j := 4) (L' := [.ref 55, .int p1]) (S' := [.int (s.1 5500)]) (h' := hpS s) rfl ?_
      exact Ex.rt hq rfl rfl ⟨(s.1 5500), s, rfl, rfl, k⟩
    · have cx : p1 = (1 : Int32) := Int32.toInt_inj.mp (by rw [e]; rfl)
      have k := k.2.1 cx
      rw [e] at ht
      have ht : (some 5 : Option Nat) = some t := ht
      cases ht
      refine Ex.seg hq 2 (j := 7) (L' := [.ref 55, .int p1]) (S' := [.int (s.1 5501)]) (h' := hpS s) rfl ?_
      exact Ex.rt hq rfl rfl ⟨(s.1 5501), s, rfl, rfl, k⟩
    · have cx : p1 = (2 : Int32) := Int32.toInt_inj.mp (by rw [e]; rfl)
      have k := k.2.2.1 cx
      rw [e] at ht
      have ht : (some 8 : Option Nat) = some t := ht
      cases ht
      refine Ex.seg hq 2 (j := 10) (L' := [.ref 55, .int p1]) (S' := [.int (s.1 5502)]) (h' := hpS s) rfl ?_
      exact Ex.rt hq rfl rfl ⟨(s.1 5502), s, rfl, rfl, k⟩
    · have cx : p1 = (3 : Int32) := Int32.toInt_inj.mp (by rw [e]; rfl)
      have k := k.2.2.2.1 cx
      rw [e] at ht
      have ht : (some 11 : Option Nat) = some t := ht
      cases ht
      refine Ex.seg hq 2 (j := 13) (L' := [.ref 55, .int p1]) (S' := [.int (s.1 5541)]) (h' := hpS s) rfl ?_
      exact Ex.rt hq rfl rfl ⟨(s.1 5541), s, rfl, rfl, k⟩
    · have cx : p1 = (4 : Int32) := Int32.toInt_inj.mp (by rw [e]; rfl)
      have k := k.2.2.2.2.1 cx
      rw [e] at ht
      have ht : (some 14 : Option Nat) = some t := ht
      cases ht
      refine Ex.seg hq 2 (j := 16) (L' := [.ref 55, .int p1]) (S' := [.int (s.1 5503)]) (h' := hpS s) rfl ?_
      exact Ex.rt hq rfl rfl ⟨(s.1 5503), s, rfl, rfl, k⟩
    · have cx : p1 = (5 : Int32) := Int32.toInt_inj.mp (by rw [e]; rfl)
      have k := k.2.2.2.2.2.1 cx
      rw [e] at ht
      have ht : (some 17 : Option Nat) = some t := ht
      cases ht
      refine Ex.seg hq 2 (j := 19) (L' := [.ref 55, .int p1]) (S' := [.int (s.1 5542)]) (h' := hpS s) rfl ?_
      exact Ex.rt hq rfl rfl ⟨(s.1 5542), s, rfl, rfl, k⟩
    · have cx : p1 = (6 : Int32) := Int32.toInt_inj.mp (by rw [e]; rfl)
      have k := k.2.2.2.2.2.2.1 cx
      rw [e] at ht
      have ht : (some 20 : Option Nat) = some t := ht
      cases ht
      refine Ex.seg hq 2 (j := 22) (L' := [.ref 55, .int p1]) (S' := [.int (s.1 5578)]) (h' := hpS s) rfl ?_
      exact Ex.rt hq rfl rfl ⟨(s.1 5578), s, rfl, rfl, k⟩
    · have cx : p1 = (7 : Int32) := Int32.toInt_inj.mp (by rw [e]; rfl)
      have k := k.2.2.2.2.2.2.2.1 cx
      rw [e] at ht
      have ht : (some 23 : Option Nat) = some t := ht
      cases ht
      refine Ex.seg hq 2 (j := 25) (L' := [.ref 55, .int p1]) (S' := [.int (s.1 5579)]) (h' := hpS s) rfl ?_
      exact Ex.rt hq rfl rfl ⟨(s.1 5579), s, rfl, rfl, k⟩
    · have cx : p1 = (8 : Int32) := Int32.toInt_inj.mp (by rw [e]; rfl)
      have k := k.2.2.2.2.2.2.2.2 cx
      rw [e] at ht
      have ht : (some 26 : Option Nat) = some t := ht
      cases ht
      refine Ex.seg hq 2 (j := 28) (L' := [.ref 55, .int p1]) (S' := [.int (s.1 5525)]) (h' := hpS s) rfl ?_
      exact Ex.rt hq rfl rfl ⟨(s.1 5525), s, rfl, rfl, k⟩
end WP
