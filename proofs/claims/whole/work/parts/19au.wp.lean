/-! ===== weakest preconditions, printed by wip/whole/genwp.py ===== -/
section WP
variable {sc : Nat × (Nat → Int32)}
/-- RowAuditorModel.reckon(IJJ)J -/
def w_231 (p0 : Int32) (p1 : Int64) (p2 : Int64) (s : ST) (K : Int64 → ST → Prop) : Prop := (((p0).toInt < 2 ∨ 8 < (p0).toInt → ((¬ (lg_cmp p1 p2) = 0 → K (0 : Int64) s) ∧ (¬ (¬ (lg_cmp p1 p2) = 0) → K (1 : Int64) s))) ∧ (p0 = (2 : Int32) → K (p1 + p2) s) ∧ (p0 = (3 : Int32) → K (p1 - p2) s) ∧ (p0 = (4 : Int32) → K (p1 * p2) s) ∧ (p0 = (5 : Int32) → (¬ p2 = 0 ∧ K (p1 / p2) s)) ∧ (p0 = (6 : Int32) → (¬ p2 = 0 ∧ K (p1 - p1 / p2 * p2) s)) ∧ (p0 = (7 : Int32) → ((0 ≤ (lg_cmp p1 p2) → K (0 : Int64) s) ∧ (¬ (0 ≤ (lg_cmp p1 p2)) → K (1 : Int64) s))) ∧ (p0 = (8 : Int32) → (((lg_cmp p1 p2) ≤ 0 → K (0 : Int64) s) ∧ (¬ ((lg_cmp p1 p2) ≤ 0) → K (1 : Int64) s))))
theorem q_231 {d : Nat} {K : Int64 → ST → Prop} (p0 : Int32) (p1 : Int64) (p2 : Int64) (s : ST) (k : w_231 p0 p1 p2 s K) : Rn sc (d + 0) 231 [.int p0, .long p1, .long p2] (hpS s) (kJ K) := by
  have hq : prog[231]? = some pm231 := rfl
  refine Rn.of (L := [.int p0, .long p1, pu, .long p2, pu]) hq rfl rfl ?_
  unfold w_231 at k
  refine Ex.seg hq 1 (j := 1) (L' := [.int p0, .long p1, pu, .long p2, pu]) (S' := [.int p0]) (h' := hpS s) rfl ?_
  refine Ex.tsw hq rfl (fun c => ?_) (fun t c ht => ?_) (by decide)
  · have k := k.1 c
    refine Ex.seg hq 3 (j := 41) (L' := [.int p0, .long p1, pu, .long p2, pu]) (S' := [.int (lg_cmp p1 p2)]) (h' := hpS s) rfl ?_
    refine Ex.i1 hq rfl (fun c => ?_) (fun c => ?_)
    · have k := k.1 c
      refine Ex.seg hq 1 (j := 45) (L' := [.int p0, .long p1, pu, .long p2, pu]) (S' := [.long (0 : Int64)]) (h' := hpS s) rfl ?_
      exact Ex.rt hq rfl rfl ⟨(0 : Int64), s, rfl, rfl, k⟩
    · have k := k.2 c
      refine Ex.seg hq 2 (j := 45) (L' := [.int p0, .long p1, pu, .long p2, pu]) (S' := [.long (1 : Int64)]) (h' := hpS s) rfl ?_
      exact Ex.rt hq rfl rfl ⟨(1 : Int64), s, rfl, rfl, k⟩
  · have k := k.2
    rcases (show (p0).toInt = 2 ∨ (p0).toInt = 3 ∨ (p0).toInt = 4 ∨ (p0).toInt = 5 ∨ (p0).toInt = 6 ∨ (p0).toInt = 7 ∨ (p0).toInt = 8 by omega) with e | e | e | e | e | e | e
    · have cx : p0 = (2 : Int32) := Int32.toInt_inj.mp (by rw [e]; rfl)
      have k := k.1 cx
      rw [e] at ht
      have ht : (some 2 : Option Nat) = some t := ht
      cases ht
      refine Ex.seg hq 3 (j := 5) (L' := [.int p0, .long p1, pu, .long p2, pu]) (S' := [.long (p1 + p2)]) (h' := hpS s) rfl ?_
      exact Ex.rt hq rfl rfl ⟨(p1 + p2), s, rfl, rfl, k⟩
    · have cx : p0 = (3 : Int32) := Int32.toInt_inj.mp (by rw [e]; rfl)
      have k := k.2.1 cx
      rw [e] at ht
      have ht : (some 6 : Option Nat) = some t := ht
      cases ht
      refine Ex.seg hq 3 (j := 9) (L' := [.int p0, .long p1, pu, .long p2, pu]) (S' := [.long (p1 - p2)]) (h' := hpS s) rfl ?_
      exact Ex.rt hq rfl rfl ⟨(p1 - p2), s, rfl, rfl, k⟩
    · have cx : p0 = (4 : Int32) := Int32.toInt_inj.mp (by rw [e]; rfl)
      have k := k.2.2.1 cx
      rw [e] at ht
      have ht : (some 10 : Option Nat) = some t := ht
      cases ht
      refine Ex.seg hq 3 (j := 13) (L' := [.int p0, .long p1, pu, .long p2, pu]) (S' := [.long (p1 * p2)]) (h' := hpS s) rfl ?_
      exact Ex.rt hq rfl rfl ⟨(p1 * p2), s, rfl, rfl, k⟩
    · have cx : p0 = (5 : Int32) := Int32.toInt_inj.mp (by rw [e]; rfl)
      have k := k.2.2.2.1 cx
      rw [e] at ht
      have ht : (some 14 : Option Nat) = some t := ht
      cases ht
      refine Ex.seg hq 2 (j := 16) (L' := [.int p0, .long p1, pu, .long p2, pu]) (S' := [.long p2, .long p1]) (h' := hpS s) rfl ?_
      obtain ⟨hz, k⟩ := k
      refine Ex.ldv hq rfl hz ?_
      exact Ex.rt hq rfl rfl ⟨(p1 / p2), s, rfl, rfl, k⟩
    · have cx : p0 = (6 : Int32) := Int32.toInt_inj.mp (by rw [e]; rfl)
      have k := k.2.2.2.2.1 cx
      rw [e] at ht
      have ht : (some 18 : Option Nat) = some t := ht
      cases ht
      refine Ex.seg hq 2 (j := 20) (L' := [.int p0, .long p1, pu, .long p2, pu]) (S' := [.long p2, .long p1]) (h' := hpS s) rfl ?_
      obtain ⟨hz, k⟩ := k
      refine Ex.lrm hq rfl hz ?_
      exact Ex.rt hq rfl rfl ⟨(p1 - p1 / p2 * p2), s, rfl, rfl, k⟩
    · have cx : p0 = (7 : Int32) := Int32.toInt_inj.mp (by rw [e]; rfl)
      have k := k.2.2.2.2.2.1 cx
      rw [e] at ht
      have ht : (some 22 : Option Nat) = some t := ht
      cases ht
      refine Ex.seg hq 3 (j := 25) (L' := [.int p0, .long p1, pu, .long p2, pu]) (S' := [.int (lg_cmp p1 p2)]) (h' := hpS s) rfl ?_
      refine Ex.i1 hq rfl (fun c => ?_) (fun c => ?_)
      · have k := k.1 c
        refine Ex.seg hq 1 (j := 29) (L' := [.int p0, .long p1, pu, .long p2, pu]) (S' := [.long (0 : Int64)]) (h' := hpS s) rfl ?_
        exact Ex.rt hq rfl rfl ⟨(0 : Int64), s, rfl, rfl, k⟩
      · have k := k.2 c
        refine Ex.seg hq 2 (j := 29) (L' := [.int p0, .long p1, pu, .long p2, pu]) (S' := [.long (1 : Int64)]) (h' := hpS s) rfl ?_
        exact Ex.rt hq rfl rfl ⟨(1 : Int64), s, rfl, rfl, k⟩
    · have cx : p0 = (8 : Int32) := Int32.toInt_inj.mp (by rw [e]; rfl)
      have k := k.2.2.2.2.2.2 cx
      rw [e] at ht
      have ht : (some 30 : Option Nat) = some t := ht
      cases ht
      refine Ex.seg hq 3 (j := 33) (L' := [.int p0, .long p1, pu, .long p2, pu]) (S' := [.int (lg_cmp p1 p2)]) (h' := hpS s) rfl ?_
      refine Ex.i1 hq rfl (fun c => ?_) (fun c => ?_)
      · have k := k.1 c
        refine Ex.seg hq 1 (j := 37) (L' := [.int p0, .long p1, pu, .long p2, pu]) (S' := [.long (0 : Int64)]) (h' := hpS s) rfl ?_
        exact Ex.rt hq rfl rfl ⟨(0 : Int64), s, rfl, rfl, k⟩
      · have k := k.2 c
        refine Ex.seg hq 2 (j := 37) (L' := [.int p0, .long p1, pu, .long p2, pu]) (S' := [.long (1 : Int64)]) (h' := hpS s) rfl ?_
        exact Ex.rt hq rfl rfl ⟨(1 : Int64), s, rfl, rfl, k⟩
def w_232_L13 : Nat → Int32 → Int32 → Int32 → Int32 → ST → (ST → Prop) → (ST → Prop) → (Int32 → ST → Prop) → Prop
  | 0, _, _, _, _, _, _, _, _ => False
  | n + 1, x1, x2, x3, x4, s, X146, X125, K => (pin x1 260 = true ∧ ((((s.2.1 89) (x1).toNatClampNeg) ≤ x4 → X146  s) ∧ (¬ (((s.2.1 89) (x1).toNatClampNeg) ≤ x4) → (pin x4 4680 = true ∧ (¬ (16777216 : Int32) = 0 ∧ (pin x4 4680 = true ∧ (¬ (16777216 : Int32) = 0 ∧ (((((s.2.1 83) (x4).toNatClampNeg) / (16777216 : Int32)) = 0 → ((¬ (((s.2.1 83) (x4).toNatClampNeg) / (16777216 : Int32)) = 0 → (pin (((s.2.1 83) (x4).toNatClampNeg) - ((s.2.1 83) (x4).toNatClampNeg) / (16777216 : Int32) * (16777216 : Int32)) 13 = true ∧ (pin x2 180 = true ∧ w_232_L13 n x1 (x2 + (1 : Int32)) x3 (x4 + (1 : Int32)) (sL s 92 (vp_updL (s.2.2.1 92) (x2).toNatClampNeg ((s.2.2.1 93) ((((s.2.1 83) (x4).toNatClampNeg) - ((s.2.1 83) (x4).toNatClampNeg) / (16777216 : Int32) * (16777216 : Int32))).toNatClampNeg))) X146 X125 K))) ∧ (¬ (¬ (((s.2.1 83) (x4).toNatClampNeg) / (16777216 : Int32)) = 0) → (pin x2 180 = true ∧ w_232_L13 n x1 (x2 + (1 : Int32)) x3 (x4 + (1 : Int32)) (sL s 92 (vp_updL (s.2.2.1 92) (x2).toNatClampNeg (((((s.2.1 83) (x4).toNatClampNeg) - ((s.2.1 83) (x4).toNatClampNeg) / (16777216 : Int32) * (16777216 : Int32))).toInt64))) X146 X125 K)))) ∧ (¬ ((((s.2.1 83) (x4).toNatClampNeg) / (16777216 : Int32)) = 0) → ((¬ (((s.2.1 83) (x4).toNatClampNeg) / (16777216 : Int32)) = (1 : Int32) → ((¬ (((s.2.1 83) (x4).toNatClampNeg) / (16777216 : Int32)) = (10 : Int32) → (((((s.2.1 83) (x4).toNatClampNeg) / (16777216 : Int32)) = (11 : Int32) → (pin (x2 - (1 : Int32)) 180 = true ∧ ((¬ (((s.2.1 83) (x4).toNatClampNeg) / (16777216 : Int32)) = (12 : Int32) → ((¬ (lg_cmp ((s.2.2.1 92) ((x2 - (1 : Int32))).toNatClampNeg) (0 : Int64)) = 0 → w_232_L13 n x1 (x2 - (1 : Int32)) x3 (x4 + (1 : Int32)) s X146 X125 K) ∧ (¬ (¬ (lg_cmp ((s.2.2.1 92) ((x2 - (1 : Int32))).toNatClampNeg) (0 : Int64)) = 0) → w_232_L13 n x1 x2 x3 (x3 + (((s.2.1 83) (x4).toNatClampNeg) - ((s.2.1 83) (x4).toNatClampNeg) / (16777216 : Int32) * (16777216 : Int32))) s X146 X125 K))) ∧ (¬ (¬ (((s.2.1 83) (x4).toNatClampNeg) / (16777216 : Int32)) = (12 : Int32)) → ((¬ (lg_cmp ((s.2.2.1 92) ((x2 - (1 : Int32))).toNatClampNeg) (1 : Int64)) = 0 → w_232_L13 n x1 (x2 - (1 : Int32)) x3 (x4 + (1 : Int32)) s X146 X125 K) ∧ (¬ (¬ (lg_cmp ((s.2.2.1 92) ((x2 - (1 : Int32))).toNatClampNeg) (1 : Int64)) = 0) → w_232_L13 n x1 x2 x3 (x3 + (((s.2.1 83) (x4).toNatClampNeg) - ((s.2.1 83) (x4).toNatClampNeg) / (16777216 : Int32) * (16777216 : Int32))) s X146 X125 K)))))) ∧ (¬ ((((s.2.1 83) (x4).toNatClampNeg) / (16777216 : Int32)) = (11 : Int32)) → ((¬ (((s.2.1 83) (x4).toNatClampNeg) / (16777216 : Int32)) = (12 : Int32) → (((((s.2.1 83) (x4).toNatClampNeg) / (16777216 : Int32)) = (5 : Int32) → (pin (x2 - (1 : Int32)) 180 = true ∧ ((¬ (lg_cmp ((s.2.2.1 92) ((x2 - (1 : Int32))).toNatClampNeg) (0 : Int64)) = 0 → (pin ((x2 - (1 : Int32)) - (1 : Int32)) 180 = true ∧ (pin (x2 - (1 : Int32)) 180 = true ∧ w_231 (((s.2.1 83) (x4).toNatClampNeg) / (16777216 : Int32)) ((s.2.2.1 92) (((x2 - (1 : Int32)) - (1 : Int32))).toNatClampNeg) ((s.2.2.1 92) ((x2 - (1 : Int32))).toNatClampNeg) s (fun r2 s1 => (pin ((x2 - (1 : Int32)) - (1 : Int32)) 180 = true ∧ w_232_L13 n x1 (x2 - (1 : Int32)) x3 (x4 + (1 : Int32)) (sL s1 92 (vp_updL (s1.2.2.1 92) (((x2 - (1 : Int32)) - (1 : Int32))).toNatClampNeg r2)) X146 X125 K))))) ∧ (¬ (¬ (lg_cmp ((s.2.2.1 92) ((x2 - (1 : Int32))).toNatClampNeg) (0 : Int64)) = 0) → X125  s)))) ∧ (¬ ((((s.2.1 83) (x4).toNatClampNeg) / (16777216 : Int32)) = (5 : Int32)) → ((¬ (((s.2.1 83) (x4).toNatClampNeg) / (16777216 : Int32)) = (6 : Int32) → (pin ((x2 - (1 : Int32)) - (1 : Int32)) 180 = true ∧ (pin (x2 - (1 : Int32)) 180 = true ∧ w_231 (((s.2.1 83) (x4).toNatClampNeg) / (16777216 : Int32)) ((s.2.2.1 92) (((x2 - (1 : Int32)) - (1 : Int32))).toNatClampNeg) ((s.2.2.1 92) ((x2 - (1 : Int32))).toNatClampNeg) s (fun r4 s3 => (pin ((x2 - (1 : Int32)) - (1 : Int32)) 180 = true ∧ w_232_L13 n x1 (x2 - (1 : Int32)) x3 (x4 + (1 : Int32)) (sL s3 92 (vp_updL (s3.2.2.1 92) (((x2 - (1 : Int32)) - (1 : Int32))).toNatClampNeg r4)) X146 X125 K))))) ∧ (¬ (¬ (((s.2.1 83) (x4).toNatClampNeg) / (16777216 : Int32)) = (6 : Int32)) → (pin (x2 - (1 : Int32)) 180 = true ∧ ((¬ (lg_cmp ((s.2.2.1 92) ((x2 - (1 : Int32))).toNatClampNeg) (0 : Int64)) = 0 → (pin ((x2 - (1 : Int32)) - (1 : Int32)) 180 = true ∧ (pin (x2 - (1 : Int32)) 180 = true ∧ w_231 (((s.2.1 83) (x4).toNatClampNeg) / (16777216 : Int32)) ((s.2.2.1 92) (((x2 - (1 : Int32)) - (1 : Int32))).toNatClampNeg) ((s.2.2.1 92) ((x2 - (1 : Int32))).toNatClampNeg) s (fun r6 s5 => (pin ((x2 - (1 : Int32)) - (1 : Int32)) 180 = true ∧ w_232_L13 n x1 (x2 - (1 : Int32)) x3 (x4 + (1 : Int32)) (sL s5 92 (vp_updL (s5.2.2.1 92) (((x2 - (1 : Int32)) - (1 : Int32))).toNatClampNeg r6)) X146 X125 K))))) ∧ (¬ (¬ (lg_cmp ((s.2.2.1 92) ((x2 - (1 : Int32))).toNatClampNeg) (0 : Int64)) = 0) → X125  s)))))))) ∧ (¬ (¬ (((s.2.1 83) (x4).toNatClampNeg) / (16777216 : Int32)) = (12 : Int32)) → (pin (x2 - (1 : Int32)) 180 = true ∧ ((¬ (((s.2.1 83) (x4).toNatClampNeg) / (16777216 : Int32)) = (12 : Int32) → ((¬ (lg_cmp ((s.2.2.1 92) ((x2 - (1 : Int32))).toNatClampNeg) (0 : Int64)) = 0 → w_232_L13 n x1 (x2 - (1 : Int32)) x3 (x4 + (1 : Int32)) s X146 X125 K) ∧ (¬ (¬ (lg_cmp ((s.2.2.1 92) ((x2 - (1 : Int32))).toNatClampNeg) (0 : Int64)) = 0) → w_232_L13 n x1 x2 x3 (x3 + (((s.2.1 83) (x4).toNatClampNeg) - ((s.2.1 83) (x4).toNatClampNeg) / (16777216 : Int32) * (16777216 : Int32))) s X146 X125 K))) ∧ (¬ (¬ (((s.2.1 83) (x4).toNatClampNeg) / (16777216 : Int32)) = (12 : Int32)) → ((¬ (lg_cmp ((s.2.2.1 92) ((x2 - (1 : Int32))).toNatClampNeg) (1 : Int64)) = 0 → w_232_L13 n x1 (x2 - (1 : Int32)) x3 (x4 + (1 : Int32)) s X146 X125 K) ∧ (¬ (¬ (lg_cmp ((s.2.2.1 92) ((x2 - (1 : Int32))).toNatClampNeg) (1 : Int64)) = 0) → w_232_L13 n x1 x2 x3 (x3 + (((s.2.1 83) (x4).toNatClampNeg) - ((s.2.1 83) (x4).toNatClampNeg) / (16777216 : Int32) * (16777216 : Int32))) s X146 X125 K)))))))))) ∧ (¬ (¬ (((s.2.1 83) (x4).toNatClampNeg) / (16777216 : Int32)) = (10 : Int32)) → (pin (x2 - (1 : Int32)) 180 = true ∧ (pin (x2 - (1 : Int32)) 180 = true ∧ w_232_L13 n x1 x2 x3 (x4 + (1 : Int32)) (sL s 92 (vp_updL (s.2.2.1 92) ((x2 - (1 : Int32))).toNatClampNeg ((1 : Int64) - ((s.2.2.1 92) ((x2 - (1 : Int32))).toNatClampNeg)))) X146 X125 K))))) ∧ (¬ (¬ (((s.2.1 83) (x4).toNatClampNeg) / (16777216 : Int32)) = (1 : Int32)) → ((¬ (((s.2.1 83) (x4).toNatClampNeg) / (16777216 : Int32)) = 0 → (pin (((s.2.1 83) (x4).toNatClampNeg) - ((s.2.1 83) (x4).toNatClampNeg) / (16777216 : Int32) * (16777216 : Int32)) 13 = true ∧ (pin x2 180 = true ∧ w_232_L13 n x1 (x2 + (1 : Int32)) x3 (x4 + (1 : Int32)) (sL s 92 (vp_updL (s.2.2.1 92) (x2).toNatClampNeg ((s.2.2.1 93) ((((s.2.1 83) (x4).toNatClampNeg) - ((s.2.1 83) (x4).toNatClampNeg) / (16777216 : Int32) * (16777216 : Int32))).toNatClampNeg))) X146 X125 K))) ∧ (¬ (¬ (((s.2.1 83) (x4).toNatClampNeg) / (16777216 : Int32)) = 0) → (pin x2 180 = true ∧ w_232_L13 n x1 (x2 + (1 : Int32)) x3 (x4 + (1 : Int32)) (sL s 92 (vp_updL (s.2.2.1 92) (x2).toNatClampNeg (((((s.2.1 83) (x4).toNatClampNeg) - ((s.2.1 83) (x4).toNatClampNeg) / (16777216 : Int32) * (16777216 : Int32))).toInt64))) X146 X125 K))))))))))))))
theorem q_232_L13 {d : Nat} {X146 : ST → Prop} {X125 : ST → Prop} {K : Int32 → ST → Prop} : ∀ (n : Nat) (x1 : Int32) (x2 : Int32) (x3 : Int32) (x4 : Int32) (s : ST), w_232_L13 n x1 x2 x3 x4 s X146 X125 K → (∀ (s : ST), X146  s → Ex sc (d + 1) 232 146 [.ref 55, pu, pu, pu, pu, pu, pu] [] (hpS s) (kZ K)) → (∀ (s : ST), X125  s → Ex sc (d + 1) 232 125 [pu, pu, pu, pu, pu, pu, pu] [] (hpS s) (kZ K)) → Ex sc (d + 1) 232 13 [.ref 55, .int x1, .int x2, .int x3, .int x4, pu, pu] [] (hpS s) (kZ K) := by
  have hq : prog[232]? = some pm232 := rfl
  intro n
  induction n with
  | zero =>
    intro x1 x2 x3 x4 s k
    exact k.elim
  | succ n ih =>
    intro x1 x2 x3 x4 s k hX146 hX125
    rw [w_232_L13] at k
    refine Ex.seg hq 4 (j := 17) (L' := [.ref 55, .int x1, .int x2, .int x3, .int x4, pu, pu]) (S' := [.int x1, .ref 89, .int x4]) (h' := hpS s) rfl ?_
    obtain ⟨hin, k⟩ := k
    refine Ex.ial hq rfl rfl hin ?_
    refine Ex.i2 hq rfl (fun c => ?_) (fun c => ?_)
    · have k := k.1 c
      refine Ex.fg (L := [.ref 55, pu, pu, pu, pu, pu, pu]) ⟨Or.inl rfl, ⟨Or.inr ⟨rfl, rfl⟩, ⟨Or.inr ⟨rfl, rfl⟩, ⟨Or.inr ⟨rfl, rfl⟩, ⟨Or.inr ⟨rfl, rfl⟩, ⟨Or.inl rfl, ⟨Or.inl rfl, trivial⟩⟩⟩⟩⟩⟩⟩ ?_
      exact hX146  s k
    · have k := k.2 c
      refine Ex.seg hq 3 (j := 22) (L' := [.ref 55, .int x1, .int x2, .int x3, .int x4, pu, pu]) (S' := [.int x4, .ref 83]) (h' := hpS s) rfl ?_
      obtain ⟨hin, k⟩ := k
      refine Ex.ial hq rfl rfl hin ?_
      refine Ex.seg hq 1 (j := 24) (L' := [.ref 55, .int x1, .int x2, .int x3, .int x4, pu, pu]) (S' := [.int (16777216 : Int32), .int ((s.2.1 83) (x4).toNatClampNeg)]) (h' := hpS s) rfl ?_
      obtain ⟨hz, k⟩ := k
      refine Ex.dv hq rfl hz ?_
      refine Ex.seg hq 4 (j := 29) (L' := [.ref 55, .int x1, .int x2, .int x3, .int x4, .int (((s.2.1 83) (x4).toNatClampNeg) / (16777216 : Int32)), pu]) (S' := [.int x4, .ref 83]) (h' := hpS s) rfl ?_
      obtain ⟨hin, k⟩ := k
      refine Ex.ial hq rfl rfl hin ?_
      refine Ex.seg hq 1 (j := 31) (L' := [.ref 55, .int x1, .int x2, .int x3, .int x4, .int (((s.2.1 83) (x4).toNatClampNeg) / (16777216 : Int32)), pu]) (S' := [.int (16777216 : Int32), .int ((s.2.1 83) (x4).toNatClampNeg)]) (h' := hpS s) rfl ?_
      obtain ⟨hz, k⟩ := k
      refine Ex.rm hq rfl hz ?_
      refine Ex.seg hq 6 (j := 38) (L' := [.ref 55, .int x1, .int x2, .int x3, .int (x4 + (1 : Int32)), .int (((s.2.1 83) (x4).toNatClampNeg) / (16777216 : Int32)), .int (((s.2.1 83) (x4).toNatClampNeg) - ((s.2.1 83) (x4).toNatClampNeg) / (16777216 : Int32) * (16777216 : Int32))]) (S' := [.int (((s.2.1 83) (x4).toNatClampNeg) / (16777216 : Int32))]) (h' := hpS s) rfl ?_
      refine Ex.i1 hq rfl (fun c => ?_) (fun c => ?_)
      · have k := k.1 c
        refine Ex.seg hq 4 (j := 46) (L' := [.ref 55, .int x1, .int x2, .int x3, .int (x4 + (1 : Int32)), .int (((s.2.1 83) (x4).toNatClampNeg) / (16777216 : Int32)), .int (((s.2.1 83) (x4).toNatClampNeg) - ((s.2.1 83) (x4).toNatClampNeg) / (16777216 : Int32) * (16777216 : Int32))]) (S' := [.int (((s.2.1 83) (x4).toNatClampNeg) / (16777216 : Int32)), .int x2, .ref 92]) (h' := hpS s) rfl ?_
        refine Ex.i1 hq rfl (fun c => ?_) (fun c => ?_)
        · have k := k.1 c
          refine Ex.seg hq 3 (j := 53) (L' := [.ref 55, .int x1, .int x2, .int x3, .int (x4 + (1 : Int32)), .int (((s.2.1 83) (x4).toNatClampNeg) / (16777216 : Int32)), .int (((s.2.1 83) (x4).toNatClampNeg) - ((s.2.1 83) (x4).toNatClampNeg) / (16777216 : Int32) * (16777216 : Int32))]) (S' := [.int (((s.2.1 83) (x4).toNatClampNeg) - ((s.2.1 83) (x4).toNatClampNeg) / (16777216 : Int32) * (16777216 : Int32)), .ref 93, .int x2, .ref 92]) (h' := hpS s) rfl ?_
          obtain ⟨hin, k⟩ := k
          refine Ex.lal hq rfl rfl hin ?_
          obtain ⟨hin, k⟩ := k
          refine Ex.las hq rfl rfl hin (h' := hpS (sL s 92 (vp_updL (s.2.2.1 92) (x2).toNatClampNeg ((s.2.2.1 93) ((((s.2.1 83) (x4).toNatClampNeg) - ((s.2.1 83) (x4).toNatClampNeg) / (16777216 : Int32) * (16777216 : Int32))).toNatClampNeg)))) (hset_92 _ _) ?_
          refine Ex.seg hq 6 (j := 13) (L' := [.ref 55, .int x1, .int (x2 + (1 : Int32)), .int x3, .int (x4 + (1 : Int32)), .int (((s.2.1 83) (x4).toNatClampNeg) / (16777216 : Int32)), .int (((s.2.1 83) (x4).toNatClampNeg) - ((s.2.1 83) (x4).toNatClampNeg) / (16777216 : Int32) * (16777216 : Int32))]) (S' := []) (h' := hpS (sL s 92 (vp_updL (s.2.2.1 92) (x2).toNatClampNeg ((s.2.2.1 93) ((((s.2.1 83) (x4).toNatClampNeg) - ((s.2.1 83) (x4).toNatClampNeg) / (16777216 : Int32) * (16777216 : Int32))).toNatClampNeg)))) rfl ?_
          refine Ex.fg (L := [.ref 55, .int x1, .int (x2 + (1 : Int32)), .int x3, .int (x4 + (1 : Int32)), pu, pu]) ⟨Or.inl rfl, ⟨Or.inl rfl, ⟨Or.inl rfl, ⟨Or.inl rfl, ⟨Or.inl rfl, ⟨Or.inr ⟨rfl, rfl⟩, ⟨Or.inr ⟨rfl, rfl⟩, trivial⟩⟩⟩⟩⟩⟩⟩ ?_
          exact ih x1 (x2 + (1 : Int32)) x3 (x4 + (1 : Int32)) (sL s 92 (vp_updL (s.2.2.1 92) (x2).toNatClampNeg ((s.2.2.1 93) ((((s.2.1 83) (x4).toNatClampNeg) - ((s.2.1 83) (x4).toNatClampNeg) / (16777216 : Int32) * (16777216 : Int32))).toNatClampNeg))) k hX146 hX125
        · have k := k.2 c
          refine Ex.seg hq 3 (j := 54) (L' := [.ref 55, .int x1, .int x2, .int x3, .int (x4 + (1 : Int32)), .int (((s.2.1 83) (x4).toNatClampNeg) / (16777216 : Int32)), .int (((s.2.1 83) (x4).toNatClampNeg) - ((s.2.1 83) (x4).toNatClampNeg) / (16777216 : Int32) * (16777216 : Int32))]) (S' := [.long (((((s.2.1 83) (x4).toNatClampNeg) - ((s.2.1 83) (x4).toNatClampNeg) / (16777216 : Int32) * (16777216 : Int32))).toInt64), .int x2, .ref 92]) (h' := hpS s) rfl ?_
          obtain ⟨hin, k⟩ := k
          refine Ex.las hq rfl rfl hin (h' := hpS (sL s 92 (vp_updL (s.2.2.1 92) (x2).toNatClampNeg (((((s.2.1 83) (x4).toNatClampNeg) - ((s.2.1 83) (x4).toNatClampNeg) / (16777216 : Int32) * (16777216 : Int32))).toInt64)))) (hset_92 _ _) ?_
          refine Ex.seg hq 6 (j := 13) (L' := [.ref 55, .int x1, .int (x2 + (1 : Int32)), .int x3, .int (x4 + (1 : Int32)), .int (((s.2.1 83) (x4).toNatClampNeg) / (16777216 : Int32)), .int (((s.2.1 83) (x4).toNatClampNeg) - ((s.2.1 83) (x4).toNatClampNeg) / (16777216 : Int32) * (16777216 : Int32))]) (S' := []) (h' := hpS (sL s 92 (vp_updL (s.2.2.1 92) (x2).toNatClampNeg (((((s.2.1 83) (x4).toNatClampNeg) - ((s.2.1 83) (x4).toNatClampNeg) / (16777216 : Int32) * (16777216 : Int32))).toInt64)))) rfl ?_
          refine Ex.fg (L := [.ref 55, .int x1, .int (x2 + (1 : Int32)), .int x3, .int (x4 + (1 : Int32)), pu, pu]) ⟨Or.inl rfl, ⟨Or.inl rfl, ⟨Or.inl rfl, ⟨Or.inl rfl, ⟨Or.inl rfl, ⟨Or.inr ⟨rfl, rfl⟩, ⟨Or.inr ⟨rfl, rfl⟩, trivial⟩⟩⟩⟩⟩⟩⟩ ?_
          exact ih x1 (x2 + (1 : Int32)) x3 (x4 + (1 : Int32)) (sL s 92 (vp_updL (s.2.2.1 92) (x2).toNatClampNeg (((((s.2.1 83) (x4).toNatClampNeg) - ((s.2.1 83) (x4).toNatClampNeg) / (16777216 : Int32) * (16777216 : Int32))).toInt64))) k hX146 hX125
      · have k := k.2 c
        refine Ex.seg hq 2 (j := 41) (L' := [.ref 55, .int x1, .int x2, .int x3, .int (x4 + (1 : Int32)), .int (((s.2.1 83) (x4).toNatClampNeg) / (16777216 : Int32)), .int (((s.2.1 83) (x4).toNatClampNeg) - ((s.2.1 83) (x4).toNatClampNeg) / (16777216 : Int32) * (16777216 : Int32))]) (S' := [.int (1 : Int32), .int (((s.2.1 83) (x4).toNatClampNeg) / (16777216 : Int32))]) (h' := hpS s) rfl ?_
        refine Ex.i2 hq rfl (fun c => ?_) (fun c => ?_)
        · have k := k.1 c
          refine Ex.seg hq 2 (j := 62) (L' := [.ref 55, .int x1, .int x2, .int x3, .int (x4 + (1 : Int32)), .int (((s.2.1 83) (x4).toNatClampNeg) / (16777216 : Int32)), .int (((s.2.1 83) (x4).toNatClampNeg) - ((s.2.1 83) (x4).toNatClampNeg) / (16777216 : Int32) * (16777216 : Int32))]) (S' := [.int (10 : Int32), .int (((s.2.1 83) (x4).toNatClampNeg) / (16777216 : Int32))]) (h' := hpS s) rfl ?_
          refine Ex.i2 hq rfl (fun c => ?_) (fun c => ?_)
          · have k := k.1 c
            refine Ex.seg hq 2 (j := 80) (L' := [.ref 55, .int x1, .int x2, .int x3, .int (x4 + (1 : Int32)), .int (((s.2.1 83) (x4).toNatClampNeg) / (16777216 : Int32)), .int (((s.2.1 83) (x4).toNatClampNeg) - ((s.2.1 83) (x4).toNatClampNeg) / (16777216 : Int32) * (16777216 : Int32))]) (S' := [.int (11 : Int32), .int (((s.2.1 83) (x4).toNatClampNeg) / (16777216 : Int32))]) (h' := hpS s) rfl ?_
            refine Ex.i2 hq rfl (fun c => ?_) (fun c => ?_)
            · have k := k.1 c
              refine Ex.seg hq 5 (j := 89) (L' := [.ref 55, .int x1, .int x2, .int x3, .int (x4 + (1 : Int32)), .int (((s.2.1 83) (x4).toNatClampNeg) / (16777216 : Int32)), .int (((s.2.1 83) (x4).toNatClampNeg) - ((s.2.1 83) (x4).toNatClampNeg) / (16777216 : Int32) * (16777216 : Int32))]) (S' := [.int (x2 - (1 : Int32)), .ref 92]) (h' := hpS s) rfl ?_
              obtain ⟨hin, k⟩ := k
              refine Ex.lal hq rfl rfl hin ?_
              refine Ex.seg hq 2 (j := 92) (L' := [.ref 55, .int x1, .int x2, .int x3, .int (x4 + (1 : Int32)), .int (((s.2.1 83) (x4).toNatClampNeg) / (16777216 : Int32)), .int (((s.2.1 83) (x4).toNatClampNeg) - ((s.2.1 83) (x4).toNatClampNeg) / (16777216 : Int32) * (16777216 : Int32))]) (S' := [.int (12 : Int32), .int (((s.2.1 83) (x4).toNatClampNeg) / (16777216 : Int32)), .long ((s.2.2.1 92) ((x2 - (1 : Int32))).toNatClampNeg)]) (h' := hpS s) rfl ?_
              refine Ex.i2 hq rfl (fun c => ?_) (fun c => ?_)
              · have k := k.1 c
                refine Ex.seg hq 2 (j := 97) (L' := [.ref 55, .int x1, .int x2, .int x3, .int (x4 + (1 : Int32)), .int (((s.2.1 83) (x4).toNatClampNeg) / (16777216 : Int32)), .int (((s.2.1 83) (x4).toNatClampNeg) - ((s.2.1 83) (x4).toNatClampNeg) / (16777216 : Int32) * (16777216 : Int32))]) (S' := [.int (lg_cmp ((s.2.2.1 92) ((x2 - (1 : Int32))).toNatClampNeg) (0 : Int64))]) (h' := hpS s) rfl ?_
                refine Ex.i1 hq rfl (fun c => ?_) (fun c => ?_)
                · have k := k.1 c
                  refine Ex.seg hq 6 (j := 13) (L' := [.ref 55, .int x1, .int (x2 - (1 : Int32)), .int x3, .int (x4 + (1 : Int32)), .int (((s.2.1 83) (x4).toNatClampNeg) / (16777216 : Int32)), .int (((s.2.1 83) (x4).toNatClampNeg) - ((s.2.1 83) (x4).toNatClampNeg) / (16777216 : Int32) * (16777216 : Int32))]) (S' := []) (h' := hpS s) rfl ?_
                  refine Ex.fg (L := [.ref 55, .int x1, .int (x2 - (1 : Int32)), .int x3, .int (x4 + (1 : Int32)), pu, pu]) ⟨Or.inl rfl, ⟨Or.inl rfl, ⟨Or.inl rfl, ⟨Or.inl rfl, ⟨Or.inl rfl, ⟨Or.inr ⟨rfl, rfl⟩, ⟨Or.inr ⟨rfl, rfl⟩, trivial⟩⟩⟩⟩⟩⟩⟩ ?_
                  exact ih x1 (x2 - (1 : Int32)) x3 (x4 + (1 : Int32)) s k hX146 hX125
                · have k := k.2 c
                  refine Ex.seg hq 6 (j := 13) (L' := [.ref 55, .int x1, .int x2, .int x3, .int (x3 + (((s.2.1 83) (x4).toNatClampNeg) - ((s.2.1 83) (x4).toNatClampNeg) / (16777216 : Int32) * (16777216 : Int32))), .int (((s.2.1 83) (x4).toNatClampNeg) / (16777216 : Int32)), .int (((s.2.1 83) (x4).toNatClampNeg) - ((s.2.1 83) (x4).toNatClampNeg) / (16777216 : Int32) * (16777216 : Int32))]) (S' := []) (h' := hpS s) rfl ?_
                  refine Ex.fg (L := [.ref 55, .int x1, .int x2, .int x3, .int (x3 + (((s.2.1 83) (x4).toNatClampNeg) - ((s.2.1 83) (x4).toNatClampNeg) / (16777216 : Int32) * (16777216 : Int32))), pu, pu]) ⟨Or.inl rfl, ⟨Or.inl rfl, ⟨Or.inl rfl, ⟨Or.inl rfl, ⟨Or.inl rfl, ⟨Or.inr ⟨rfl, rfl⟩, ⟨Or.inr ⟨rfl, rfl⟩, trivial⟩⟩⟩⟩⟩⟩⟩ ?_
                  exact ih x1 x2 x3 (x3 + (((s.2.1 83) (x4).toNatClampNeg) - ((s.2.1 83) (x4).toNatClampNeg) / (16777216 : Int32) * (16777216 : Int32))) s k hX146 hX125
              · have k := k.2 c
                refine Ex.seg hq 3 (j := 97) (L' := [.ref 55, .int x1, .int x2, .int x3, .int (x4 + (1 : Int32)), .int (((s.2.1 83) (x4).toNatClampNeg) / (16777216 : Int32)), .int (((s.2.1 83) (x4).toNatClampNeg) - ((s.2.1 83) (x4).toNatClampNeg) / (16777216 : Int32) * (16777216 : Int32))]) (S' := [.int (lg_cmp ((s.2.2.1 92) ((x2 - (1 : Int32))).toNatClampNeg) (1 : Int64))]) (h' := hpS s) rfl ?_
                refine Ex.i1 hq rfl (fun c => ?_) (fun c => ?_)
                · have k := k.1 c
                  refine Ex.seg hq 6 (j := 13) (L' := [.ref 55, .int x1, .int (x2 - (1 : Int32)), .int x3, .int (x4 + (1 : Int32)), .int (((s.2.1 83) (x4).toNatClampNeg) / (16777216 : Int32)), .int (((s.2.1 83) (x4).toNatClampNeg) - ((s.2.1 83) (x4).toNatClampNeg) / (16777216 : Int32) * (16777216 : Int32))]) (S' := []) (h' := hpS s) rfl ?_
                  refine Ex.fg (L := [.ref 55, .int x1, .int (x2 - (1 : Int32)), .int x3, .int (x4 + (1 : Int32)), pu, pu]) ⟨Or.inl rfl, ⟨Or.inl rfl, ⟨Or.inl rfl, ⟨Or.inl rfl, ⟨Or.inl rfl, ⟨Or.inr ⟨rfl, rfl⟩, ⟨Or.inr ⟨rfl, rfl⟩, trivial⟩⟩⟩⟩⟩⟩⟩ ?_
                  exact ih x1 (x2 - (1 : Int32)) x3 (x4 + (1 : Int32)) s k hX146 hX125
                · have k := k.2 c
                  refine Ex.seg hq 6 (j := 13) (L' := [.ref 55, .int x1, .int x2, .int x3, .int (x3 + (((s.2.1 83) (x4).toNatClampNeg) - ((s.2.1 83) (x4).toNatClampNeg) / (16777216 : Int32) * (16777216 : Int32))), .int (((s.2.1 83) (x4).toNatClampNeg) / (16777216 : Int32)), .int (((s.2.1 83) (x4).toNatClampNeg) - ((s.2.1 83) (x4).toNatClampNeg) / (16777216 : Int32) * (16777216 : Int32))]) (S' := []) (h' := hpS s) rfl ?_
                  refine Ex.fg (L := [.ref 55, .int x1, .int x2, .int x3, .int (x3 + (((s.2.1 83) (x4).toNatClampNeg) - ((s.2.1 83) (x4).toNatClampNeg) / (16777216 : Int32) * (16777216 : Int32))), pu, pu]) ⟨Or.inl rfl, ⟨Or.inl rfl, ⟨Or.inl rfl, ⟨Or.inl rfl, ⟨Or.inl rfl, ⟨Or.inr ⟨rfl, rfl⟩, ⟨Or.inr ⟨rfl, rfl⟩, trivial⟩⟩⟩⟩⟩⟩⟩ ?_
                  exact ih x1 x2 x3 (x3 + (((s.2.1 83) (x4).toNatClampNeg) - ((s.2.1 83) (x4).toNatClampNeg) / (16777216 : Int32) * (16777216 : Int32))) s k hX146 hX125
            · have k := k.2 c
              refine Ex.seg hq 2 (j := 83) (L' := [.ref 55, .int x1, .int x2, .int x3, .int (x4 + (1 : Int32)), .int (((s.2.1 83) (x4).toNatClampNeg) / (16777216 : Int32)), .int (((s.2.1 83) (x4).toNatClampNeg) - ((s.2.1 83) (x4).toNatClampNeg) / (16777216 : Int32) * (16777216 : Int32))]) (S' := [.int (12 : Int32), .int (((s.2.1 83) (x4).toNatClampNeg) / (16777216 : Int32))]) (h' := hpS s) rfl ?_
              refine Ex.i2 hq rfl (fun c => ?_) (fun c => ?_)
              · have k := k.1 c
                refine Ex.seg hq 6 (j := 114) (L' := [.ref 55, .int x1, .int (x2 - (1 : Int32)), .int x3, .int (x4 + (1 : Int32)), .int (((s.2.1 83) (x4).toNatClampNeg) / (16777216 : Int32)), .int (((s.2.1 83) (x4).toNatClampNeg) - ((s.2.1 83) (x4).toNatClampNeg) / (16777216 : Int32) * (16777216 : Int32))]) (S' := [.int (5 : Int32), .int (((s.2.1 83) (x4).toNatClampNeg) / (16777216 : Int32))]) (h' := hpS s) rfl ?_
                refine Ex.i2 hq rfl (fun c => ?_) (fun c => ?_)
                · have k := k.1 c
                  refine Ex.seg hq 3 (j := 121) (L' := [.ref 55, .int x1, .int (x2 - (1 : Int32)), .int x3, .int (x4 + (1 : Int32)), .int (((s.2.1 83) (x4).toNatClampNeg) / (16777216 : Int32)), .int (((s.2.1 83) (x4).toNatClampNeg) - ((s.2.1 83) (x4).toNatClampNeg) / (16777216 : Int32) * (16777216 : Int32))]) (S' := [.int (x2 - (1 : Int32)), .ref 92]) (h' := hpS s) rfl ?_
                  obtain ⟨hin, k⟩ := k
                  refine Ex.lal hq rfl rfl hin ?_
                  refine Ex.seg hq 2 (j := 124) (L' := [.ref 55, .int x1, .int (x2 - (1 : Int32)), .int x3, .int (x4 + (1 : Int32)), .int (((s.2.1 83) (x4).toNatClampNeg) / (16777216 : Int32)), .int (((s.2.1 83) (x4).toNatClampNeg) - ((s.2.1 83) (x4).toNatClampNeg) / (16777216 : Int32) * (16777216 : Int32))]) (S' := [.int (lg_cmp ((s.2.2.1 92) ((x2 - (1 : Int32))).toNatClampNeg) (0 : Int64))]) (h' := hpS s) rfl ?_
                  refine Ex.i1 hq rfl (fun c => ?_) (fun c => ?_)
                  · have k := k.1 c
                    refine Ex.seg hq 11 (j := 138) (L' := [.ref 55, .int x1, .int (x2 - (1 : Int32)), .int x3, .int (x4 + (1 : Int32)), .int (((s.2.1 83) (x4).toNatClampNeg) / (16777216 : Int32)), .int (((s.2.1 83) (x4).toNatClampNeg) - ((s.2.1 83) (x4).toNatClampNeg) / (16777216 : Int32) * (16777216 : Int32))]) (S' := [.int ((x2 - (1 : Int32)) - (1 : Int32)), .ref 92, .int (((s.2.1 83) (x4).toNatClampNeg) / (16777216 : Int32)), .int ((x2 - (1 : Int32)) - (1 : Int32)), .ref 92]) (h' := hpS s) rfl ?_
                    obtain ⟨hin, k⟩ := k
                    refine Ex.lal hq rfl rfl hin ?_
                    refine Ex.seg hq 3 (j := 142) (L' := [.ref 55, .int x1, .int (x2 - (1 : Int32)), .int x3, .int (x4 + (1 : Int32)), .int (((s.2.1 83) (x4).toNatClampNeg) / (16777216 : Int32)), .int (((s.2.1 83) (x4).toNatClampNeg) - ((s.2.1 83) (x4).toNatClampNeg) / (16777216 : Int32) * (16777216 : Int32))]) (S' := [.int (x2 - (1 : Int32)), .ref 92, .long ((s.2.2.1 92) (((x2 - (1 : Int32)) - (1 : Int32))).toNatClampNeg), .int (((s.2.1 83) (x4).toNatClampNeg) / (16777216 : Int32)), .int ((x2 - (1 : Int32)) - (1 : Int32)), .ref 92]) (h' := hpS s) rfl ?_
                    obtain ⟨hin, k⟩ := k
                    refine Ex.lal hq rfl rfl hin ?_
                    refine Ex.cl hq rfl rfl ?_
                    refine Rn.mono (q_231 (d := d + 0) (((s.2.1 83) (x4).toNatClampNeg) / (16777216 : Int32)) ((s.2.2.1 92) (((x2 - (1 : Int32)) - (1 : Int32))).toNatClampNeg) ((s.2.2.1 92) ((x2 - (1 : Int32))).toNatClampNeg) s k) ?_
                    rintro _ _ ⟨r2, s1, rfl, rfl, k⟩
                    show Ex sc (d + 1) 232 144 [.ref 55, .int x1, .int (x2 - (1 : Int32)), .int x3, .int (x4 + (1 : Int32)), .int (((s.2.1 83) (x4).toNatClampNeg) / (16777216 : Int32)), .int (((s.2.1 83) (x4).toNatClampNeg) - ((s.2.1 83) (x4).toNatClampNeg) / (16777216 : Int32) * (16777216 : Int32))] [.long r2, .int ((x2 - (1 : Int32)) - (1 : Int32)), .ref 92] (hpS s1) _
                    obtain ⟨hin, k⟩ := k
                    refine Ex.las hq rfl rfl hin (h' := hpS (sL s1 92 (vp_updL (s1.2.2.1 92) (((x2 - (1 : Int32)) - (1 : Int32))).toNatClampNeg r2))) (hset_92 _ _) ?_
                    refine Ex.seg hq 1 (j := 13) (L' := [.ref 55, .int x1, .int (x2 - (1 : Int32)), .int x3, .int (x4 + (1 : Int32)), .int (((s.2.1 83) (x4).toNatClampNeg) / (16777216 : Int32)), .int (((s.2.1 83) (x4).toNatClampNeg) - ((s.2.1 83) (x4).toNatClampNeg) / (16777216 : Int32) * (16777216 : Int32))]) (S' := []) (h' := hpS (sL s1 92 (vp_updL (s1.2.2.1 92) (((x2 - (1 : Int32)) - (1 : Int32))).toNatClampNeg r2))) rfl ?_
                    refine Ex.fg (L := [.ref 55, .int x1, .int (x2 - (1 : Int32)), .int x3, .int (x4 + (1 : Int32)), pu, pu]) ⟨Or.inl rfl, ⟨Or.inl rfl, ⟨Or.inl rfl, ⟨Or.inl rfl, ⟨Or.inl rfl, ⟨Or.inr ⟨rfl, rfl⟩, ⟨Or.inr ⟨rfl, rfl⟩, trivial⟩⟩⟩⟩⟩⟩⟩ ?_
                    exact ih x1 (x2 - (1 : Int32)) x3 (x4 + (1 : Int32)) (sL s1 92 (vp_updL (s1.2.2.1 92) (((x2 - (1 : Int32)) - (1 : Int32))).toNatClampNeg r2)) k hX146 hX125
                  · have k := k.2 c
                    refine Ex.fg (L := [pu, pu, pu, pu, pu, pu, pu]) ⟨Or.inr ⟨rfl, rfl⟩, ⟨Or.inr ⟨rfl, rfl⟩, ⟨Or.inr ⟨rfl, rfl⟩, ⟨Or.inr ⟨rfl, rfl⟩, ⟨Or.inr ⟨rfl, rfl⟩, ⟨Or.inr ⟨rfl, rfl⟩, ⟨Or.inr ⟨rfl, rfl⟩, trivial⟩⟩⟩⟩⟩⟩⟩ ?_
                    exact hX125  s k
                · have k := k.2 c
                  refine Ex.seg hq 2 (j := 117) (L' := [.ref 55, .int x1, .int (x2 - (1 : Int32)), .int x3, .int (x4 + (1 : Int32)), .int (((s.2.1 83) (x4).toNatClampNeg) / (16777216 : Int32)), .int (((s.2.1 83) (x4).toNatClampNeg) - ((s.2.1 83) (x4).toNatClampNeg) / (16777216 : Int32) * (16777216 : Int32))]) (S' := [.int (6 : Int32), .int (((s.2.1 83) (x4).toNatClampNeg) / (16777216 : Int32))]) (h' := hpS s) rfl ?_
                  refine Ex.i2 hq rfl (fun c => ?_) (fun c => ?_)
                  · have k := k.1 c
                    refine Ex.seg hq 11 (j := 138) (L' := [.ref 55, .int x1, .int (x2 - (1 : Int32)), .int x3, .int (x4 + (1 : Int32)), .int (((s.2.1 83) (x4).toNatClampNeg) / (16777216 : Int32)), .int (((s.2.1 83) (x4).toNatClampNeg) - ((s.2.1 83) (x4).toNatClampNeg) / (16777216 : Int32) * (16777216 : Int32))]) (S' := [.int ((x2 - (1 : Int32)) - (1 : Int32)), .ref 92, .int (((s.2.1 83) (x4).toNatClampNeg) / (16777216 : Int32)), .int ((x2 - (1 : Int32)) - (1 : Int32)), .ref 92]) (h' := hpS s) rfl ?_
                    obtain ⟨hin, k⟩ := k
                    refine Ex.lal hq rfl rfl hin ?_
                    refine Ex.seg hq 3 (j := 142) (L' := [.ref 55, .int x1, .int (x2 - (1 : Int32)), .int x3, .int (x4 + (1 : Int32)), .int (((s.2.1 83) (x4).toNatClampNeg) / (16777216 : Int32)), .int (((s.2.1 83) (x4).toNatClampNeg) - ((s.2.1 83) (x4).toNatClampNeg) / (16777216 : Int32) * (16777216 : Int32))]) (S' := [.int (x2 - (1 : Int32)), .ref 92, .long ((s.2.2.1 92) (((x2 - (1 : Int32)) - (1 : Int32))).toNatClampNeg), .int (((s.2.1 83) (x4).toNatClampNeg) / (16777216 : Int32)), .int ((x2 - (1 : Int32)) - (1 : Int32)), .ref 92]) (h' := hpS s) rfl ?_
                    obtain ⟨hin, k⟩ := k
                    refine Ex.lal hq rfl rfl hin ?_
                    refine Ex.cl hq rfl rfl ?_
                    refine Rn.mono (q_231 (d := d + 0) (((s.2.1 83) (x4).toNatClampNeg) / (16777216 : Int32)) ((s.2.2.1 92) (((x2 - (1 : Int32)) - (1 : Int32))).toNatClampNeg) ((s.2.2.1 92) ((x2 - (1 : Int32))).toNatClampNeg) s k) ?_
                    rintro _ _ ⟨r4, s3, rfl, rfl, k⟩
                    show Ex sc (d + 1) 232 144 [.ref 55, .int x1, .int (x2 - (1 : Int32)), .int x3, .int (x4 + (1 : Int32)), .int (((s.2.1 83) (x4).toNatClampNeg) / (16777216 : Int32)), .int (((s.2.1 83) (x4).toNatClampNeg) - ((s.2.1 83) (x4).toNatClampNeg) / (16777216 : Int32) * (16777216 : Int32))] [.long r4, .int ((x2 - (1 : Int32)) - (1 : Int32)), .ref 92] (hpS s3) _
                    obtain ⟨hin, k⟩ := k
                    refine Ex.las hq rfl rfl hin (h' := hpS (sL s3 92 (vp_updL (s3.2.2.1 92) (((x2 - (1 : Int32)) - (1 : Int32))).toNatClampNeg r4))) (hset_92 _ _) ?_
                    refine Ex.seg hq 1 (j := 13) (L' := [.ref 55, .int x1, .int (x2 - (1 : Int32)), .int x3, .int (x4 + (1 : Int32)), .int (((s.2.1 83) (x4).toNatClampNeg) / (16777216 : Int32)), .int (((s.2.1 83) (x4).toNatClampNeg) - ((s.2.1 83) (x4).toNatClampNeg) / (16777216 : Int32) * (16777216 : Int32))]) (S' := []) (h' := hpS (sL s3 92 (vp_updL (s3.2.2.1 92) (((x2 - (1 : Int32)) - (1 : Int32))).toNatClampNeg r4))) rfl ?_
                    refine Ex.fg (L := [.ref 55, .int x1, .int (x2 - (1 : Int32)), .int x3, .int (x4 + (1 : Int32)), pu, pu]) ⟨Or.inl rfl, ⟨Or.inl rfl, ⟨Or.inl rfl, ⟨Or.inl rfl, ⟨Or.inl rfl, ⟨Or.inr ⟨rfl, rfl⟩, ⟨Or.inr ⟨rfl, rfl⟩, trivial⟩⟩⟩⟩⟩⟩⟩ ?_
                    exact ih x1 (x2 - (1 : Int32)) x3 (x4 + (1 : Int32)) (sL s3 92 (vp_updL (s3.2.2.1 92) (((x2 - (1 : Int32)) - (1 : Int32))).toNatClampNeg r4)) k hX146 hX125
                  · have k := k.2 c
                    refine Ex.seg hq 3 (j := 121) (L' := [.ref 55, .int x1, .int (x2 - (1 : Int32)), .int x3, .int (x4 + (1 : Int32)), .int (((s.2.1 83) (x4).toNatClampNeg) / (16777216 : Int32)), .int (((s.2.1 83) (x4).toNatClampNeg) - ((s.2.1 83) (x4).toNatClampNeg) / (16777216 : Int32) * (16777216 : Int32))]) (S' := [.int (x2 - (1 : Int32)), .ref 92]) (h' := hpS s) rfl ?_
                    obtain ⟨hin, k⟩ := k
                    refine Ex.lal hq rfl rfl hin ?_
                    refine Ex.seg hq 2 (j := 124) (L' := [.ref 55, .int x1, .int (x2 - (1 : Int32)), .int x3, .int (x4 + (1 : Int32)), .int (((s.2.1 83) (x4).toNatClampNeg) / (16777216 : Int32)), .int (((s.2.1 83) (x4).toNatClampNeg) - ((s.2.1 83) (x4).toNatClampNeg) / (16777216 : Int32) * (16777216 : Int32))]) (S' := [.int (lg_cmp ((s.2.2.1 92) ((x2 - (1 : Int32))).toNatClampNeg) (0 : Int64))]) (h' := hpS s) rfl ?_
                    refine Ex.i1 hq rfl (fun c => ?_) (fun c => ?_)
                    · have k := k.1 c
                      refine Ex.seg hq 11 (j := 138) (L' := [.ref 55, .int x1, .int (x2 - (1 : Int32)), .int x3, .int (x4 + (1 : Int32)), .int (((s.2.1 83) (x4).toNatClampNeg) / (16777216 : Int32)), .int (((s.2.1 83) (x4).toNatClampNeg) - ((s.2.1 83) (x4).toNatClampNeg) / (16777216 : Int32) * (16777216 : Int32))]) (S' := [.int ((x2 - (1 : Int32)) - (1 : Int32)), .ref 92, .int (((s.2.1 83) (x4).toNatClampNeg) / (16777216 : Int32)), .int ((x2 - (1 : Int32)) - (1 : Int32)), .ref 92]) (h' := hpS s) rfl ?_
                      obtain ⟨hin, k⟩ := k
                      refine Ex.lal hq rfl rfl hin ?_
                      refine Ex.seg hq 3 (j := 142) (L' := [.ref 55, .int x1, .int (x2 - (1 : Int32)), .int x3, .int (x4 + (1 : Int32)), .int (((s.2.1 83) (x4).toNatClampNeg) / (16777216 : Int32)), .int (((s.2.1 83) (x4).toNatClampNeg) - ((s.2.1 83) (x4).toNatClampNeg) / (16777216 : Int32) * (16777216 : Int32))]) (S' := [.int (x2 - (1 : Int32)), .ref 92, .long ((s.2.2.1 92) (((x2 - (1 : Int32)) - (1 : Int32))).toNatClampNeg), .int (((s.2.1 83) (x4).toNatClampNeg) / (16777216 : Int32)), .int ((x2 - (1 : Int32)) - (1 : Int32)), .ref 92]) (h' := hpS s) rfl ?_
                      obtain ⟨hin, k⟩ := k
                      refine Ex.lal hq rfl rfl hin ?_
                      refine Ex.cl hq rfl rfl ?_
                      refine Rn.mono (q_231 (d := d + 0) (((s.2.1 83) (x4).toNatClampNeg) / (16777216 : Int32)) ((s.2.2.1 92) (((x2 - (1 : Int32)) - (1 : Int32))).toNatClampNeg) ((s.2.2.1 92) ((x2 - (1 : Int32))).toNatClampNeg) s k) ?_
                      rintro _ _ ⟨r6, s5, rfl, rfl, k⟩
                      show Ex sc (d + 1) 232 144 [.ref 55, .int x1, .int (x2 - (1 : Int32)), .int x3, .int (x4 + (1 : Int32)), .int (((s.2.1 83) (x4).toNatClampNeg) / (16777216 : Int32)), .int (((s.2.1 83) (x4).toNatClampNeg) - ((s.2.1 83) (x4).toNatClampNeg) / (16777216 : Int32) * (16777216 : Int32))] [.long r6, .int ((x2 - (1 : Int32)) - (1 : Int32)), .ref 92] (hpS s5) _
                      obtain ⟨hin, k⟩ := k
                      refine Ex.las hq rfl rfl hin (h' := hpS (sL s5 92 (vp_updL (s5.2.2.1 92) (((x2 - (1 : Int32)) - (1 : Int32))).toNatClampNeg r6))) (hset_92 _ _) ?_
                      refine Ex.seg hq 1 (j := 13) (L' := [.ref 55, .int x1, .int (x2 - (1 : Int32)), .int x3, .int (x4 + (1 : Int32)), .int (((s.2.1 83) (x4).toNatClampNeg) / (16777216 : Int32)), .int (((s.2.1 83) (x4).toNatClampNeg) - ((s.2.1 83) (x4).toNatClampNeg) / (16777216 : Int32) * (16777216 : Int32))]) (S' := []) (h' := hpS (sL s5 92 (vp_updL (s5.2.2.1 92) (((x2 - (1 : Int32)) - (1 : Int32))).toNatClampNeg r6))) rfl ?_
                      refine Ex.fg (L := [.ref 55, .int x1, .int (x2 - (1 : Int32)), .int x3, .int (x4 + (1 : Int32)), pu, pu]) ⟨Or.inl rfl, ⟨Or.inl rfl, ⟨Or.inl rfl, ⟨Or.inl rfl, ⟨Or.inl rfl, ⟨Or.inr ⟨rfl, rfl⟩, ⟨Or.inr ⟨rfl, rfl⟩, trivial⟩⟩⟩⟩⟩⟩⟩ ?_
                      exact ih x1 (x2 - (1 : Int32)) x3 (x4 + (1 : Int32)) (sL s5 92 (vp_updL (s5.2.2.1 92) (((x2 - (1 : Int32)) - (1 : Int32))).toNatClampNeg r6)) k hX146 hX125
                    · have k := k.2 c
                      refine Ex.fg (L := [pu, pu, pu, pu, pu, pu, pu]) ⟨Or.inr ⟨rfl, rfl⟩, ⟨Or.inr ⟨rfl, rfl⟩, ⟨Or.inr ⟨rfl, rfl⟩, ⟨Or.inr ⟨rfl, rfl⟩, ⟨Or.inr ⟨rfl, rfl⟩, ⟨Or.inr ⟨rfl, rfl⟩, ⟨Or.inr ⟨rfl, rfl⟩, trivial⟩⟩⟩⟩⟩⟩⟩ ?_
                      exact hX125  s k
              · have k := k.2 c
                refine Ex.seg hq 5 (j := 89) (L' := [.ref 55, .int x1, .int x2, .int x3, .int (x4 + (1 : Int32)), .int (((s.2.1 83) (x4).toNatClampNeg) / (16777216 : Int32)), .int (((s.2.1 83) (x4).toNatClampNeg) - ((s.2.1 83) (x4).toNatClampNeg) / (16777216 : Int32) * (16777216 : Int32))]) (S' := [.int (x2 - (1 : Int32)), .ref 92]) (h' := hpS s) rfl ?_
                obtain ⟨hin, k⟩ := k
                refine Ex.lal hq rfl rfl hin ?_
                refine Ex.seg hq 2 (j := 92) (L' := [.ref 55, .int x1, .int x2, .int x3, .int (x4 + (1 : Int32)), .int (((s.2.1 83) (x4).toNatClampNeg) / (16777216 : Int32)), .int (((s.2.1 83) (x4).toNatClampNeg) - ((s.2.1 83) (x4).toNatClampNeg) / (16777216 : Int32) * (16777216 : Int32))]) (S' := [.int (12 : Int32), .int (((s.2.1 83) (x4).toNatClampNeg) / (16777216 : Int32)), .long ((s.2.2.1 92) ((x2 - (1 : Int32))).toNatClampNeg)]) (h' := hpS s) rfl ?_
                refine Ex.i2 hq rfl (fun c => ?_) (fun c => ?_)
                · have k := k.1 c
                  refine Ex.seg hq 2 (j := 97) (L' := [.ref 55, .int x1, .int x2, .int x3, .int (x4 + (1 : Int32)), .int (((s.2.1 83) (x4).toNatClampNeg) / (16777216 : Int32)), .int (((s.2.1 83) (x4).toNatClampNeg) - ((s.2.1 83) (x4).toNatClampNeg) / (16777216 : Int32) * (16777216 : Int32))]) (S' := [.int (lg_cmp ((s.2.2.1 92) ((x2 - (1 : Int32))).toNatClampNeg) (0 : Int64))]) (h' := hpS s) rfl ?_
                  refine Ex.i1 hq rfl (fun c => ?_) (fun c => ?_)
                  · have k := k.1 c
                    refine Ex.seg hq 6 (j := 13) (L' := [.ref 55, .int x1, .int (x2 - (1 : Int32)), .int x3, .int (x4 + (1 : Int32)), .int (((s.2.1 83) (x4).toNatClampNeg) / (16777216 : Int32)), .int (((s.2.1 83) (x4).toNatClampNeg) - ((s.2.1 83) (x4).toNatClampNeg) / (16777216 : Int32) * (16777216 : Int32))]) (S' := []) (h' := hpS s) rfl ?_
                    refine Ex.fg (L := [.ref 55, .int x1, .int (x2 - (1 : Int32)), .int x3, .int (x4 + (1 : Int32)), pu, pu]) ⟨Or.inl rfl, ⟨Or.inl rfl, ⟨Or.inl rfl, ⟨Or.inl rfl, ⟨Or.inl rfl, ⟨Or.inr ⟨rfl, rfl⟩, ⟨Or.inr ⟨rfl, rfl⟩, trivial⟩⟩⟩⟩⟩⟩⟩ ?_
                    exact ih x1 (x2 - (1 : Int32)) x3 (x4 + (1 : Int32)) s k hX146 hX125
                  · have k := k.2 c
                    refine Ex.seg hq 6 (j := 13) (L' := [.ref 55, .int x1, .int x2, .int x3, .int (x3 + (((s.2.1 83) (x4).toNatClampNeg) - ((s.2.1 83) (x4).toNatClampNeg) / (16777216 : Int32) * (16777216 : Int32))), .int (((s.2.1 83) (x4).toNatClampNeg) / (16777216 : Int32)), .int (((s.2.1 83) (x4).toNatClampNeg) - ((s.2.1 83) (x4).toNatClampNeg) / (16777216 : Int32) * (16777216 : Int32))]) (S' := []) (h' := hpS s) rfl ?_
                    refine Ex.fg (L := [.ref 55, .int x1, .int x2, .int x3, .int (x3 + (((s.2.1 83) (x4).toNatClampNeg) - ((s.2.1 83) (x4).toNatClampNeg) / (16777216 : Int32) * (16777216 : Int32))), pu, pu]) ⟨Or.inl rfl, ⟨Or.inl rfl, ⟨Or.inl rfl, ⟨Or.inl rfl, ⟨Or.inl rfl, ⟨Or.inr ⟨rfl, rfl⟩, ⟨Or.inr ⟨rfl, rfl⟩, trivial⟩⟩⟩⟩⟩⟩⟩ ?_
                    exact ih x1 x2 x3 (x3 + (((s.2.1 83) (x4).toNatClampNeg) - ((s.2.1 83) (x4).toNatClampNeg) / (16777216 : Int32) * (16777216 : Int32))) s k hX146 hX125
                · have k := k.2 c
                  refine Ex.seg hq 3 (j := 97) (L' := [.ref 55, .int x1, .int x2, .int x3, .int (x4 + (1 : Int32)), .int (((s.2.1 83) (x4).toNatClampNeg) / (16777216 : Int32)), .int (((s.2.1 83) (x4).toNatClampNeg) - ((s.2.1 83) (x4).toNatClampNeg) / (16777216 : Int32) * (16777216 : Int32))]) (S' := [.int (lg_cmp ((s.2.2.1 92) ((x2 - (1 : Int32))).toNatClampNeg) (1 : Int64))]) (h' := hpS s) rfl ?_
                  refine Ex.i1 hq rfl (fun c => ?_) (fun c => ?_)
                  · have k := k.1 c
                    refine Ex.seg hq 6 (j := 13) (L' := [.ref 55, .int x1, .int (x2 - (1 : Int32)), .int x3, .int (x4 + (1 : Int32)), .int (((s.2.1 83) (x4).toNatClampNeg) / (16777216 : Int32)), .int (((s.2.1 83) (x4).toNatClampNeg) - ((s.2.1 83) (x4).toNatClampNeg) / (16777216 : Int32) * (16777216 : Int32))]) (S' := []) (h' := hpS s) rfl ?_
                    refine Ex.fg (L := [.ref 55, .int x1, .int (x2 - (1 : Int32)), .int x3, .int (x4 + (1 : Int32)), pu, pu]) ⟨Or.inl rfl, ⟨Or.inl rfl, ⟨Or.inl rfl, ⟨Or.inl rfl, ⟨Or.inl rfl, ⟨Or.inr ⟨rfl, rfl⟩, ⟨Or.inr ⟨rfl, rfl⟩, trivial⟩⟩⟩⟩⟩⟩⟩ ?_
                    exact ih x1 (x2 - (1 : Int32)) x3 (x4 + (1 : Int32)) s k hX146 hX125
                  · have k := k.2 c
                    refine Ex.seg hq 6 (j := 13) (L' := [.ref 55, .int x1, .int x2, .int x3, .int (x3 + (((s.2.1 83) (x4).toNatClampNeg) - ((s.2.1 83) (x4).toNatClampNeg) / (16777216 : Int32) * (16777216 : Int32))), .int (((s.2.1 83) (x4).toNatClampNeg) / (16777216 : Int32)), .int (((s.2.1 83) (x4).toNatClampNeg) - ((s.2.1 83) (x4).toNatClampNeg) / (16777216 : Int32) * (16777216 : Int32))]) (S' := []) (h' := hpS s) rfl ?_
                    refine Ex.fg (L := [.ref 55, .int x1, .int x2, .int x3, .int (x3 + (((s.2.1 83) (x4).toNatClampNeg) - ((s.2.1 83) (x4).toNatClampNeg) / (16777216 : Int32) * (16777216 : Int32))), pu, pu]) ⟨Or.inl rfl, ⟨Or.inl rfl, ⟨Or.inl rfl, ⟨Or.inl rfl, ⟨Or.inl rfl, ⟨Or.inr ⟨rfl, rfl⟩, ⟨Or.inr ⟨rfl, rfl⟩, trivial⟩⟩⟩⟩⟩⟩⟩ ?_
                    exact ih x1 x2 x3 (x3 + (((s.2.1 83) (x4).toNatClampNeg) - ((s.2.1 83) (x4).toNatClampNeg) / (16777216 : Int32) * (16777216 : Int32))) s k hX146 hX125
          · have k := k.2 c
            refine Ex.seg hq 11 (j := 74) (L' := [.ref 55, .int x1, .int x2, .int x3, .int (x4 + (1 : Int32)), .int (((s.2.1 83) (x4).toNatClampNeg) / (16777216 : Int32)), .int (((s.2.1 83) (x4).toNatClampNeg) - ((s.2.1 83) (x4).toNatClampNeg) / (16777216 : Int32) * (16777216 : Int32))]) (S' := [.int (x2 - (1 : Int32)), .ref 92, .long (1 : Int64), .int (x2 - (1 : Int32)), .ref 92]) (h' := hpS s) rfl ?_
            obtain ⟨hin, k⟩ := k
            refine Ex.lal hq rfl rfl hin ?_
            refine Ex.seg hq 1 (j := 76) (L' := [.ref 55, .int x1, .int x2, .int x3, .int (x4 + (1 : Int32)), .int (((s.2.1 83) (x4).toNatClampNeg) / (16777216 : Int32)), .int (((s.2.1 83) (x4).toNatClampNeg) - ((s.2.1 83) (x4).toNatClampNeg) / (16777216 : Int32) * (16777216 : Int32))]) (S' := [.long ((1 : Int64) - ((s.2.2.1 92) ((x2 - (1 : Int32))).toNatClampNeg)), .int (x2 - (1 : Int32)), .ref 92]) (h' := hpS s) rfl ?_
            obtain ⟨hin, k⟩ := k
            refine Ex.las hq rfl rfl hin (h' := hpS (sL s 92 (vp_updL (s.2.2.1 92) ((x2 - (1 : Int32))).toNatClampNeg ((1 : Int64) - ((s.2.2.1 92) ((x2 - (1 : Int32))).toNatClampNeg))))) (hset_92 _ _) ?_
            refine Ex.seg hq 2 (j := 13) (L' := [.ref 55, .int x1, .int x2, .int x3, .int (x4 + (1 : Int32)), .int (((s.2.1 83) (x4).toNatClampNeg) / (16777216 : Int32)), .int (((s.2.1 83) (x4).toNatClampNeg) - ((s.2.1 83) (x4).toNatClampNeg) / (16777216 : Int32) * (16777216 : Int32))]) (S' := []) (h' := hpS (sL s 92 (vp_updL (s.2.2.1 92) ((x2 - (1 : Int32))).toNatClampNeg ((1 : Int64) - ((s.2.2.1 92) ((x2 - (1 : Int32))).toNatClampNeg))))) rfl ?_
            refine Ex.fg (L := [.ref 55, .int x1, .int x2, .int x3, .int (x4 + (1 : Int32)), pu, pu]) ⟨Or.inl rfl, ⟨Or.inl rfl, ⟨Or.inl rfl, ⟨Or.inl rfl, ⟨Or.inl rfl, ⟨Or.inr ⟨rfl, rfl⟩, ⟨Or.inr ⟨rfl, rfl⟩, trivial⟩⟩⟩⟩⟩⟩⟩ ?_
            exact ih x1 x2 x3 (x4 + (1 : Int32)) (sL s 92 (vp_updL (s.2.2.1 92) ((x2 - (1 : Int32))).toNatClampNeg ((1 : Int64) - ((s.2.2.1 92) ((x2 - (1 : Int32))).toNatClampNeg)))) k hX146 hX125
        · have k := k.2 c
          refine Ex.seg hq 4 (j := 46) (L' := [.ref 55, .int x1, .int x2, .int x3, .int (x4 + (1 : Int32)), .int (((s.2.1 83) (x4).toNatClampNeg) / (16777216 : Int32)), .int (((s.2.1 83) (x4).toNatClampNeg) - ((s.2.1 83) (x4).toNatClampNeg) / (16777216 : Int32) * (16777216 : Int32))]) (S' := [.int (((s.2.1 83) (x4).toNatClampNeg) / (16777216 : Int32)), .int x2, .ref 92]) (h' := hpS s) rfl ?_
          refine Ex.i1 hq rfl (fun c => ?_) (fun c => ?_)
          · have k := k.1 c
            refine Ex.seg hq 3 (j := 53) (L' := [.ref 55, .int x1, .int x2, .int x3, .int (x4 + (1 : Int32)), .int (((s.2.1 83) (x4).toNatClampNeg) / (16777216 : Int32)), .int (((s.2.1 83) (x4).toNatClampNeg) - ((s.2.1 83) (x4).toNatClampNeg) / (16777216 : Int32) * (16777216 : Int32))]) (S' := [.int (((s.2.1 83) (x4).toNatClampNeg) - ((s.2.1 83) (x4).toNatClampNeg) / (16777216 : Int32) * (16777216 : Int32)), .ref 93, .int x2, .ref 92]) (h' := hpS s) rfl ?_
            obtain ⟨hin, k⟩ := k
            refine Ex.lal hq rfl rfl hin ?_
            obtain ⟨hin, k⟩ := k
            refine Ex.las hq rfl rfl hin (h' := hpS (sL s 92 (vp_updL (s.2.2.1 92) (x2).toNatClampNeg ((s.2.2.1 93) ((((s.2.1 83) (x4).toNatClampNeg) - ((s.2.1 83) (x4).toNatClampNeg) / (16777216 : Int32) * (16777216 : Int32))).toNatClampNeg)))) (hset_92 _ _) ?_
            refine Ex.seg hq 6 (j := 13) (L' := [.ref 55, .int x1, .int (x2 + (1 : Int32)), .int x3, .int (x4 + (1 : Int32)), .int (((s.2.1 83) (x4).toNatClampNeg) / (16777216 : Int32)), .int (((s.2.1 83) (x4).toNatClampNeg) - ((s.2.1 83) (x4).toNatClampNeg) / (16777216 : Int32) * (16777216 : Int32))]) (S' := []) (h' := hpS (sL s 92 (vp_updL (s.2.2.1 92) (x2).toNatClampNeg ((s.2.2.1 93) ((((s.2.1 83) (x4).toNatClampNeg) - ((s.2.1 83) (x4).toNatClampNeg) / (16777216 : Int32) * (16777216 : Int32))).toNatClampNeg)))) rfl ?_
            refine Ex.fg (L := [.ref 55, .int x1, .int (x2 + (1 : Int32)), .int x3, .int (x4 + (1 : Int32)), pu, pu]) ⟨Or.inl rfl, ⟨Or.inl rfl, ⟨Or.inl rfl, ⟨Or.inl rfl, ⟨Or.inl rfl, ⟨Or.inr ⟨rfl, rfl⟩, ⟨Or.inr ⟨rfl, rfl⟩, trivial⟩⟩⟩⟩⟩⟩⟩ ?_
            exact ih x1 (x2 + (1 : Int32)) x3 (x4 + (1 : Int32)) (sL s 92 (vp_updL (s.2.2.1 92) (x2).toNatClampNeg ((s.2.2.1 93) ((((s.2.1 83) (x4).toNatClampNeg) - ((s.2.1 83) (x4).toNatClampNeg) / (16777216 : Int32) * (16777216 : Int32))).toNatClampNeg))) k hX146 hX125
          · have k := k.2 c
            refine Ex.seg hq 3 (j := 54) (L' := [.ref 55, .int x1, .int x2, .int x3, .int (x4 + (1 : Int32)), .int (((s.2.1 83) (x4).toNatClampNeg) / (16777216 : Int32)), .int (((s.2.1 83) (x4).toNatClampNeg) - ((s.2.1 83) (x4).toNatClampNeg) / (16777216 : Int32) * (16777216 : Int32))]) (S' := [.long (((((s.2.1 83) (x4).toNatClampNeg) - ((s.2.1 83) (x4).toNatClampNeg) / (16777216 : Int32) * (16777216 : Int32))).toInt64), .int x2, .ref 92]) (h' := hpS s) rfl ?_
            obtain ⟨hin, k⟩ := k
            refine Ex.las hq rfl rfl hin (h' := hpS (sL s 92 (vp_updL (s.2.2.1 92) (x2).toNatClampNeg (((((s.2.1 83) (x4).toNatClampNeg) - ((s.2.1 83) (x4).toNatClampNeg) / (16777216 : Int32) * (16777216 : Int32))).toInt64)))) (hset_92 _ _) ?_
            refine Ex.seg hq 6 (j := 13) (L' := [.ref 55, .int x1, .int (x2 + (1 : Int32)), .int x3, .int (x4 + (1 : Int32)), .int (((s.2.1 83) (x4).toNatClampNeg) / (16777216 : Int32)), .int (((s.2.1 83) (x4).toNatClampNeg) - ((s.2.1 83) (x4).toNatClampNeg) / (16777216 : Int32) * (16777216 : Int32))]) (S' := []) (h' := hpS (sL s 92 (vp_updL (s.2.2.1 92) (x2).toNatClampNeg (((((s.2.1 83) (x4).toNatClampNeg) - ((s.2.1 83) (x4).toNatClampNeg) / (16777216 : Int32) * (16777216 : Int32))).toInt64)))) rfl ?_
            refine Ex.fg (L := [.ref 55, .int x1, .int (x2 + (1 : Int32)), .int x3, .int (x4 + (1 : Int32)), pu, pu]) ⟨Or.inl rfl, ⟨Or.inl rfl, ⟨Or.inl rfl, ⟨Or.inl rfl, ⟨Or.inl rfl, ⟨Or.inr ⟨rfl, rfl⟩, ⟨Or.inr ⟨rfl, rfl⟩, trivial⟩⟩⟩⟩⟩⟩⟩ ?_
            exact ih x1 (x2 + (1 : Int32)) x3 (x4 + (1 : Int32)) (sL s 92 (vp_updL (s.2.2.1 92) (x2).toNatClampNeg (((((s.2.1 83) (x4).toNatClampNeg) - ((s.2.1 83) (x4).toNatClampNeg) / (16777216 : Int32) * (16777216 : Int32))).toInt64))) k hX146 hX125
/-- RowAuditorModel.isTrue(I)Z -/
def w_232 (p1 : Int32) (s : ST) (K : Int32 → ST → Prop) : Prop := (¬ (10 : Int32) = 0 ∧ (pin p1 260 = true ∧ (∃ m, w_232_L13 m p1 (0 : Int32) ((180 : Int32) * (p1 / (10 : Int32))) ((s.2.1 88) (p1).toNatClampNeg) s (fun s7 => (pin (0 : Int32) 180 = true ∧ ((¬ (lg_cmp ((s7.2.2.1 92) ((0 : Int32)).toNatClampNeg) (1 : Int64)) = 0 → K (0 : Int32) s7) ∧ (¬ (¬ (lg_cmp ((s7.2.2.1 92) ((0 : Int32)).toNatClampNeg) (1 : Int64)) = 0) → K (1 : Int32) s7)))) (fun s8 => K (0 : Int32) s8) K)))
theorem q_232 {d : Nat} {K : Int32 → ST → Prop} (p1 : Int32) (s : ST) (k : w_232 p1 s K) : Rn sc (d + 1) 232 [.ref 55, .int p1] (hpS s) (kZ K) := by
  have hq : prog[232]? = some pm232 := rfl
  refine Rn.of (L := [.ref 55, .int p1, pu, pu, pu, pu, pu]) hq rfl rfl ?_
  unfold w_232 at k
  refine Ex.seg hq 5 (j := 5) (L' := [.ref 55, .int p1, .int (0 : Int32), pu, pu, pu, pu]) (S' := [.int (10 : Int32), .int p1, .int (180 : Int32)]) (h' := hpS s) rfl ?_
  obtain ⟨hz, k⟩ := k
  refine Ex.dv hq rfl hz ?_
  refine Ex.seg hq 5 (j := 11) (L' := [.ref 55, .int p1, .int (0 : Int32), .int ((180 : Int32) * (p1 / (10 : Int32))), pu, pu, pu]) (S' := [.int p1, .ref 88]) (h' := hpS s) rfl ?_
  obtain ⟨hin, k⟩ := k
  refine Ex.ial hq rfl rfl hin ?_
  refine Ex.seg hq 1 (j := 13) (L' := [.ref 55, .int p1, .int (0 : Int32), .int ((180 : Int32) * (p1 / (10 : Int32))), .int ((s.2.1 88) (p1).toNatClampNeg), pu, pu]) (S' := []) (h' := hpS s) rfl ?_
  obtain ⟨m, k⟩ := k
  refine q_232_L13 (d := d) m p1 (0 : Int32) ((180 : Int32) * (p1 / (10 : Int32))) ((s.2.1 88) (p1).toNatClampNeg) s k ?_ ?_
  · intro s7 k
    refine Ex.seg hq 3 (j := 149) (L' := [.ref 55, pu, pu, pu, pu, pu, pu]) (S' := [.int (0 : Int32), .ref 92]) (h' := hpS s7) rfl ?_
    obtain ⟨hin, k⟩ := k
    refine Ex.lal hq rfl rfl hin ?_
    refine Ex.seg hq 2 (j := 152) (L' := [.ref 55, pu, pu, pu, pu, pu, pu]) (S' := [.int (lg_cmp ((s7.2.2.1 92) ((0 : Int32)).toNatClampNeg) (1 : Int64))]) (h' := hpS s7) rfl ?_
    refine Ex.i1 hq rfl (fun c => ?_) (fun c => ?_)
    · have k := k.1 c
      refine Ex.seg hq 1 (j := 156) (L' := [.ref 55, pu, pu, pu, pu, pu, pu]) (S' := [.int (0 : Int32)]) (h' := hpS s7) rfl ?_
      exact Ex.zr hq rfl rfl (Or.inl rfl) ⟨(0 : Int32), s7, rfl, (Or.inl rfl), rfl, k⟩
    · have k := k.2 c
      refine Ex.seg hq 2 (j := 156) (L' := [.ref 55, pu, pu, pu, pu, pu, pu]) (S' := [.int (1 : Int32)]) (h' := hpS s7) rfl ?_
      exact Ex.zr hq rfl rfl (Or.inr rfl) ⟨(1 : Int32), s7, rfl, (Or.inr rfl), rfl, k⟩
  · intro s8 k
    refine Ex.seg hq 1 (j := 126) (L' := [pu, pu, pu, pu, pu, pu, pu]) (S' := [.int (0 : Int32)]) (h' := hpS s8) rfl ?_
    exact Ex.zr hq rfl rfl (Or.inl rfl) ⟨(0 : Int32), s8, rfl, (Or.inl rfl), rfl, k⟩
/-- RowAuditorModel.isForce(II)Z -/
def w_233 (p1 : Int32) (p2 : Int32) (s : ST) (K : Int32 → ST → Prop) : Prop := (pin p1 20 = true ∧ (pin p1 20 = true ∧ w_186 p2 ((s.2.1 84) (p1).toNatClampNeg) ((s.2.1 85) (p1).toNatClampNeg) s (fun r2 s1 => K r2 s1)))
theorem q_233 {d : Nat} {K : Int32 → ST → Prop} (p1 : Int32) (p2 : Int32) (s : ST) (k : w_233 p1 p2 s K) : Rn sc (d + 1) 233 [.ref 55, .int p1, .int p2] (hpS s) (kZ K) := by
  have hq : prog[233]? = some pm233 := rfl
  refine Rn.of (L := [.ref 55, .int p1, .int p2]) hq rfl rfl ?_
  unfold w_233 at k
  refine Ex.seg hq 4 (j := 4) (L' := [.ref 55, .int p1, .int p2]) (S' := [.int p1, .ref 84, .int p2]) (h' := hpS s) rfl ?_
  obtain ⟨hin, k⟩ := k
  refine Ex.ial hq rfl rfl hin ?_
  refine Ex.seg hq 3 (j := 8) (L' := [.ref 55, .int p1, .int p2]) (S' := [.int p1, .ref 85, .int ((s.2.1 84) (p1).toNatClampNeg), .int p2]) (h' := hpS s) rfl ?_
  obtain ⟨hin, k⟩ := k
  refine Ex.ial hq rfl rfl hin ?_
  refine Ex.cl hq rfl rfl ?_
  refine Rn.mono (q_186 (d := d + 0) p2 ((s.2.1 84) (p1).toNatClampNeg) ((s.2.1 85) (p1).toNatClampNeg) s k) ?_
  rintro _ _ ⟨r2, s1, rfl, hzr2, rfl, k⟩
  show Ex sc (d + 1) 233 10 [.ref 55, .int p1, .int p2] [.int r2] (hpS s1) _
  exact Ex.zr hq rfl rfl hzr2 ⟨r2, s1, rfl, hzr2, rfl, k⟩
def w_234_L2 : Nat → Int32 → Int32 → ST → (Int32 → ST → Prop) → (ST → Prop) → Prop
  | 0, _, _, _, _, _ => False
  | n + 1, x1, x2, s, X12, K => (((200 : Int32) ≤ x2 → X12 x1 s) ∧ (¬ ((200 : Int32) ≤ x2) → (pin x2 200 = true ∧ w_234_L2 n x1 (x2 + (1 : Int32)) (sA s 94 (upd (s.2.1 94) (x2).toNatClampNeg (vp_nar .boolean (0 : Int32)))) X12 K)))
theorem q_234_L2 {d : Nat} {X12 : Int32 → ST → Prop} {K : ST → Prop} : ∀ (n : Nat) (x1 : Int32) (x2 : Int32) (s : ST), w_234_L2 n x1 x2 s X12 K → (∀ (y1 : Int32) (s : ST), X12 y1 s → Ex sc (d + 2) 234 12 [.ref 55, .int y1, pu, pu, pu] [] (hpS s) (kV K)) → Ex sc (d + 2) 234 2 [.ref 55, .int x1, .int x2, pu, pu] [] (hpS s) (kV K) := by
  have hq : prog[234]? = some pm234 := rfl
  intro n
  induction n with
  | zero =>
    intro x1 x2 s k
    exact k.elim
  | succ n ih =>
    intro x1 x2 s k hX12
    rw [w_234_L2] at k
    refine Ex.seg hq 2 (j := 4) (L' := [.ref 55, .int x1, .int x2, pu, pu]) (S' := [.int (200 : Int32), .int x2]) (h' := hpS s) rfl ?_
    refine Ex.i2 hq rfl (fun c => ?_) (fun c => ?_)
    · have k := k.1 c
      refine Ex.fg (L := [.ref 55, .int x1, pu, pu, pu]) ⟨Or.inl rfl, ⟨Or.inl rfl, ⟨Or.inr ⟨rfl, rfl⟩, ⟨Or.inl rfl, ⟨Or.inl rfl, trivial⟩⟩⟩⟩⟩ ?_
      exact hX12 x1 s k
    · have k := k.2 c
      refine Ex.seg hq 4 (j := 9) (L' := [.ref 55, .int x1, .int x2, pu, pu]) (S' := [.int (0 : Int32), .int x2, .ref 94]) (h' := hpS s) rfl ?_
      obtain ⟨hin, k⟩ := k
      refine Ex.zas hq rfl rfl hin (h' := hpS (sA s 94 (upd (s.2.1 94) (x2).toNatClampNeg (vp_nar .boolean (0 : Int32))))) (hset_94 _ _) ?_
      refine Ex.seg hq 2 (j := 2) (L' := [.ref 55, .int x1, .int (x2 + (1 : Int32)), pu, pu]) (S' := []) (h' := hpS (sA s 94 (upd (s.2.1 94) (x2).toNatClampNeg (vp_nar .boolean (0 : Int32))))) rfl ?_
      exact ih x1 (x2 + (1 : Int32)) (sA s 94 (upd (s.2.1 94) (x2).toNatClampNeg (vp_nar .boolean (0 : Int32)))) k hX12
def w_234_L21 : Nat → Int32 → Int32 → Int32 → ST → (Int32 → Int32 → ST → Prop) → (ST → Prop) → Prop
  | 0, _, _, _, _, _, _ => False
  | n + 1, x1, x2, x3, s, X80, K => (pin x2 26 = true ∧ ((((s.2.1 86) (x2).toNatClampNeg) ≤ x3 → X80 x1 x2 s) ∧ (¬ (((s.2.1 86) (x2).toNatClampNeg) ≤ x3) → w_233 x2 x1 s (fun r3 s2 => ((r3 = 0 → X80 x1 x2 s2) ∧ (¬ (r3 = 0) → (pin (((10 : Int32) * x2) + x3) 260 = true ∧ ((¬ ((s2.2.1 87) ((((10 : Int32) * x2) + x3)).toNatClampNeg) = (120 : Int32) → w_234_L21 n x1 x2 (x3 + (1 : Int32)) s2 X80 K) ∧ (¬ (¬ ((s2.2.1 87) ((((10 : Int32) * x2) + x3)).toNatClampNeg) = (120 : Int32)) → (pin (((10 : Int32) * x2) + x3) 200 = true ∧ ((¬ ((s2.2.1 94) ((((10 : Int32) * x2) + x3)).toNatClampNeg) = 0 → w_234_L21 n x1 x2 (x3 + (1 : Int32)) s2 X80 K) ∧ (¬ (¬ ((s2.2.1 94) ((((10 : Int32) * x2) + x3)).toNatClampNeg) = 0) → (pin (((10 : Int32) * x2) + x3) 260 = true ∧ ((x2 ≤ ((s2.2.1 90) ((((10 : Int32) * x2) + x3)).toNatClampNeg) → w_234_L21 n x1 x2 (x3 + (1 : Int32)) s2 X80 K) ∧ (¬ (x2 ≤ ((s2.2.1 90) ((((10 : Int32) * x2) + x3)).toNatClampNeg)) → (pin (((10 : Int32) * x2) + x3) 260 = true ∧ w_233 ((s2.2.1 90) ((((10 : Int32) * x2) + x3)).toNatClampNeg) x1 s2 (fun r5 s4 => ((r5 = 0 → w_234_L21 n x1 x2 (x3 + (1 : Int32)) s4 X80 K) ∧ (¬ (r5 = 0) → (pin (((10 : Int32) * x2) + x3) 260 = true ∧ (pin (((10 : Int32) * x2) + x3) 260 = true ∧ (pin (((10 : Int32) * ((s4.2.1 90) ((((10 : Int32) * x2) + x3)).toNatClampNeg)) + ((s4.2.1 91) ((((10 : Int32) * x2) + x3)).toNatClampNeg)) 200 = true ∧ w_234_L21 n x1 x2 (x3 + (1 : Int32)) (sA s4 94 (upd (s4.2.1 94) ((((10 : Int32) * ((s4.2.1 90) ((((10 : Int32) * x2) + x3)).toNatClampNeg)) + ((s4.2.1 91) ((((10 : Int32) * x2) + x3)).toNatClampNeg))).toNatClampNeg (vp_nar .boolean (1 : Int32)))) X80 K))))))))))))))))))))))
theorem q_234_L21 {d : Nat} {X80 : Int32 → Int32 → ST → Prop} {K : ST → Prop} : ∀ (n : Nat) (x1 : Int32) (x2 : Int32) (x3 : Int32) (s : ST), w_234_L21 n x1 x2 x3 s X80 K → (∀ (y1 : Int32) (y2 : Int32) (s : ST), X80 y1 y2 s → Ex sc (d + 2) 234 80 [.ref 55, .int y1, .int y2, pu, pu] [] (hpS s) (kV K)) → Ex sc (d + 2) 234 21 [.ref 55, .int x1, .int x2, .int x3, pu] [] (hpS s) (kV K) := by
  have hq : prog[234]? = some pm234 := rfl
  intro n
  induction n with
  | zero =>
    intro x1 x2 x3 s k
    exact k.elim
  | succ n ih =>
    intro x1 x2 x3 s k hX80
    rw [w_234_L21] at k
    refine Ex.seg hq 4 (j := 25) (L' := [.ref 55, .int x1, .int x2, .int x3, pu]) (S' := [.int x2, .ref 86, .int x3]) (h' := hpS s) rfl ?_
    obtain ⟨hin, k⟩ := k
    refine Ex.ial hq rfl rfl hin ?_
    refine Ex.i2 hq rfl (fun c => ?_) (fun c => ?_)
    · have k := k.1 c
      refine Ex.fg (L := [.ref 55, .int x1, .int x2, pu, pu]) ⟨Or.inl rfl, ⟨Or.inl rfl, ⟨Or.inl rfl, ⟨Or.inr ⟨rfl, rfl⟩, ⟨Or.inl rfl, trivial⟩⟩⟩⟩⟩ ?_
      exact hX80 x1 x2 s k
    · have k := k.2 c
      refine Ex.seg hq 3 (j := 30) (L' := [.ref 55, .int x1, .int x2, .int x3, pu]) (S' := [.int x1, .int x2, .ref 55]) (h' := hpS s) rfl ?_
      refine Ex.cl hq rfl rfl ?_
      refine Rn.mono (q_233 (d := d + 0) x2 x1 s k) ?_
      rintro _ _ ⟨r3, s2, rfl, hzr3, rfl, k⟩
      show Ex sc (d + 2) 234 31 [.ref 55, .int x1, .int x2, .int x3, pu] [.int r3] (hpS s2) _
      refine Ex.i1 hq rfl (fun c => ?_) (fun c => ?_)
      · have k := k.1 c
        refine Ex.fg (L := [.ref 55, .int x1, .int x2, pu, pu]) ⟨Or.inl rfl, ⟨Or.inl rfl, ⟨Or.inl rfl, ⟨Or.inr ⟨rfl, rfl⟩, ⟨Or.inl rfl, trivial⟩⟩⟩⟩⟩ ?_
        exact hX80 x1 x2 s2 k
      · have k := k.2 c
        refine Ex.seg hq 9 (j := 41) (L' := [.ref 55, .int x1, .int x2, .int x3, .int (((10 : Int32) * x2) + x3)]) (S' := [.int (((10 : Int32) * x2) + x3), .ref 87]) (h' := hpS s2) rfl ?_
        obtain ⟨hin, k⟩ := k
        refine Ex.ial hq rfl rfl hin ?_
        refine Ex.seg hq 1 (j := 43) (L' := [.ref 55, .int x1, .int x2, .int x3, .int (((10 : Int32) * x2) + x3)]) (S' := [.int (120 : Int32), .int ((s2.2.1 87) ((((10 : Int32) * x2) + x3)).toNatClampNeg)]) (h' := hpS s2) rfl ?_
        refine Ex.i2 hq rfl (fun c => ?_) (fun c => ?_)
        · have k := k.1 c
          refine Ex.seg hq 2 (j := 21) (L' := [.ref 55, .int x1, .int x2, .int (x3 + (1 : Int32)), .int (((10 : Int32) * x2) + x3)]) (S' := []) (h' := hpS s2) rfl ?_
          refine Ex.fg (L := [.ref 55, .int x1, .int x2, .int (x3 + (1 : Int32)), pu]) ⟨Or.inl rfl, ⟨Or.inl rfl, ⟨Or.inl rfl, ⟨Or.inl rfl, ⟨Or.inr ⟨rfl, rfl⟩, trivial⟩⟩⟩⟩⟩ ?_
          exact ih x1 x2 (x3 + (1 : Int32)) s2 k hX80
        · have k := k.2 c
          refine Ex.seg hq 3 (j := 47) (L' := [.ref 55, .int x1, .int x2, .int x3, .int (((10 : Int32) * x2) + x3)]) (S' := [.int (((10 : Int32) * x2) + x3), .ref 94]) (h' := hpS s2) rfl ?_
          obtain ⟨hin, k⟩ := k
          refine Ex.zal hq rfl rfl hin ?_
          refine Ex.i1 hq rfl (fun c => ?_) (fun c => ?_)
          · have k := k.1 c
            refine Ex.seg hq 2 (j := 21) (L' := [.ref 55, .int x1, .int x2, .int (x3 + (1 : Int32)), .int (((10 : Int32) * x2) + x3)]) (S' := []) (h' := hpS s2) rfl ?_
            refine Ex.fg (L := [.ref 55, .int x1, .int x2, .int (x3 + (1 : Int32)), pu]) ⟨Or.inl rfl, ⟨Or.inl rfl, ⟨Or.inl rfl, ⟨Or.inl rfl, ⟨Or.inr ⟨rfl, rfl⟩, trivial⟩⟩⟩⟩⟩ ?_
            exact ih x1 x2 (x3 + (1 : Int32)) s2 k hX80
          · have k := k.2 c
            refine Ex.seg hq 3 (j := 52) (L' := [.ref 55, .int x1, .int x2, .int x3, .int (((10 : Int32) * x2) + x3)]) (S' := [.int (((10 : Int32) * x2) + x3), .ref 90]) (h' := hpS s2) rfl ?_
            obtain ⟨hin, k⟩ := k
            refine Ex.ial hq rfl rfl hin ?_
            refine Ex.seg hq 1 (j := 54) (L' := [.ref 55, .int x1, .int x2, .int x3, .int (((10 : Int32) * x2) + x3)]) (S' := [.int x2, .int ((s2.2.1 90) ((((10 : Int32) * x2) + x3)).toNatClampNeg)]) (h' := hpS s2) rfl ?_
            refine Ex.i2 hq rfl (fun c => ?_) (fun c => ?_)
            · have k := k.1 c
              refine Ex.seg hq 2 (j := 21) (L' := [.ref 55, .int x1, .int x2, .int (x3 + (1 : Int32)), .int (((10 : Int32) * x2) + x3)]) (S' := []) (h' := hpS s2) rfl ?_
              refine Ex.fg (L := [.ref 55, .int x1, .int x2, .int (x3 + (1 : Int32)), pu]) ⟨Or.inl rfl, ⟨Or.inl rfl, ⟨Or.inl rfl, ⟨Or.inl rfl, ⟨Or.inr ⟨rfl, rfl⟩, trivial⟩⟩⟩⟩⟩ ?_
              exact ih x1 x2 (x3 + (1 : Int32)) s2 k hX80
            · have k := k.2 c
              refine Ex.seg hq 4 (j := 59) (L' := [.ref 55, .int x1, .int x2, .int x3, .int (((10 : Int32) * x2) + x3)]) (S' := [.int (((10 : Int32) * x2) + x3), .ref 90, .ref 55]) (h' := hpS s2) rfl ?_
              obtain ⟨hin, k⟩ := k
              refine Ex.ial hq rfl rfl hin ?_
              refine Ex.seg hq 1 (j := 61) (L' := [.ref 55, .int x1, .int x2, .int x3, .int (((10 : Int32) * x2) + x3)]) (S' := [.int x1, .int ((s2.2.1 90) ((((10 : Int32) * x2) + x3)).toNatClampNeg), .ref 55]) (h' := hpS s2) rfl ?_
              refine Ex.cl hq rfl rfl ?_
              refine Rn.mono (q_233 (d := d + 0) ((s2.2.1 90) ((((10 : Int32) * x2) + x3)).toNatClampNeg) x1 s2 k) ?_
              rintro _ _ ⟨r5, s4, rfl, hzr5, rfl, k⟩
              show Ex sc (d + 2) 234 62 [.ref 55, .int x1, .int x2, .int x3, .int (((10 : Int32) * x2) + x3)] [.int r5] (hpS s4) _
              refine Ex.i1 hq rfl (fun c => ?_) (fun c => ?_)
              · have k := k.1 c
                refine Ex.seg hq 2 (j := 21) (L' := [.ref 55, .int x1, .int x2, .int (x3 + (1 : Int32)), .int (((10 : Int32) * x2) + x3)]) (S' := []) (h' := hpS s4) rfl ?_
                refine Ex.fg (L := [.ref 55, .int x1, .int x2, .int (x3 + (1 : Int32)), pu]) ⟨Or.inl rfl, ⟨Or.inl rfl, ⟨Or.inl rfl, ⟨Or.inl rfl, ⟨Or.inr ⟨rfl, rfl⟩, trivial⟩⟩⟩⟩⟩ ?_
                exact ih x1 x2 (x3 + (1 : Int32)) s4 k hX80
              · have k := k.2 c
                refine Ex.seg hq 6 (j := 69) (L' := [.ref 55, .int x1, .int x2, .int x3, .int (((10 : Int32) * x2) + x3)]) (S' := [.int (((10 : Int32) * x2) + x3), .ref 90, .int (10 : Int32), .ref 94]) (h' := hpS s4) rfl ?_
                obtain ⟨hin, k⟩ := k
                refine Ex.ial hq rfl rfl hin ?_
                refine Ex.seg hq 4 (j := 74) (L' := [.ref 55, .int x1, .int x2, .int x3, .int (((10 : Int32) * x2) + x3)]) (S' := [.int (((10 : Int32) * x2) + x3), .ref 91, .int ((10 : Int32) * ((s4.2.1 90) ((((10 : Int32) * x2) + x3)).toNatClampNeg)), .ref 94]) (h' := hpS s4) rfl ?_
                obtain ⟨hin, k⟩ := k
                refine Ex.ial hq rfl rfl hin ?_
                refine Ex.seg hq 2 (j := 77) (L' := [.ref 55, .int x1, .int x2, .int x3, .int (((10 : Int32) * x2) + x3)]) (S' := [.int (1 : Int32), .int (((10 : Int32) * ((s4.2.1 90) ((((10 : Int32) * x2) + x3)).toNatClampNeg)) + ((s4.2.1 91) ((((10 : Int32) * x2) + x3)).toNatClampNeg)), .ref 94]) (h' := hpS s4) rfl ?_
                obtain ⟨hin, k⟩ := k
                refine Ex.zas hq rfl rfl hin (h' := hpS (sA s4 94 (upd (s4.2.1 94) ((((10 : Int32) * ((s4.2.1 90) ((((10 : Int32) * x2) + x3)).toNatClampNeg)) + ((s4.2.1 91) ((((10 : Int32) * x2) + x3)).toNatClampNeg))).toNatClampNeg (vp_nar .boolean (1 : Int32))))) (hset_94 _ _) ?_
                refine Ex.seg hq 2 (j := 21) (L' := [.ref 55, .int x1, .int x2, .int (x3 + (1 : Int32)), .int (((10 : Int32) * x2) + x3)]) (S' := []) (h' := hpS (sA s4 94 (upd (s4.2.1 94) ((((10 : Int32) * ((s4.2.1 90) ((((10 : Int32) * x2) + x3)).toNatClampNeg)) + ((s4.2.1 91) ((((10 : Int32) * x2) + x3)).toNatClampNeg))).toNatClampNeg (vp_nar .boolean (1 : Int32))))) rfl ?_
                refine Ex.fg (L := [.ref 55, .int x1, .int x2, .int (x3 + (1 : Int32)), pu]) ⟨Or.inl rfl, ⟨Or.inl rfl, ⟨Or.inl rfl, ⟨Or.inl rfl, ⟨Or.inr ⟨rfl, rfl⟩, trivial⟩⟩⟩⟩⟩ ?_
                exact ih x1 x2 (x3 + (1 : Int32)) (sA s4 94 (upd (s4.2.1 94) ((((10 : Int32) * ((s4.2.1 90) ((((10 : Int32) * x2) + x3)).toNatClampNeg)) + ((s4.2.1 91) ((((10 : Int32) * x2) + x3)).toNatClampNeg))).toNatClampNeg (vp_nar .boolean (1 : Int32)))) k hX80
def w_234_L17 : Nat → Int32 → Int32 → ST → (ST → Prop) → (ST → Prop) → Prop
  | 0, _, _, _, _, _ => False
  | n + 1, x1, x2, s, X82, K => ((x2 < 0 → X82  s) ∧ (¬ (x2 < 0) → (∃ m, w_234_L21 m x1 x2 (0 : Int32) s (fun y1 y2 s2 => w_234_L17 n y1 (y2 + (-1 : Int32)) s2 X82 K) K)))
theorem q_234_L17 {d : Nat} {X82 : ST → Prop} {K : ST → Prop} : ∀ (n : Nat) (x1 : Int32) (x2 : Int32) (s : ST), w_234_L17 n x1 x2 s X82 K → (∀ (s : ST), X82  s → Ex sc (d + 2) 234 82 [pu, pu, pu, pu, pu] [] (hpS s) (kV K)) → Ex sc (d + 2) 234 17 [.ref 55, .int x1, .int x2, pu, pu] [] (hpS s) (kV K) := by
  have hq : prog[234]? = some pm234 := rfl
  intro n
  induction n with
  | zero =>
    intro x1 x2 s k
    exact k.elim
  | succ n ih =>
    intro x1 x2 s k hX82
    rw [w_234_L17] at k
    refine Ex.seg hq 1 (j := 18) (L' := [.ref 55, .int x1, .int x2, pu, pu]) (S' := [.int x2]) (h' := hpS s) rfl ?_
    refine Ex.i1 hq rfl (fun c => ?_) (fun c => ?_)
    · have k := k.1 c
      refine Ex.fg (L := [pu, pu, pu, pu, pu]) ⟨Or.inr ⟨rfl, rfl⟩, ⟨Or.inr ⟨rfl, rfl⟩, ⟨Or.inr ⟨rfl, rfl⟩, ⟨Or.inl rfl, ⟨Or.inl rfl, trivial⟩⟩⟩⟩⟩ ?_
      exact hX82  s k
    · have k := k.2 c
      refine Ex.seg hq 2 (j := 21) (L' := [.ref 55, .int x1, .int x2, .int (0 : Int32), pu]) (S' := []) (h' := hpS s) rfl ?_
      obtain ⟨m, k⟩ := k
      refine q_234_L21 (d := d) m x1 x2 (0 : Int32) s k ?_
      · intro y1 y2 s2 k
        refine Ex.seg hq 2 (j := 17) (L' := [.ref 55, .int y1, .int (y2 + (-1 : Int32)), pu, pu]) (S' := []) (h' := hpS s2) rfl ?_
        exact ih y1 (y2 + (-1 : Int32)) s2 k hX82
/-- RowAuditorModel.strikes(I)V -/
def w_234 (p1 : Int32) (s : ST) (K : ST → Prop) : Prop := (∃ m, w_234_L2 m p1 (0 : Int32) s (fun y1 s1 => (∃ m, w_234_L17 m y1 ((s1.1 5541) - (1 : Int32)) s1 (fun s3 => K s3) K)) K)
theorem q_234 {d : Nat} {K : ST → Prop} (p1 : Int32) (s : ST) (k : w_234 p1 s K) : Rn sc (d + 2) 234 [.ref 55, .int p1] (hpS s) (kV K) := by
  have hq : prog[234]? = some pm234 := rfl
  refine Rn.of (L := [.ref 55, .int p1, pu, pu, pu]) hq rfl rfl ?_
  unfold w_234 at k
  refine Ex.seg hq 2 (j := 2) (L' := [.ref 55, .int p1, .int (0 : Int32), pu, pu]) (S' := []) (h' := hpS s) rfl ?_
  obtain ⟨m, k⟩ := k
  refine q_234_L2 (d := d) m p1 (0 : Int32) s k ?_
  · intro y1 s1 k
    refine Ex.seg hq 5 (j := 17) (L' := [.ref 55, .int y1, .int ((s1.1 5541) - (1 : Int32)), pu, pu]) (S' := []) (h' := hpS s1) rfl ?_
    obtain ⟨m, k⟩ := k
    refine q_234_L17 (d := d) m y1 ((s1.1 5541) - (1 : Int32)) s1 k ?_
    · intro s3 k
      exact Ex.rt hq rfl rfl ⟨s3, rfl, rfl, k⟩
def w_235_L2 : Nat → Int32 → Int32 → Int32 → ST → (ST → Prop) → (ST → Prop) → (Int32 → ST → Prop) → Prop
  | 0, _, _, _, _, _, _, _ => False
  | n + 1, x1, x2, x3, s, X33, X29, K => (pin x1 26 = true ∧ ((((s.2.1 86) (x1).toNatClampNeg) ≤ x3 → X33  s) ∧ (¬ (((s.2.1 86) (x1).toNatClampNeg) ≤ x3) → (pin (((10 : Int32) * x1) + x3) 260 = true ∧ ((¬ ((s.2.1 87) ((((10 : Int32) * x1) + x3)).toNatClampNeg) = x2 → w_235_L2 n x1 x2 (x3 + (1 : Int32)) s X33 X29 K) ∧ (¬ (¬ ((s.2.1 87) ((((10 : Int32) * x1) + x3)).toNatClampNeg) = x2) → (pin (((10 : Int32) * x1) + x3) 200 = true ∧ ((¬ ((s.2.1 94) ((((10 : Int32) * x1) + x3)).toNatClampNeg) = 0 → w_235_L2 n x1 x2 (x3 + (1 : Int32)) s X33 X29 K) ∧ (¬ (¬ ((s.2.1 94) ((((10 : Int32) * x1) + x3)).toNatClampNeg) = 0) → w_232 (((10 : Int32) * x1) + x3) s (fun r2 s1 => ((r2 = 0 → w_235_L2 n x1 x2 (x3 + (1 : Int32)) s1 X33 X29 K) ∧ (¬ (r2 = 0) → X29  s1))))))))))))
theorem q_235_L2 {d : Nat} {X33 : ST → Prop} {X29 : ST → Prop} {K : Int32 → ST → Prop} : ∀ (n : Nat) (x1 : Int32) (x2 : Int32) (x3 : Int32) (s : ST), w_235_L2 n x1 x2 x3 s X33 X29 K → (∀ (s : ST), X33  s → Ex sc (d + 2) 235 33 [pu, pu, pu, pu, pu] [] (hpS s) (kZ K)) → (∀ (s : ST), X29  s → Ex sc (d + 2) 235 29 [pu, pu, pu, pu, pu] [] (hpS s) (kZ K)) → Ex sc (d + 2) 235 2 [.ref 55, .int x1, .int x2, .int x3, pu] [] (hpS s) (kZ K) := by
  have hq : prog[235]? = some pm235 := rfl
  intro n
  induction n with
  | zero =>
    intro x1 x2 x3 s k
    exact k.elim
  | succ n ih =>
    intro x1 x2 x3 s k hX33 hX29
    rw [w_235_L2] at k
    refine Ex.seg hq 4 (j := 6) (L' := [.ref 55, .int x1, .int x2, .int x3, pu]) (S' := [.int x1, .ref 86, .int x3]) (h' := hpS s) rfl ?_
    obtain ⟨hin, k⟩ := k
    refine Ex.ial hq rfl rfl hin ?_
    refine Ex.i2 hq rfl (fun c => ?_) (fun c => ?_)
    · have k := k.1 c
      refine Ex.fg (L := [pu, pu, pu, pu, pu]) ⟨Or.inr ⟨rfl, rfl⟩, ⟨Or.inr ⟨rfl, rfl⟩, ⟨Or.inr ⟨rfl, rfl⟩, ⟨Or.inr ⟨rfl, rfl⟩, ⟨Or.inl rfl, trivial⟩⟩⟩⟩⟩ ?_
      exact hX33  s k
    · have k := k.2 c
      refine Ex.seg hq 9 (j := 17) (L' := [.ref 55, .int x1, .int x2, .int x3, .int (((10 : Int32) * x1) + x3)]) (S' := [.int (((10 : Int32) * x1) + x3), .ref 87]) (h' := hpS s) rfl ?_
      obtain ⟨hin, k⟩ := k
      refine Ex.ial hq rfl rfl hin ?_
      refine Ex.seg hq 1 (j := 19) (L' := [.ref 55, .int x1, .int x2, .int x3, .int (((10 : Int32) * x1) + x3)]) (S' := [.int x2, .int ((s.2.1 87) ((((10 : Int32) * x1) + x3)).toNatClampNeg)]) (h' := hpS s) rfl ?_
      refine Ex.i2 hq rfl (fun c => ?_) (fun c => ?_)
      · have k := k.1 c
        refine Ex.seg hq 2 (j := 2) (L' := [.ref 55, .int x1, .int x2, .int (x3 + (1 : Int32)), .int (((10 : Int32) * x1) + x3)]) (S' := []) (h' := hpS s) rfl ?_
        refine Ex.fg (L := [.ref 55, .int x1, .int x2, .int (x3 + (1 : Int32)), pu]) ⟨Or.inl rfl, ⟨Or.inl rfl, ⟨Or.inl rfl, ⟨Or.inl rfl, ⟨Or.inr ⟨rfl, rfl⟩, trivial⟩⟩⟩⟩⟩ ?_
        exact ih x1 x2 (x3 + (1 : Int32)) s k hX33 hX29
      · have k := k.2 c
        refine Ex.seg hq 3 (j := 23) (L' := [.ref 55, .int x1, .int x2, .int x3, .int (((10 : Int32) * x1) + x3)]) (S' := [.int (((10 : Int32) * x1) + x3), .ref 94]) (h' := hpS s) rfl ?_
        obtain ⟨hin, k⟩ := k
        refine Ex.zal hq rfl rfl hin ?_
        refine Ex.i1 hq rfl (fun c => ?_) (fun c => ?_)
        · have k := k.1 c
          refine Ex.seg hq 2 (j := 2) (L' := [.ref 55, .int x1, .int x2, .int (x3 + (1 : Int32)), .int (((10 : Int32) * x1) + x3)]) (S' := []) (h' := hpS s) rfl ?_
          refine Ex.fg (L := [.ref 55, .int x1, .int x2, .int (x3 + (1 : Int32)), pu]) ⟨Or.inl rfl, ⟨Or.inl rfl, ⟨Or.inl rfl, ⟨Or.inl rfl, ⟨Or.inr ⟨rfl, rfl⟩, trivial⟩⟩⟩⟩⟩ ?_
          exact ih x1 x2 (x3 + (1 : Int32)) s k hX33 hX29
        · have k := k.2 c
          refine Ex.seg hq 2 (j := 27) (L' := [.ref 55, .int x1, .int x2, .int x3, .int (((10 : Int32) * x1) + x3)]) (S' := [.int (((10 : Int32) * x1) + x3), .ref 55]) (h' := hpS s) rfl ?_
          refine Ex.cl hq rfl rfl ?_
          refine Rn.mono (q_232 (d := d + 0) (((10 : Int32) * x1) + x3) s k) ?_
          rintro _ _ ⟨r2, s1, rfl, hzr2, rfl, k⟩
          show Ex sc (d + 2) 235 28 [.ref 55, .int x1, .int x2, .int x3, .int (((10 : Int32) * x1) + x3)] [.int r2] (hpS s1) _
          refine Ex.i1 hq rfl (fun c => ?_) (fun c => ?_)
          · have k := k.1 c
            refine Ex.seg hq 2 (j := 2) (L' := [.ref 55, .int x1, .int x2, .int (x3 + (1 : Int32)), .int (((10 : Int32) * x1) + x3)]) (S' := []) (h' := hpS s1) rfl ?_
            refine Ex.fg (L := [.ref 55, .int x1, .int x2, .int (x3 + (1 : Int32)), pu]) ⟨Or.inl rfl, ⟨Or.inl rfl, ⟨Or.inl rfl, ⟨Or.inl rfl, ⟨Or.inr ⟨rfl, rfl⟩, trivial⟩⟩⟩⟩⟩ ?_
            exact ih x1 x2 (x3 + (1 : Int32)) s1 k hX33 hX29
          · have k := k.2 c
            refine Ex.fg (L := [pu, pu, pu, pu, pu]) ⟨Or.inr ⟨rfl, rfl⟩, ⟨Or.inr ⟨rfl, rfl⟩, ⟨Or.inr ⟨rfl, rfl⟩, ⟨Or.inr ⟨rfl, rfl⟩, ⟨Or.inr ⟨rfl, rfl⟩, trivial⟩⟩⟩⟩⟩ ?_
            exact hX29  s1 k
/-- RowAuditorModel.hasSuch(II)Z -/
def w_235 (p1 : Int32) (p2 : Int32) (s : ST) (K : Int32 → ST → Prop) : Prop := (∃ m, w_235_L2 m p1 p2 (0 : Int32) s (fun s3 => K (0 : Int32) s3) (fun s4 => K (1 : Int32) s4) K)
theorem q_235 {d : Nat} {K : Int32 → ST → Prop} (p1 : Int32) (p2 : Int32) (s : ST) (k : w_235 p1 p2 s K) : Rn sc (d + 2) 235 [.ref 55, .int p1, .int p2] (hpS s) (kZ K) := by
  have hq : prog[235]? = some pm235 := rfl
  refine Rn.of (L := [.ref 55, .int p1, .int p2, pu, pu]) hq rfl rfl ?_
  unfold w_235 at k
  refine Ex.seg hq 2 (j := 2) (L' := [.ref 55, .int p1, .int p2, .int (0 : Int32), pu]) (S' := []) (h' := hpS s) rfl ?_
  obtain ⟨m, k⟩ := k
  refine q_235_L2 (d := d) m p1 p2 (0 : Int32) s k ?_ ?_
  · intro s3 k
    refine Ex.seg hq 1 (j := 34) (L' := [pu, pu, pu, pu, pu]) (S' := [.int (0 : Int32)]) (h' := hpS s3) rfl ?_
    exact Ex.zr hq rfl rfl (Or.inl rfl) ⟨(0 : Int32), s3, rfl, (Or.inl rfl), rfl, k⟩
  · intro s4 k
    refine Ex.seg hq 1 (j := 30) (L' := [pu, pu, pu, pu, pu]) (S' := [.int (1 : Int32)]) (h' := hpS s4) rfl ?_
    exact Ex.zr hq rfl rfl (Or.inr rfl) ⟨(1 : Int32), s4, rfl, (Or.inr rfl), rfl, k⟩
end WP
