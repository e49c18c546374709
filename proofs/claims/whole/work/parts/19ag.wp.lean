/-! ===== weakest preconditions, printed by wip/whole/genwp.py ===== -/
section WP
variable {sc : Nat × (Nat → Int32)}
/-- java/util/Arrays.copyOf([II)[I -/
def w_305_R36 (p1 : Int32) (s : ST) (K : Nat → ST → Prop) : Prop := ((¬ p1 = (Int32.ofNat 160) → (¬ p1 < 0 ∧ (p1).toNatClampNeg ≤ 100000 ∧ (∃ (n1 : Nat) (f2 : Nat → Int32), prow (s.2.2.2.2 ++ [(Sum.inl (0, (p1).toNatClampNeg, .inl (fun _ => 0)) : PC)]) s.2.2.2.2.length 0 = some (n1, f2) ∧ ¬ (0 : Int32) < 0 ∧ ¬ (0 : Int32) < 0 ∧ ¬ (if p1 < (Int32.ofNat 160) then p1 else (Int32.ofNat 160)) < 0 ∧ ((0 : Int32)).toNatClampNeg + ((if p1 < (Int32.ofNat 160) then p1 else (Int32.ofNat 160))).toNatClampNeg ≤ 160 ∧ ((0 : Int32)).toNatClampNeg + ((if p1 < (Int32.ofNat 160) then p1 else (Int32.ofNat 160))).toNatClampNeg ≤ n1 ∧ K s.2.2.2.2.length (sD s ((s.2.2.2.2 ++ [(Sum.inl (0, (p1).toNatClampNeg, .inl (fun _ => 0)) : PC)]).set s.2.2.2.2.length (.inl (0, n1, .inl (va_cpy (s.2.1 36) f2 ((0 : Int32)).toNatClampNeg ((0 : Int32)).toNatClampNeg ((if p1 < (Int32.ofNat 160) then p1 else (Int32.ofNat 160))).toNatClampNeg)))))))) ∧ (¬ (¬ p1 = (Int32.ofNat 160)) → (∃ n3 f4, prow (s.2.2.2.2 ++ [(Sum.inl (0, 160, .inl (s.2.1 36)) : PC)]) s.2.2.2.2.length 0 = some (n3, f4) ∧ K s.2.2.2.2.length (sD s (s.2.2.2.2 ++ [(Sum.inl (0, 160, .inl (s.2.1 36)) : PC)])))))
theorem q_305_R36 {d : Nat} {K : Nat → ST → Prop} (p1 : Int32) (s : ST) (k : w_305_R36 p1 s K) : Rn sc (d + 1) 305 [.ref 36, .int p1] (hpS s) (kA K) := by
  have hq : prog[305]? = some pm305 := rfl
  refine Rn.of (L := [.ref 36, .int p1, pu]) hq rfl rfl ?_
  unfold w_305_R36 at k
  refine Ex.seg hq 3 (j := 3) (L' := [.ref 36, .int p1, pu]) (S' := [.int (Int32.ofNat 160), .int p1]) (h' := hpS s) rfl ?_
  refine Ex.i2 hq rfl (fun c => ?_) (fun c => ?_)
  · have k := k.1 c
    refine Ex.seg hq 1 (j := 9) (L' := [.ref 36, .int p1, pu]) (S' := [.int p1]) (h' := hpS s) rfl ?_
    obtain ⟨h0, h1, k⟩ := k
    refine Ex.nad hq rfl h0 h1 ?_
    show Ex sc (d + 1) 305 10 [.ref 36, .int p1, pu] [.ref (s.2.2.2.2.length + 118)] (hpS (sD s (s.2.2.2.2 ++ [(Sum.inl (0, (p1).toNatClampNeg, .inl (fun _ => 0)) : PC)]))) _
    refine Ex.seg hq 9 (j := 19) (L' := [.ref 36, .int p1, .ref (s.2.2.2.2.length + 118)]) (S' := [.int (if p1 < (Int32.ofNat 160) then p1 else (Int32.ofNat 160)), .int (0 : Int32), .ref (s.2.2.2.2.length + 118), .int (0 : Int32), .ref 36]) (h' := hpS (sD s (s.2.2.2.2 ++ [(Sum.inl (0, (p1).toNatClampNeg, .inl (fun _ => 0)) : PC)]))) rfl ?_
    obtain ⟨n1, f2, e0, h1, h2, h3, h4, h5, k⟩ := k
    refine Ex.cp hq rfl rfl (by rw [dy_row]; exact e0) h1 h2 h3 h4 h5 rfl (h' := hpS (sD s ((s.2.2.2.2 ++ [(Sum.inl (0, (p1).toNatClampNeg, .inl (fun _ => 0)) : PC)]).set s.2.2.2.2.length (.inl (0, n1, .inl (va_cpy (s.2.1 36) f2 ((0 : Int32)).toNatClampNeg ((0 : Int32)).toNatClampNeg ((if p1 < (Int32.ofNat 160) then p1 else (Int32.ofNat 160))).toNatClampNeg)))))) (dy_set _ _ _) ?_
    refine Ex.seg hq 1 (j := 21) (L' := [.ref 36, .int p1, .ref (s.2.2.2.2.length + 118)]) (S' := [.ref (s.2.2.2.2.length + 118)]) (h' := hpS (sD s ((s.2.2.2.2 ++ [(Sum.inl (0, (p1).toNatClampNeg, .inl (fun _ => 0)) : PC)]).set s.2.2.2.2.length (.inl (0, n1, .inl (va_cpy (s.2.1 36) f2 ((0 : Int32)).toNatClampNeg ((0 : Int32)).toNatClampNeg ((if p1 < (Int32.ofNat 160) then p1 else (Int32.ofNat 160))).toNatClampNeg)))))) rfl ?_
    exact Ex.rt hq rfl rfl ⟨s.2.2.2.2.length, (sD s ((s.2.2.2.2 ++ [(Sum.inl (0, (p1).toNatClampNeg, .inl (fun _ => 0)) : PC)]).set s.2.2.2.2.length (.inl (0, n1, .inl (va_cpy (s.2.1 36) f2 ((0 : Int32)).toNatClampNeg ((0 : Int32)).toNatClampNeg ((if p1 < (Int32.ofNat 160) then p1 else (Int32.ofNat 160))).toNatClampNeg))))), rfl, rfl, k⟩
  · have k := k.2 c
    refine Ex.seg hq 1 (j := 5) (L' := [.ref 36, .int p1, pu]) (S' := [.ref 36]) (h' := hpS s) rfl ?_
    refine Ex.cln hq rfl rfl rfl ?_
    show Ex sc (d + 1) 305 6 [.ref 36, .int p1, pu] [.ref (s.2.2.2.2.length + 118)] (hpS (sD s (s.2.2.2.2 ++ [(Sum.inl (0, 160, .inl (s.2.1 36)) : PC)]))) _
    obtain ⟨n3, f4, e, k⟩ := k
    refine Ex.cci hq rfl e ?_
    exact Ex.rt hq rfl rfl ⟨s.2.2.2.2.length, (sD s (s.2.2.2.2 ++ [(Sum.inl (0, 160, .inl (s.2.1 36)) : PC)])), rfl, rfl, k⟩
/-- RowAuditor$Parser.enclosed()[I -/
def w_66  (s : ST) (K : Nat → ST → Prop) : Prop := w_83 (40 : Int32) (sI s 3503 (0 : Int32)) (fun s1 => w_69 (1 : Int32) s1 (fun s3 => w_83 (41 : Int32) s3 (fun s5 => w_305_R36 (s5.1 3503) s5 (fun r8 s7 => K r8 s7))))
theorem q_66 {d : Nat} {K : Nat → ST → Prop}  (s : ST) (k : w_66  s K) : Rn sc (d + 64) 66 [.ref 35] (hpS s) (kA K) := by
  have hq : prog[66]? = some pm66 := rfl
  refine Rn.of (L := [.ref 35]) hq rfl rfl ?_
  unfold w_66 at k
  refine Ex.seg hq 5 (j := 5) (L' := [.ref 35]) (S' := [.int (40 : Int32), .ref 35]) (h' := hpS (sI s 3503 (0 : Int32))) rfl ?_
  refine Ex.cl hq rfl rfl ?_
  refine Rn.mono (q_83 (d := d + 62) (40 : Int32) (sI s 3503 (0 : Int32)) k) ?_
  rintro _ _ ⟨s1, rfl, rfl, k⟩
  show Ex sc (d + 64) 66 6 [.ref 35] [] (hpS s1) _
  refine Ex.seg hq 2 (j := 8) (L' := [.ref 35]) (S' := [.int (1 : Int32), .ref 35]) (h' := hpS s1) rfl ?_
  refine Ex.cl hq rfl rfl ?_
  refine Rn.mono (q_69 (d := d + 0) (1 : Int32) s1 k) ?_
  rintro _ _ ⟨s3, rfl, rfl, k⟩
  show Ex sc (d + 64) 66 9 [.ref 35] [] (hpS s3) _
  refine Ex.seg hq 2 (j := 11) (L' := [.ref 35]) (S' := [.int (41 : Int32), .ref 35]) (h' := hpS s3) rfl ?_
  refine Ex.cl hq rfl rfl ?_
  refine Rn.mono (q_83 (d := d + 62) (41 : Int32) s3 k) ?_
  rintro _ _ ⟨s5, rfl, rfl, k⟩
  show Ex sc (d + 64) 66 12 [.ref 35] [] (hpS s5) _
  refine Ex.seg hq 4 (j := 16) (L' := [.ref 35]) (S' := [.int (s5.1 3503), .ref 36]) (h' := hpS s5) rfl ?_
  refine Ex.cl hq rfl rfl ?_
  refine Rn.mono (q_305_R36 (d := d + 62) (s5.1 3503) s5 k) ?_
  rintro _ _ ⟨r8, s7, rfl, rfl, k⟩
  show Ex sc (d + 64) 66 17 [.ref 35] [.ref (r8 + 118)] (hpS s7) _
  exact Ex.rt hq rfl rfl ⟨r8, s7, rfl, rfl, k⟩
/-- RowAuditor$Clause.<init>(I[III)V -/
def w_18 (p0 : Nat) (p1 : Int32) (p2 : Nat) (p3 : Int32) (p4 : Int32) (s : ST) (K : ST → Prop) : Prop := (∃ f1, pob s.2.2.2.2 p0 1 = some f1 ∧ 0 < f1.length ∧ (∃ f2, pob (s.2.2.2.2.set p0 (.inr (1, f1.set 0 (.int p1)))) p0 1 = some f2 ∧ 1 < f2.length ∧ (∃ f3, pob ((s.2.2.2.2.set p0 (.inr (1, f1.set 0 (.int p1)))).set p0 (.inr (1, f2.set 1 (.ref (p2 + 118))))) p0 1 = some f3 ∧ 2 < f3.length ∧ (∃ f4, pob (((s.2.2.2.2.set p0 (.inr (1, f1.set 0 (.int p1)))).set p0 (.inr (1, f2.set 1 (.ref (p2 + 118))))).set p0 (.inr (1, f3.set 2 (.int p3)))) p0 1 = some f4 ∧ 3 < f4.length ∧ K (sD s ((((s.2.2.2.2.set p0 (.inr (1, f1.set 0 (.int p1)))).set p0 (.inr (1, f2.set 1 (.ref (p2 + 118))))).set p0 (.inr (1, f3.set 2 (.int p3)))).set p0 (.inr (1, f4.set 3 (.int p4)))))))))
theorem q_18 {d : Nat} {K : ST → Prop} (p0 : Nat) (p1 : Int32) (p2 : Nat) (p3 : Int32) (p4 : Int32) (s : ST) (k : w_18 p0 p1 p2 p3 p4 s K) : Rn sc (d + 1) 18 [.ref (p0 + 118), .int p1, .ref (p2 + 118), .int p3, .int p4] (hpS s) (kV K) := by
  have hq : prog[18]? = some pm18 := rfl
  refine Rn.of (L := [.ref (p0 + 118), .int p1, .ref (p2 + 118), .int p3, .int p4]) hq rfl rfl ?_
  unfold w_18 at k
  refine Ex.seg hq 4 (j := 4) (L' := [.ref (p0 + 118), .int p1, .ref (p2 + 118), .int p3, .int p4]) (S' := [.int p1, .ref (p0 + 118)]) (h' := hpS s) rfl ?_
  obtain ⟨f1, e, hk, k⟩ := k
  refine Ex.pfd hq rfl e hk rfl ?_
  show Ex sc (d + 1) 18 5 [.ref (p0 + 118), .int p1, .ref (p2 + 118), .int p3, .int p4] [] (hpS (sD s (s.2.2.2.2.set p0 (.inr (1, f1.set 0 (.int p1)))))) _
  refine Ex.seg hq 2 (j := 7) (L' := [.ref (p0 + 118), .int p1, .ref (p2 + 118), .int p3, .int p4]) (S' := [.ref (p2 + 118), .ref (p0 + 118)]) (h' := hpS (sD s (s.2.2.2.2.set p0 (.inr (1, f1.set 0 (.int p1)))))) rfl ?_
  obtain ⟨f2, e, hk, k⟩ := k
  refine Ex.pfd hq rfl e hk rfl ?_
  show Ex sc (d + 1) 18 8 [.ref (p0 + 118), .int p1, .ref (p2 + 118), .int p3, .int p4] [] (hpS (sD s ((s.2.2.2.2.set p0 (.inr (1, f1.set 0 (.int p1)))).set p0 (.inr (1, f2.set 1 (.ref (p2 + 118))))))) _
  refine Ex.seg hq 2 (j := 10) (L' := [.ref (p0 + 118), .int p1, .ref (p2 + 118), .int p3, .int p4]) (S' := [.int p3, .ref (p0 + 118)]) (h' := hpS (sD s ((s.2.2.2.2.set p0 (.inr (1, f1.set 0 (.int p1)))).set p0 (.inr (1, f2.set 1 (.ref (p2 + 118))))))) rfl ?_
  obtain ⟨f3, e, hk, k⟩ := k
  refine Ex.pfd hq rfl e hk rfl ?_
  show Ex sc (d + 1) 18 11 [.ref (p0 + 118), .int p1, .ref (p2 + 118), .int p3, .int p4] [] (hpS (sD s (((s.2.2.2.2.set p0 (.inr (1, f1.set 0 (.int p1)))).set p0 (.inr (1, f2.set 1 (.ref (p2 + 118))))).set p0 (.inr (1, f3.set 2 (.int p3)))))) _
  refine Ex.seg hq 2 (j := 13) (L' := [.ref (p0 + 118), .int p1, .ref (p2 + 118), .int p3, .int p4]) (S' := [.int p4, .ref (p0 + 118)]) (h' := hpS (sD s (((s.2.2.2.2.set p0 (.inr (1, f1.set 0 (.int p1)))).set p0 (.inr (1, f2.set 1 (.ref (p2 + 118))))).set p0 (.inr (1, f3.set 2 (.int p3)))))) rfl ?_
  obtain ⟨f4, e, hk, k⟩ := k
  refine Ex.pfd hq rfl e hk rfl ?_
  show Ex sc (d + 1) 18 14 [.ref (p0 + 118), .int p1, .ref (p2 + 118), .int p3, .int p4] [] (hpS (sD s ((((s.2.2.2.2.set p0 (.inr (1, f1.set 0 (.int p1)))).set p0 (.inr (1, f2.set 1 (.ref (p2 + 118))))).set p0 (.inr (1, f3.set 2 (.int p3)))).set p0 (.inr (1, f4.set 3 (.int p4)))))) _
  exact Ex.rt hq rfl rfl ⟨(sD s ((((s.2.2.2.2.set p0 (.inr (1, f1.set 0 (.int p1)))).set p0 (.inr (1, f2.set 1 (.ref (p2 + 118))))).set p0 (.inr (1, f3.set 2 (.int p3)))).set p0 (.inr (1, f4.set 3 (.int p4))))), rfl, rfl, k⟩
/-- jdk/internal/util/ArraysSupport.newLength(III)I -/
def w_307 (p0 : Int32) (p1 : Int32) (p2 : Int32) (s : ST) (K : Int32 → ST → Prop) : Prop := (((p0 + (if p1 < p2 then p2 else p1)) ≤ (0 : Int32) → False) ∧ (¬ ((p0 + (if p1 < p2 then p2 else p1)) ≤ (0 : Int32)) → (((2147483639 : Int32) < (p0 + (if p1 < p2 then p2 else p1)) → False) ∧ (¬ ((2147483639 : Int32) < (p0 + (if p1 < p2 then p2 else p1))) → K (p0 + (if p1 < p2 then p2 else p1)) s))))
theorem q_307 {d : Nat} {K : Int32 → ST → Prop} (p0 : Int32) (p1 : Int32) (p2 : Int32) (s : ST) (k : w_307 p0 p1 p2 s K) : Rn sc (d + 1) 307 [.int p0, .int p1, .int p2] (hpS s) (kI K) := by
  have hq : prog[307]? = some pm307 := rfl
  refine Rn.of (L := [.int p0, .int p1, .int p2, pu]) hq rfl rfl ?_
  unfold w_307 at k
  refine Ex.seg hq 8 (j := 8) (L' := [.int p0, .int p1, .int p2, .int (p0 + (if p1 < p2 then p2 else p1))]) (S' := [.int (p0 + (if p1 < p2 then p2 else p1)), .int (0 : Int32)]) (h' := hpS s) rfl ?_
  refine Ex.i2 hq rfl (fun c => ?_) (fun c => ?_)
  · have k := k.1 c
    refine Ex.seg hq 2 (j := 16) (L' := [.int p0, .int p1, .int p2, .int (p0 + (if p1 < p2 then p2 else p1))]) (S' := [.int p1, .int p0]) (h' := hpS s) rfl ?_
    exact k.elim
  · have k := k.2 c
    refine Ex.seg hq 2 (j := 11) (L' := [.int p0, .int p1, .int p2, .int (p0 + (if p1 < p2 then p2 else p1))]) (S' := [.int (2147483639 : Int32), .int (p0 + (if p1 < p2 then p2 else p1))]) (h' := hpS s) rfl ?_
    refine Ex.i2 hq rfl (fun c => ?_) (fun c => ?_)
    · have k := k.1 c
      refine Ex.seg hq 2 (j := 16) (L' := [.int p0, .int p1, .int p2, .int (p0 + (if p1 < p2 then p2 else p1))]) (S' := [.int p1, .int p0]) (h' := hpS s) rfl ?_
      exact k.elim
    · have k := k.2 c
      refine Ex.seg hq 1 (j := 13) (L' := [.int p0, .int p1, .int p2, .int (p0 + (if p1 < p2 then p2 else p1))]) (S' := [.int (p0 + (if p1 < p2 then p2 else p1))]) (h' := hpS s) rfl ?_
      exact Ex.rt hq rfl rfl ⟨(p0 + (if p1 < p2 then p2 else p1)), s, rfl, rfl, k⟩
/-- java/util/Arrays.copyOf([Ljava/lang/Object;I)[Ljava/lang/Object; -/
def w_303_F1 (p1 : Int32) (s : ST) (K : Nat → ST → Prop) : Prop := False
theorem q_303_F1 {d : Nat} {K : Nat → ST → Prop} (p1 : Int32) (s : ST) (k : w_303_F1 p1 s K) : Rn sc (d + 0) 303 [.float 1, .int p1] (hpS s) (kA K) := by
  have hq : prog[303]? = some pm303 := rfl
  refine Rn.of (L := [.float 1, .int p1]) hq rfl rfl ?_
  unfold w_303_F1 at k
  refine Ex.seg hq 3 (j := 3) (L' := [.float 1, .int p1]) (S' := [.float 1, .int p1, .float 1]) (h' := hpS s) rfl ?_
  exact k.elim
/-- java/util/Arrays.copyOf([Ljava/lang/Object;ILjava/lang/Class;)[Ljava/lang/Object; -/
def w_304_F4 (p0 : Nat) (p1 : Int32) (s : ST) (K : Nat → ST → Prop) : Prop := (¬ p1 < 0 ∧ (p1).toNatClampNeg ≤ 100000 ∧ (∃ n1 f2, prowR (s.2.2.2.2 ++ [(Sum.inl (4, (p1).toNatClampNeg, .inr (.inr (fun _ => none))) : PC)]) p0 = some (n1, f2) ∧ (∃ (n3 : Nat) (f4 : Nat → Option Nat) (n5 : Nat) (g6 : Nat → Option Nat), prowR (s.2.2.2.2 ++ [(Sum.inl (4, (p1).toNatClampNeg, .inr (.inr (fun _ => none))) : PC)]) p0 = some (n3, f4) ∧ prowR (s.2.2.2.2 ++ [(Sum.inl (4, (p1).toNatClampNeg, .inr (.inr (fun _ => none))) : PC)]) s.2.2.2.2.length = some (n5, g6) ∧ ¬ (0 : Int32) < 0 ∧ ¬ (0 : Int32) < 0 ∧ ¬ (if p1 < (Int32.ofNat n1) then p1 else (Int32.ofNat n1)) < 0 ∧ ((0 : Int32)).toNatClampNeg + ((if p1 < (Int32.ofNat n1) then p1 else (Int32.ofNat n1))).toNatClampNeg ≤ n3 ∧ ((0 : Int32)).toNatClampNeg + ((if p1 < (Int32.ofNat n1) then p1 else (Int32.ofNat n1))).toNatClampNeg ≤ n5 ∧ pels (hpS (sD s (s.2.2.2.2 ++ [(Sum.inl (4, (p1).toNatClampNeg, .inr (.inr (fun _ => none))) : PC)]))) f4 ((0 : Int32)).toNatClampNeg ((if p1 < (Int32.ofNat n1) then p1 else (Int32.ofNat n1))).toNatClampNeg = true ∧ K s.2.2.2.2.length (sD s ((s.2.2.2.2 ++ [(Sum.inl (4, (p1).toNatClampNeg, .inr (.inr (fun _ => none))) : PC)]).set s.2.2.2.2.length (.inl (4, n5, .inr (.inr (va_cpy f4 g6 ((0 : Int32)).toNatClampNeg ((0 : Int32)).toNatClampNeg ((if p1 < (Int32.ofNat n1) then p1 else (Int32.ofNat n1))).toNatClampNeg)))))))))
theorem q_304_F4 {d : Nat} {K : Nat → ST → Prop} (p0 : Nat) (p1 : Int32) (s : ST) (k : w_304_F4 p0 p1 s K) : Rn sc (d + 1) 304 [.ref (p0 + 118), .int p1, .float 4] (hpS s) (kA K) := by
  have hq : prog[304]? = some pm304 := rfl
  refine Rn.of (L := [.ref (p0 + 118), .int p1, .float 4, pu]) hq rfl rfl ?_
  unfold w_304_F4 at k
  refine Ex.seg hq 4 (j := 4) (L' := [.ref (p0 + 118), .int p1, .float 4, pu]) (S' := [.int p1]) (h' := hpS s) rfl ?_
  obtain ⟨h0, h1, k⟩ := k
  refine Ex.anw hq rfl h0 h1 ?_
  show Ex sc (d + 1) 304 5 [.ref (p0 + 118), .int p1, .float 4, pu] [.ref (s.2.2.2.2.length + 118)] (hpS (sD s (s.2.2.2.2 ++ [(Sum.inl (4, (p1).toNatClampNeg, .inr (.inr (fun _ => none))) : PC)]))) _
  refine Ex.seg hq 7 (j := 17) (L' := [.ref (p0 + 118), .int p1, .float 4, .ref (s.2.2.2.2.length + 118)]) (S' := [.ref (p0 + 118), .int (0 : Int32), .ref (s.2.2.2.2.length + 118), .int (0 : Int32), .ref (p0 + 118)]) (h' := hpS (sD s (s.2.2.2.2 ++ [(Sum.inl (4, (p1).toNatClampNeg, .inr (.inr (fun _ => none))) : PC)]))) rfl ?_
  obtain ⟨n1, f2, e, k⟩ := k
  refine Ex.lnR hq rfl e ?_
  refine Ex.seg hq 2 (j := 20) (L' := [.ref (p0 + 118), .int p1, .float 4, .ref (s.2.2.2.2.length + 118)]) (S' := [.int (if p1 < (Int32.ofNat n1) then p1 else (Int32.ofNat n1)), .int (0 : Int32), .ref (s.2.2.2.2.length + 118), .int (0 : Int32), .ref (p0 + 118)]) (h' := hpS (sD s (s.2.2.2.2 ++ [(Sum.inl (4, (p1).toNatClampNeg, .inr (.inr (fun _ => none))) : PC)]))) rfl ?_
  obtain ⟨n3, f4, n5, g6, ea, eb, h1, h2, h3, h4, h5, h7, k⟩ := k
  refine Ex.cpR hq rfl ea eb h1 h2 h3 h4 h5 h7 rfl ?_
  show Ex sc (d + 1) 304 21 [.ref (p0 + 118), .int p1, .float 4, .ref (s.2.2.2.2.length + 118)] [] (hpS (sD s ((s.2.2.2.2 ++ [(Sum.inl (4, (p1).toNatClampNeg, .inr (.inr (fun _ => none))) : PC)]).set s.2.2.2.2.length (.inl (4, n5, .inr (.inr (va_cpy f4 g6 ((0 : Int32)).toNatClampNeg ((0 : Int32)).toNatClampNeg ((if p1 < (Int32.ofNat n1) then p1 else (Int32.ofNat n1))).toNatClampNeg))))))) _
  refine Ex.seg hq 1 (j := 22) (L' := [.ref (p0 + 118), .int p1, .float 4, .ref (s.2.2.2.2.length + 118)]) (S' := [.ref (s.2.2.2.2.length + 118)]) (h' := hpS (sD s ((s.2.2.2.2 ++ [(Sum.inl (4, (p1).toNatClampNeg, .inr (.inr (fun _ => none))) : PC)]).set s.2.2.2.2.length (.inl (4, n5, .inr (.inr (va_cpy f4 g6 ((0 : Int32)).toNatClampNeg ((0 : Int32)).toNatClampNeg ((if p1 < (Int32.ofNat n1) then p1 else (Int32.ofNat n1))).toNatClampNeg))))))) rfl ?_
  exact Ex.rt hq rfl rfl ⟨s.2.2.2.2.length, (sD s ((s.2.2.2.2 ++ [(Sum.inl (4, (p1).toNatClampNeg, .inr (.inr (fun _ => none))) : PC)]).set s.2.2.2.2.length (.inl (4, n5, .inr (.inr (va_cpy f4 g6 ((0 : Int32)).toNatClampNeg ((0 : Int32)).toNatClampNeg ((if p1 < (Int32.ofNat n1) then p1 else (Int32.ofNat n1))).toNatClampNeg)))))), rfl, rfl, k⟩
/-- java/util/Arrays.copyOf([Ljava/lang/Object;I)[Ljava/lang/Object; -/
def w_303 (p0 : Nat) (p1 : Int32) (s : ST) (K : Nat → ST → Prop) : Prop := (∃ n1 f2, prowR s.2.2.2.2 p0 = some (n1, f2) ∧ w_304_F4 p0 p1 s (fun r4 s3 => K r4 s3))
theorem q_303 {d : Nat} {K : Nat → ST → Prop} (p0 : Nat) (p1 : Int32) (s : ST) (k : w_303 p0 p1 s K) : Rn sc (d + 2) 303 [.ref (p0 + 118), .int p1] (hpS s) (kA K) := by
  have hq : prog[303]? = some pm303 := rfl
  refine Rn.of (L := [.ref (p0 + 118), .int p1]) hq rfl rfl ?_
  unfold w_303 at k
  refine Ex.seg hq 3 (j := 3) (L' := [.ref (p0 + 118), .int p1]) (S' := [.ref (p0 + 118), .int p1, .ref (p0 + 118)]) (h' := hpS s) rfl ?_
  obtain ⟨n1, f2, e, k⟩ := k
  refine Ex.gc hq rfl e rfl ?_
  refine Ex.cl hq rfl rfl ?_
  refine Rn.mono (q_304_F4 (d := d + 0) p0 p1 s k) ?_
  rintro _ _ ⟨r4, s3, rfl, rfl, k⟩
  show Ex sc (d + 2) 303 5 [.ref (p0 + 118), .int p1] [.ref (r4 + 118)] (hpS s3) _
  exact Ex.rt hq rfl rfl ⟨r4, s3, rfl, rfl, k⟩
/-- java/util/ArrayList.grow(I)[Ljava/lang/Object; -/
def w_295 (p0 : Nat) (p1 : Int32) (s : ST) (K : Nat → ST → Prop) : Prop := ((pgf s.2.2.2.2 p0 13 1 = some (.float 1) ∧ ((pgf s.2.2.2.2 p0 13 1 = some (.float 1) ∧ (¬ (if (10 : Int32) < p1 then p1 else (10 : Int32)) < 0 ∧ ((if (10 : Int32) < p1 then p1 else (10 : Int32))).toNatClampNeg ≤ 100000 ∧ (∃ f3, pob (s.2.2.2.2 ++ [(Sum.inl (4, ((if (10 : Int32) < p1 then p1 else (10 : Int32))).toNatClampNeg, .inr (.inr (fun _ => none))) : PC)]) p0 13 = some f3 ∧ 1 < f3.length ∧ K s.2.2.2.2.length (sD s ((s.2.2.2.2 ++ [(Sum.inl (4, ((if (10 : Int32) < p1 then p1 else (10 : Int32))).toNatClampNeg, .inr (.inr (fun _ => none))) : PC)]).set p0 (.inr (13, f3.set 1 (.ref (s.2.2.2.2.length + 118))))))))) ∨ (∃ b2, pgf s.2.2.2.2 p0 13 1 = some (.ref (b2 + 118)) ∧ w_307 (0 : Int32) (p1 - (0 : Int32)) ((0 : Int32) >>> ((1 : Int32) &&& 31)) s (fun r5 s4 => ((pgf s4.2.2.2.2 p0 13 1 = some (.float 1) ∧ w_303_F1 r5 s4 (fun r8 s7 => (∃ f9, pob s7.2.2.2.2 p0 13 = some f9 ∧ 1 < f9.length ∧ K r8 (sD s7 (s7.2.2.2.2.set p0 (.inr (13, f9.set 1 (.ref (r8 + 118))))))))) ∨ (∃ b6, pgf s4.2.2.2.2 p0 13 1 = some (.ref (b6 + 118)) ∧ w_303 b6 r5 s4 (fun r11 s10 => (∃ f12, pob s10.2.2.2.2 p0 13 = some f12 ∧ 1 < f12.length ∧ K r11 (sD s10 (s10.2.2.2.2.set p0 (.inr (13, f12.set 1 (.ref (r11 + 118)))))))))))))) ∨ (∃ b1, pgf s.2.2.2.2 p0 13 1 = some (.ref (b1 + 118)) ∧ (∃ n13 f14, prowR s.2.2.2.2 b1 = some (n13, f14) ∧ ((0 < (Int32.ofNat n13) → w_307 (Int32.ofNat n13) (p1 - (Int32.ofNat n13)) ((Int32.ofNat n13) >>> ((1 : Int32) &&& 31)) s (fun r16 s15 => ((pgf s15.2.2.2.2 p0 13 1 = some (.float 1) ∧ w_303_F1 r16 s15 (fun r19 s18 => (∃ f20, pob s18.2.2.2.2 p0 13 = some f20 ∧ 1 < f20.length ∧ K r19 (sD s18 (s18.2.2.2.2.set p0 (.inr (13, f20.set 1 (.ref (r19 + 118))))))))) ∨ (∃ b17, pgf s15.2.2.2.2 p0 13 1 = some (.ref (b17 + 118)) ∧ w_303 b17 r16 s15 (fun r22 s21 => (∃ f23, pob s21.2.2.2.2 p0 13 = some f23 ∧ 1 < f23.length ∧ K r22 (sD s21 (s21.2.2.2.2.set p0 (.inr (13, f23.set 1 (.ref (r22 + 118)))))))))))) ∧ (¬ (0 < (Int32.ofNat n13)) → ((pgf s.2.2.2.2 p0 13 1 = some (.float 1) ∧ (¬ (if (10 : Int32) < p1 then p1 else (10 : Int32)) < 0 ∧ ((if (10 : Int32) < p1 then p1 else (10 : Int32))).toNatClampNeg ≤ 100000 ∧ (∃ f25, pob (s.2.2.2.2 ++ [(Sum.inl (4, ((if (10 : Int32) < p1 then p1 else (10 : Int32))).toNatClampNeg, .inr (.inr (fun _ => none))) : PC)]) p0 13 = some f25 ∧ 1 < f25.length ∧ K s.2.2.2.2.length (sD s ((s.2.2.2.2 ++ [(Sum.inl (4, ((if (10 : Int32) < p1 then p1 else (10 : Int32))).toNatClampNeg, .inr (.inr (fun _ => none))) : PC)]).set p0 (.inr (13, f25.set 1 (.ref (s.2.2.2.2.length + 118))))))))) ∨ (∃ b24, pgf s.2.2.2.2 p0 13 1 = some (.ref (b24 + 118)) ∧ w_307 (Int32.ofNat n13) (p1 - (Int32.ofNat n13)) ((Int32.ofNat n13) >>> ((1 : Int32) &&& 31)) s (fun r27 s26 => ((pgf s26.2.2.2.2 p0 13 1 = some (.float 1) ∧ w_303_F1 r27 s26 (fun r30 s29 => (∃ f31, pob s29.2.2.2.2 p0 13 = some f31 ∧ 1 < f31.length ∧ K r30 (sD s29 (s29.2.2.2.2.set p0 (.inr (13, f31.set 1 (.ref (r30 + 118))))))))) ∨ (∃ b28, pgf s26.2.2.2.2 p0 13 1 = some (.ref (b28 + 118)) ∧ w_303 b28 r27 s26 (fun r33 s32 => (∃ f34, pob s32.2.2.2.2 p0 13 = some f34 ∧ 1 < f34.length ∧ K r33 (sD s32 (s32.2.2.2.2.set p0 (.inr (13, f34.set 1 (.ref (r33 + 118))))))))))))))))))
theorem q_295 {d : Nat} {K : Nat → ST → Prop} (p0 : Nat) (p1 : Int32) (s : ST) (k : w_295 p0 p1 s K) : Rn sc (d + 3) 295 [.ref (p0 + 118), .int p1] (hpS s) (kA K) := by
  have hq : prog[295]? = some pm295 := rfl
  refine Rn.of (L := [.ref (p0 + 118), .int p1, pu, pu]) hq rfl rfl ?_
  unfold w_295 at k
  refine Ex.seg hq 1 (j := 1) (L' := [.ref (p0 + 118), .int p1, pu, pu]) (S' := [.ref (p0 + 118)]) (h' := hpS s) rfl ?_
  rcases k with ⟨e, k⟩ | ⟨b1, e, k⟩
  · refine Ex.gfd hq rfl e ?_
    refine Ex.seg hq 5 (j := 7) (L' := [.ref (p0 + 118), .int p1, .int (0 : Int32), pu]) (S' := [.ref (p0 + 118)]) (h' := hpS s) rfl ?_
    rcases k with ⟨e, k⟩ | ⟨b2, e, k⟩
    · refine Ex.gfd hq rfl e ?_
      refine Ex.seg hq 6 (j := 31) (L' := [.ref (p0 + 118), .int p1, .int (0 : Int32), pu]) (S' := [.int (if (10 : Int32) < p1 then p1 else (10 : Int32)), .ref (p0 + 118)]) (h' := hpS s) rfl ?_
      obtain ⟨h0, h1, k⟩ := k
      refine Ex.anw hq rfl h0 h1 ?_
      show Ex sc (d + 3) 295 32 [.ref (p0 + 118), .int p1, .int (0 : Int32), pu] [.ref (s.2.2.2.2.length + 118), .ref (p0 + 118)] (hpS (sD s (s.2.2.2.2 ++ [(Sum.inl (4, ((if (10 : Int32) < p1 then p1 else (10 : Int32))).toNatClampNeg, .inr (.inr (fun _ => none))) : PC)]))) _
      refine Ex.seg hq 1 (j := 33) (L' := [.ref (p0 + 118), .int p1, .int (0 : Int32), pu]) (S' := [.ref (s.2.2.2.2.length + 118), .ref (p0 + 118), .ref (s.2.2.2.2.length + 118)]) (h' := hpS (sD s (s.2.2.2.2 ++ [(Sum.inl (4, ((if (10 : Int32) < p1 then p1 else (10 : Int32))).toNatClampNeg, .inr (.inr (fun _ => none))) : PC)]))) rfl ?_
      obtain ⟨f3, e, hk, k⟩ := k
      refine Ex.pfd hq rfl e hk rfl ?_
      show Ex sc (d + 3) 295 34 [.ref (p0 + 118), .int p1, .int (0 : Int32), pu] [.ref (s.2.2.2.2.length + 118)] (hpS (sD s ((s.2.2.2.2 ++ [(Sum.inl (4, ((if (10 : Int32) < p1 then p1 else (10 : Int32))).toNatClampNeg, .inr (.inr (fun _ => none))) : PC)]).set p0 (.inr (13, f3.set 1 (.ref (s.2.2.2.2.length + 118))))))) _
      exact Ex.rt hq rfl rfl ⟨s.2.2.2.2.length, (sD s ((s.2.2.2.2 ++ [(Sum.inl (4, ((if (10 : Int32) < p1 then p1 else (10 : Int32))).toNatClampNeg, .inr (.inr (fun _ => none))) : PC)]).set p0 (.inr (13, f3.set 1 (.ref (s.2.2.2.2.length + 118)))))), rfl, rfl, k⟩
    · refine Ex.gfd hq rfl e ?_
      refine Ex.seg hq 9 (j := 17) (L' := [.ref (p0 + 118), .int p1, .int (0 : Int32), pu]) (S' := [.int ((0 : Int32) >>> ((1 : Int32) &&& 31)), .int (p1 - (0 : Int32)), .int (0 : Int32)]) (h' := hpS s) rfl ?_
      refine Ex.cl hq rfl rfl ?_
      refine Rn.mono (q_307 (d := d + 1) (0 : Int32) (p1 - (0 : Int32)) ((0 : Int32) >>> ((1 : Int32) &&& 31)) s k) ?_
      rintro _ _ ⟨r5, s4, rfl, rfl, k⟩
      show Ex sc (d + 3) 295 18 [.ref (p0 + 118), .int p1, .int (0 : Int32), pu] [.int r5] (hpS s4) _
      refine Ex.seg hq 3 (j := 21) (L' := [.ref (p0 + 118), .int p1, .int (0 : Int32), .int r5]) (S' := [.ref (p0 + 118), .ref (p0 + 118)]) (h' := hpS s4) rfl ?_
      rcases k with ⟨e, k⟩ | ⟨b6, e, k⟩
      · refine Ex.gfd hq rfl e ?_
        refine Ex.seg hq 1 (j := 23) (L' := [.ref (p0 + 118), .int p1, .int (0 : Int32), .int r5]) (S' := [.int r5, .float 1, .ref (p0 + 118)]) (h' := hpS s4) rfl ?_
        refine Ex.cl hq rfl rfl ?_
        refine Rn.mono (q_303_F1 (d := d + 2) r5 s4 k) ?_
        rintro _ _ ⟨r8, s7, rfl, rfl, k⟩
        show Ex sc (d + 3) 295 24 [.ref (p0 + 118), .int p1, .int (0 : Int32), .int r5] [.ref (r8 + 118), .ref (p0 + 118)] (hpS s7) _
        refine Ex.seg hq 1 (j := 25) (L' := [.ref (p0 + 118), .int p1, .int (0 : Int32), .int r5]) (S' := [.ref (r8 + 118), .ref (p0 + 118), .ref (r8 + 118)]) (h' := hpS s7) rfl ?_
        obtain ⟨f9, e, hk, k⟩ := k
        refine Ex.pfd hq rfl e hk rfl ?_
        show Ex sc (d + 3) 295 26 [.ref (p0 + 118), .int p1, .int (0 : Int32), .int r5] [.ref (r8 + 118)] (hpS (sD s7 (s7.2.2.2.2.set p0 (.inr (13, f9.set 1 (.ref (r8 + 118))))))) _
        exact Ex.rt hq rfl rfl ⟨r8, (sD s7 (s7.2.2.2.2.set p0 (.inr (13, f9.set 1 (.ref (r8 + 118)))))), rfl, rfl, k⟩
      · refine Ex.gfd hq rfl e ?_
        refine Ex.seg hq 1 (j := 23) (L' := [.ref (p0 + 118), .int p1, .int (0 : Int32), .int r5]) (S' := [.int r5, .ref (b6 + 118), .ref (p0 + 118)]) (h' := hpS s4) rfl ?_
        refine Ex.cl hq rfl rfl ?_
        refine Rn.mono (q_303 (d := d + 0) b6 r5 s4 k) ?_
        rintro _ _ ⟨r11, s10, rfl, rfl, k⟩
        show Ex sc (d + 3) 295 24 [.ref (p0 + 118), .int p1, .int (0 : Int32), .int r5] [.ref (r11 + 118), .ref (p0 + 118)] (hpS s10) _
        refine Ex.seg hq 1 (j := 25) (L' := [.ref (p0 + 118), .int p1, .int (0 : Int32), .int r5]) (S' := [.ref (r11 + 118), .ref (p0 + 118), .ref (r11 + 118)]) (h' := hpS s10) rfl ?_
        obtain ⟨f12, e, hk, k⟩ := k
        refine Ex.pfd hq rfl e hk rfl ?_
        show Ex sc (d + 3) 295 26 [.ref (p0 + 118), .int p1, .int (0 : Int32), .int r5] [.ref (r11 + 118)] (hpS (sD s10 (s10.2.2.2.2.set p0 (.inr (13, f12.set 1 (.ref (r11 + 118))))))) _
        exact Ex.rt hq rfl rfl ⟨r11, (sD s10 (s10.2.2.2.2.set p0 (.inr (13, f12.set 1 (.ref (r11 + 118)))))), rfl, rfl, k⟩
  · refine Ex.gfd hq rfl e ?_
    obtain ⟨n13, f14, e, k⟩ := k
    refine Ex.lnR hq rfl e ?_
    refine Ex.seg hq 2 (j := 5) (L' := [.ref (p0 + 118), .int p1, .int (Int32.ofNat n13), pu]) (S' := [.int (Int32.ofNat n13)]) (h' := hpS s) rfl ?_
    refine Ex.i1 hq rfl (fun c => ?_) (fun c => ?_)
    · have k := k.1 c
      refine Ex.seg hq 7 (j := 17) (L' := [.ref (p0 + 118), .int p1, .int (Int32.ofNat n13), pu]) (S' := [.int ((Int32.ofNat n13) >>> ((1 : Int32) &&& 31)), .int (p1 - (Int32.ofNat n13)), .int (Int32.ofNat n13)]) (h' := hpS s) rfl ?_
      refine Ex.cl hq rfl rfl ?_
      refine Rn.mono (q_307 (d := d + 1) (Int32.ofNat n13) (p1 - (Int32.ofNat n13)) ((Int32.ofNat n13) >>> ((1 : Int32) &&& 31)) s k) ?_
      rintro _ _ ⟨r16, s15, rfl, rfl, k⟩
      show Ex sc (d + 3) 295 18 [.ref (p0 + 118), .int p1, .int (Int32.ofNat n13), pu] [.int r16] (hpS s15) _
      refine Ex.seg hq 3 (j := 21) (L' := [.ref (p0 + 118), .int p1, .int (Int32.ofNat n13), .int r16]) (S' := [.ref (p0 + 118), .ref (p0 + 118)]) (h' := hpS s15) rfl ?_
      rcases k with ⟨e, k⟩ | ⟨b17, e, k⟩
      · refine Ex.gfd hq rfl e ?_
        refine Ex.seg hq 1 (j := 23) (L' := [.ref (p0 + 118), .int p1, .int (Int32.ofNat n13), .int r16]) (S' := [.int r16, .float 1, .ref (p0 + 118)]) (h' := hpS s15) rfl ?_
        refine Ex.cl hq rfl rfl ?_
        refine Rn.mono (q_303_F1 (d := d + 2) r16 s15 k) ?_
        rintro _ _ ⟨r19, s18, rfl, rfl, k⟩
        show Ex sc (d + 3) 295 24 [.ref (p0 + 118), .int p1, .int (Int32.ofNat n13), .int r16] [.ref (r19 + 118), .ref (p0 + 118)] (hpS s18) _
        refine Ex.seg hq 1 (j := 25) (L' := [.ref (p0 + 118), .int p1, .int (Int32.ofNat n13), .int r16]) (S' := [.ref (r19 + 118), .ref (p0 + 118), .ref (r19 + 118)]) (h' := hpS s18) rfl ?_
        obtain ⟨f20, e, hk, k⟩ := k
        refine Ex.pfd hq rfl e hk rfl ?_
        show Ex sc (d + 3) 295 26 [.ref (p0 + 118), .int p1, .int (Int32.ofNat n13), .int r16] [.ref (r19 + 118)] (hpS (sD s18 (s18.2.2.2.2.set p0 (.inr (13, f20.set 1 (.ref (r19 + 118))))))) _
        exact Ex.rt hq rfl rfl ⟨r19, (sD s18 (s18.2.2.2.2.set p0 (.inr (13, f20.set 1 (.ref (r19 + 118)))))), rfl, rfl, k⟩
      · refine Ex.gfd hq rfl e ?_
        refine Ex.seg hq 1 (j := 23) (L' := [.ref (p0 + 118), .int p1, .int (Int32.ofNat n13), .int r16]) (S' := [.int r16, .ref (b17 + 118), .ref (p0 + 118)]) (h' := hpS s15) rfl ?_
        refine Ex.cl hq rfl rfl ?_
        refine Rn.mono (q_303 (d := d + 0) b17 r16 s15 k) ?_
        rintro _ _ ⟨r22, s21, rfl, rfl, k⟩
        show Ex sc (d + 3) 295 24 [.ref (p0 + 118), .int p1, .int (Int32.ofNat n13), .int r16] [.ref (r22 + 118), .ref (p0 + 118)] (hpS s21) _
        refine Ex.seg hq 1 (j := 25) (L' := [.ref (p0 + 118), .int p1, .int (Int32.ofNat n13), .int r16]) (S' := [.ref (r22 + 118), .ref (p0 + 118), .ref (r22 + 118)]) (h' := hpS s21) rfl ?_
        obtain ⟨f23, e, hk, k⟩ := k
        refine Ex.pfd hq rfl e hk rfl ?_
        show Ex sc (d + 3) 295 26 [.ref (p0 + 118), .int p1, .int (Int32.ofNat n13), .int r16] [.ref (r22 + 118)] (hpS (sD s21 (s21.2.2.2.2.set p0 (.inr (13, f23.set 1 (.ref (r22 + 118))))))) _
        exact Ex.rt hq rfl rfl ⟨r22, (sD s21 (s21.2.2.2.2.set p0 (.inr (13, f23.set 1 (.ref (r22 + 118)))))), rfl, rfl, k⟩
    · have k := k.2 c
      refine Ex.seg hq 1 (j := 7) (L' := [.ref (p0 + 118), .int p1, .int (Int32.ofNat n13), pu]) (S' := [.ref (p0 + 118)]) (h' := hpS s) rfl ?_
      rcases k with ⟨e, k⟩ | ⟨b24, e, k⟩
      · refine Ex.gfd hq rfl e ?_
        refine Ex.seg hq 6 (j := 31) (L' := [.ref (p0 + 118), .int p1, .int (Int32.ofNat n13), pu]) (S' := [.int (if (10 : Int32) < p1 then p1 else (10 : Int32)), .ref (p0 + 118)]) (h' := hpS s) rfl ?_
        obtain ⟨h0, h1, k⟩ := k
        refine Ex.anw hq rfl h0 h1 ?_
        show Ex sc (d + 3) 295 32 [.ref (p0 + 118), .int p1, .int (Int32.ofNat n13), pu] [.ref (s.2.2.2.2.length + 118), .ref (p0 + 118)] (hpS (sD s (s.2.2.2.2 ++ [(Sum.inl (4, ((if (10 : Int32) < p1 then p1 else (10 : Int32))).toNatClampNeg, .inr (.inr (fun _ => none))) : PC)]))) _
        refine Ex.seg hq 1 (j := 33) (L' := [.ref (p0 + 118), .int p1, .int (Int32.ofNat n13), pu]) (S' := [.ref (s.2.2.2.2.length + 118), .ref (p0 + 118), .ref (s.2.2.2.2.length + 118)]) (h' := hpS (sD s (s.2.2.2.2 ++ [(Sum.inl (4, ((if (10 : Int32) < p1 then p1 else (10 : Int32))).toNatClampNeg, .inr (.inr (fun _ => none))) : PC)]))) rfl ?_
        obtain ⟨f25, e, hk, k⟩ := k
        refine Ex.pfd hq rfl e hk rfl ?_
        show Ex sc (d + 3) 295 34 [.ref (p0 + 118), .int p1, .int (Int32.ofNat n13), pu] [.ref (s.2.2.2.2.length + 118)] (hpS (sD s ((s.2.2.2.2 ++ [(Sum.inl (4, ((if (10 : Int32) < p1 then p1 else (10 : Int32))).toNatClampNeg, .inr (.inr (fun _ => none))) : PC)]).set p0 (.inr (13, f25.set 1 (.ref (s.2.2.2.2.length + 118))))))) _
        exact Ex.rt hq rfl rfl ⟨s.2.2.2.2.length, (sD s ((s.2.2.2.2 ++ [(Sum.inl (4, ((if (10 : Int32) < p1 then p1 else (10 : Int32))).toNatClampNeg, .inr (.inr (fun _ => none))) : PC)]).set p0 (.inr (13, f25.set 1 (.ref (s.2.2.2.2.length + 118)))))), rfl, rfl, k⟩
      · refine Ex.gfd hq rfl e ?_
        refine Ex.seg hq 9 (j := 17) (L' := [.ref (p0 + 118), .int p1, .int (Int32.ofNat n13), pu]) (S' := [.int ((Int32.ofNat n13) >>> ((1 : Int32) &&& 31)), .int (p1 - (Int32.ofNat n13)), .int (Int32.ofNat n13)]) (h' := hpS s) rfl ?_
        refine Ex.cl hq rfl rfl ?_
        refine Rn.mono (q_307 (d := d + 1) (Int32.ofNat n13) (p1 - (Int32.ofNat n13)) ((Int32.ofNat n13) >>> ((1 : Int32) &&& 31)) s k) ?_
        rintro _ _ ⟨r27, s26, rfl, rfl, k⟩
        show Ex sc (d + 3) 295 18 [.ref (p0 + 118), .int p1, .int (Int32.ofNat n13), pu] [.int r27] (hpS s26) _
        refine Ex.seg hq 3 (j := 21) (L' := [.ref (p0 + 118), .int p1, .int (Int32.ofNat n13), .int r27]) (S' := [.ref (p0 + 118), .ref (p0 + 118)]) (h' := hpS s26) rfl ?_
        rcases k with ⟨e, k⟩ | ⟨b28, e, k⟩
        · refine Ex.gfd hq rfl e ?_
          refine Ex.seg hq 1 (j := 23) (L' := [.ref (p0 + 118), .int p1, .int (Int32.ofNat n13), .int r27]) (S' := [.int r27, .float 1, .ref (p0 + 118)]) (h' := hpS s26) rfl ?_
          refine Ex.cl hq rfl rfl ?_
          refine Rn.mono (q_303_F1 (d := d + 2) r27 s26 k) ?_
          rintro _ _ ⟨r30, s29, rfl, rfl, k⟩
          show Ex sc (d + 3) 295 24 [.ref (p0 + 118), .int p1, .int (Int32.ofNat n13), .int r27] [.ref (r30 + 118), .ref (p0 + 118)] (hpS s29) _
          refine Ex.seg hq 1 (j := 25) (L' := [.ref (p0 + 118), .int p1, .int (Int32.ofNat n13), .int r27]) (S' := [.ref (r30 + 118), .ref (p0 + 118), .ref (r30 + 118)]) (h' := hpS s29) rfl ?_
          obtain ⟨f31, e, hk, k⟩ := k
          refine Ex.pfd hq rfl e hk rfl ?_
          show Ex sc (d + 3) 295 26 [.ref (p0 + 118), .int p1, .int (Int32.ofNat n13), .int r27] [.ref (r30 + 118)] (hpS (sD s29 (s29.2.2.2.2.set p0 (.inr (13, f31.set 1 (.ref (r30 + 118))))))) _
          exact Ex.rt hq rfl rfl ⟨r30, (sD s29 (s29.2.2.2.2.set p0 (.inr (13, f31.set 1 (.ref (r30 + 118)))))), rfl, rfl, k⟩
        · refine Ex.gfd hq rfl e ?_
          refine Ex.seg hq 1 (j := 23) (L' := [.ref (p0 + 118), .int p1, .int (Int32.ofNat n13), .int r27]) (S' := [.int r27, .ref (b28 + 118), .ref (p0 + 118)]) (h' := hpS s26) rfl ?_
          refine Ex.cl hq rfl rfl ?_
          refine Rn.mono (q_303 (d := d + 0) b28 r27 s26 k) ?_
          rintro _ _ ⟨r33, s32, rfl, rfl, k⟩
          show Ex sc (d + 3) 295 24 [.ref (p0 + 118), .int p1, .int (Int32.ofNat n13), .int r27] [.ref (r33 + 118), .ref (p0 + 118)] (hpS s32) _
          refine Ex.seg hq 1 (j := 25) (L' := [.ref (p0 + 118), .int p1, .int (Int32.ofNat n13), .int r27]) (S' := [.ref (r33 + 118), .ref (p0 + 118), .ref (r33 + 118)]) (h' := hpS s32) rfl ?_
          obtain ⟨f34, e, hk, k⟩ := k
          refine Ex.pfd hq rfl e hk rfl ?_
          show Ex sc (d + 3) 295 26 [.ref (p0 + 118), .int p1, .int (Int32.ofNat n13), .int r27] [.ref (r33 + 118)] (hpS (sD s32 (s32.2.2.2.2.set p0 (.inr (13, f34.set 1 (.ref (r33 + 118))))))) _
          exact Ex.rt hq rfl rfl ⟨r33, (sD s32 (s32.2.2.2.2.set p0 (.inr (13, f34.set 1 (.ref (r33 + 118)))))), rfl, rfl, k⟩
/-- java/util/ArrayList.grow()[Ljava/lang/Object; -/
def w_296 (p0 : Nat) (s : ST) (K : Nat → ST → Prop) : Prop := (∃ v1, pgf s.2.2.2.2 p0 13 2 = some (.int v1) ∧ (∃ f4, pob s.2.2.2.2 p0 13 = some f4 ∧ w_295 p0 (v1 + (1 : Int32)) s (fun r3 s2 => K r3 s2)))
theorem q_296 {d : Nat} {K : Nat → ST → Prop} (p0 : Nat) (s : ST) (k : w_296 p0 s K) : Rn sc (d + 4) 296 [.ref (p0 + 118)] (hpS s) (kA K) := by
  have hq : prog[296]? = some pm296 := rfl
  refine Rn.of (L := [.ref (p0 + 118)]) hq rfl rfl ?_
  unfold w_296 at k
  refine Ex.seg hq 2 (j := 2) (L' := [.ref (p0 + 118)]) (S' := [.ref (p0 + 118), .ref (p0 + 118)]) (h' := hpS s) rfl ?_
  obtain ⟨v1, e, k⟩ := k
  refine Ex.gfd hq rfl e ?_
  refine Ex.seg hq 2 (j := 5) (L' := [.ref (p0 + 118)]) (S' := [.int (v1 + (1 : Int32)), .ref (p0 + 118)]) (h' := hpS s) rfl ?_
  obtain ⟨f4, e, k⟩ := k
  refine Ex.cvd hq rfl rfl e rfl ?_
  refine Rn.mono (q_295 (d := d + 0) p0 (v1 + (1 : Int32)) s k) ?_
  rintro _ _ ⟨r3, s2, rfl, rfl, k⟩
  show Ex sc (d + 4) 296 6 [.ref (p0 + 118)] [.ref (r3 + 118)] (hpS s2) _
  exact Ex.rt hq rfl rfl ⟨r3, s2, rfl, rfl, k⟩
/-- java/util/ArrayList.add(Ljava/lang/Object;[Ljava/lang/Object;I)V -/
def w_300_F1 (p0 : Nat) (p1 : Nat) (p3 : Int32) (s : ST) (K : ST → Prop) : Prop := ((¬ p3 = (0 : Int32) → False) ∧ (¬ (¬ p3 = (0 : Int32)) → (∃ f3, pob s.2.2.2.2 p0 13 = some f3 ∧ w_296 p0 s (fun r2 s1 => (∃ (n4 : Nat) (f5 : Nat → Option Nat) (o6 : Nat × List Value), prowR s1.2.2.2.2 r2 = some (n4, f5) ∧ pin p3 n4 = true ∧ s1.2.2.2.2[p1]? = some (.inr o6) ∧ (∃ f7, pob (s1.2.2.2.2.set r2 (.inl (4, n4, .inr (.inr (va_up f5 (p3).toNatClampNeg (some (p1 + 118))))))) p0 13 = some f7 ∧ 2 < f7.length ∧ K (sD s1 ((s1.2.2.2.2.set r2 (.inl (4, n4, .inr (.inr (va_up f5 (p3).toNatClampNeg (some (p1 + 118))))))).set p0 (.inr (13, f7.set 2 (.int (p3 + (1 : Int32)))))))))))))
theorem q_300_F1 {d : Nat} {K : ST → Prop} (p0 : Nat) (p1 : Nat) (p3 : Int32) (s : ST) (k : w_300_F1 p0 p1 p3 s K) : Rn sc (d + 5) 300 [.ref (p0 + 118), .ref (p1 + 118), .float 1, .int p3] (hpS s) (kV K) := by
  have hq : prog[300]? = some pm300 := rfl
  refine Rn.of (L := [.ref (p0 + 118), .ref (p1 + 118), .float 1, .int p3]) hq rfl rfl ?_
  unfold w_300_F1 at k
  refine Ex.seg hq 3 (j := 3) (L' := [.ref (p0 + 118), .ref (p1 + 118), .float 1, .int p3]) (S' := [.int (0 : Int32), .int p3]) (h' := hpS s) rfl ?_
  refine Ex.i2 hq rfl (fun c => ?_) (fun c => ?_)
  · have k := k.1 c
    refine Ex.seg hq 3 (j := 10) (L' := [.ref (p0 + 118), .ref (p1 + 118), .float 1, .int p3]) (S' := [.ref (p1 + 118), .int p3, .float 1]) (h' := hpS s) rfl ?_
    exact k.elim
  · have k := k.2 c
    refine Ex.seg hq 1 (j := 5) (L' := [.ref (p0 + 118), .ref (p1 + 118), .float 1, .int p3]) (S' := [.ref (p0 + 118)]) (h' := hpS s) rfl ?_
    obtain ⟨f3, e, k⟩ := k
    refine Ex.cvd hq rfl rfl e rfl ?_
    refine Rn.mono (q_296 (d := d + 0) p0 s k) ?_
    rintro _ _ ⟨r2, s1, rfl, rfl, k⟩
    show Ex sc (d + 5) 300 6 [.ref (p0 + 118), .ref (p1 + 118), .float 1, .int p3] [.ref (r2 + 118)] (hpS s1) _
    refine Ex.seg hq 4 (j := 10) (L' := [.ref (p0 + 118), .ref (p1 + 118), .ref (r2 + 118), .int p3]) (S' := [.ref (p1 + 118), .int p3, .ref (r2 + 118)]) (h' := hpS s1) rfl ?_
    obtain ⟨n4, f5, o6, e, hin, hy, k⟩ := k
    refine Ex.asd hq rfl e hin hy ?_
    show Ex sc (d + 5) 300 11 [.ref (p0 + 118), .ref (p1 + 118), .ref (r2 + 118), .int p3] [] (hpS (sD s1 (s1.2.2.2.2.set r2 (.inl (4, n4, .inr (.inr (va_up f5 (p3).toNatClampNeg (some (p1 + 118))))))))) _
    refine Ex.seg hq 4 (j := 15) (L' := [.ref (p0 + 118), .ref (p1 + 118), .ref (r2 + 118), .int p3]) (S' := [.int (p3 + (1 : Int32)), .ref (p0 + 118)]) (h' := hpS (sD s1 (s1.2.2.2.2.set r2 (.inl (4, n4, .inr (.inr (va_up f5 (p3).toNatClampNeg (some (p1 + 118))))))))) rfl ?_
    obtain ⟨f7, e, hk, k⟩ := k
    refine Ex.pfd hq rfl e hk rfl ?_
    show Ex sc (d + 5) 300 16 [.ref (p0 + 118), .ref (p1 + 118), .ref (r2 + 118), .int p3] [] (hpS (sD s1 ((s1.2.2.2.2.set r2 (.inl (4, n4, .inr (.inr (va_up f5 (p3).toNatClampNeg (some (p1 + 118))))))).set p0 (.inr (13, f7.set 2 (.int (p3 + (1 : Int32)))))))) _
    exact Ex.rt hq rfl rfl ⟨(sD s1 ((s1.2.2.2.2.set r2 (.inl (4, n4, .inr (.inr (va_up f5 (p3).toNatClampNeg (some (p1 + 118))))))).set p0 (.inr (13, f7.set 2 (.int (p3 + (1 : Int32))))))), rfl, rfl, k⟩
/-- java/util/ArrayList.add(Ljava/lang/Object;[Ljava/lang/Object;I)V -/
def w_300 (p0 : Nat) (p1 : Nat) (p2 : Nat) (p3 : Int32) (s : ST) (K : ST → Prop) : Prop := (∃ n1 f2, prowR s.2.2.2.2 p2 = some (n1, f2) ∧ ((¬ p3 = (Int32.ofNat n1) → (∃ (n3 : Nat) (f4 : Nat → Option Nat) (o5 : Nat × List Value), prowR s.2.2.2.2 p2 = some (n3, f4) ∧ pin p3 n3 = true ∧ s.2.2.2.2[p1]? = some (.inr o5) ∧ (∃ f6, pob (s.2.2.2.2.set p2 (.inl (4, n3, .inr (.inr (va_up f4 (p3).toNatClampNeg (some (p1 + 118))))))) p0 13 = some f6 ∧ 2 < f6.length ∧ K (sD s ((s.2.2.2.2.set p2 (.inl (4, n3, .inr (.inr (va_up f4 (p3).toNatClampNeg (some (p1 + 118))))))).set p0 (.inr (13, f6.set 2 (.int (p3 + (1 : Int32)))))))))) ∧ (¬ (¬ p3 = (Int32.ofNat n1)) → (∃ f9, pob s.2.2.2.2 p0 13 = some f9 ∧ w_296 p0 s (fun r8 s7 => (∃ (n10 : Nat) (f11 : Nat → Option Nat) (o12 : Nat × List Value), prowR s7.2.2.2.2 r8 = some (n10, f11) ∧ pin p3 n10 = true ∧ s7.2.2.2.2[p1]? = some (.inr o12) ∧ (∃ f13, pob (s7.2.2.2.2.set r8 (.inl (4, n10, .inr (.inr (va_up f11 (p3).toNatClampNeg (some (p1 + 118))))))) p0 13 = some f13 ∧ 2 < f13.length ∧ K (sD s7 ((s7.2.2.2.2.set r8 (.inl (4, n10, .inr (.inr (va_up f11 (p3).toNatClampNeg (some (p1 + 118))))))).set p0 (.inr (13, f13.set 2 (.int (p3 + (1 : Int32))))))))))))))
theorem q_300 {d : Nat} {K : ST → Prop} (p0 : Nat) (p1 : Nat) (p2 : Nat) (p3 : Int32) (s : ST) (k : w_300 p0 p1 p2 p3 s K) : Rn sc (d + 5) 300 [.ref (p0 + 118), .ref (p1 + 118), .ref (p2 + 118), .int p3] (hpS s) (kV K) := by
  have hq : prog[300]? = some pm300 := rfl
  refine Rn.of (L := [.ref (p0 + 118), .ref (p1 + 118), .ref (p2 + 118), .int p3]) hq rfl rfl ?_
  unfold w_300 at k
  refine Ex.seg hq 2 (j := 2) (L' := [.ref (p0 + 118), .ref (p1 + 118), .ref (p2 + 118), .int p3]) (S' := [.ref (p2 + 118), .int p3]) (h' := hpS s) rfl ?_
  obtain ⟨n1, f2, e, k⟩ := k
  refine Ex.lnR hq rfl e ?_
  refine Ex.i2 hq rfl (fun c => ?_) (fun c => ?_)
  · have k := k.1 c
    refine Ex.seg hq 3 (j := 10) (L' := [.ref (p0 + 118), .ref (p1 + 118), .ref (p2 + 118), .int p3]) (S' := [.ref (p1 + 118), .int p3, .ref (p2 + 118)]) (h' := hpS s) rfl ?_
    obtain ⟨n3, f4, o5, e, hin, hy, k⟩ := k
    refine Ex.asd hq rfl e hin hy ?_
    show Ex sc (d + 5) 300 11 [.ref (p0 + 118), .ref (p1 + 118), .ref (p2 + 118), .int p3] [] (hpS (sD s (s.2.2.2.2.set p2 (.inl (4, n3, .inr (.inr (va_up f4 (p3).toNatClampNeg (some (p1 + 118))))))))) _
    refine Ex.seg hq 4 (j := 15) (L' := [.ref (p0 + 118), .ref (p1 + 118), .ref (p2 + 118), .int p3]) (S' := [.int (p3 + (1 : Int32)), .ref (p0 + 118)]) (h' := hpS (sD s (s.2.2.2.2.set p2 (.inl (4, n3, .inr (.inr (va_up f4 (p3).toNatClampNeg (some (p1 + 118))))))))) rfl ?_
    obtain ⟨f6, e, hk, k⟩ := k
    refine Ex.pfd hq rfl e hk rfl ?_
    show Ex sc (d + 5) 300 16 [.ref (p0 + 118), .ref (p1 + 118), .ref (p2 + 118), .int p3] [] (hpS (sD s ((s.2.2.2.2.set p2 (.inl (4, n3, .inr (.inr (va_up f4 (p3).toNatClampNeg (some (p1 + 118))))))).set p0 (.inr (13, f6.set 2 (.int (p3 + (1 : Int32)))))))) _
    exact Ex.rt hq rfl rfl ⟨(sD s ((s.2.2.2.2.set p2 (.inl (4, n3, .inr (.inr (va_up f4 (p3).toNatClampNeg (some (p1 + 118))))))).set p0 (.inr (13, f6.set 2 (.int (p3 + (1 : Int32))))))), rfl, rfl, k⟩
  · have k := k.2 c
    refine Ex.seg hq 1 (j := 5) (L' := [.ref (p0 + 118), .ref (p1 + 118), .ref (p2 + 118), .int p3]) (S' := [.ref (p0 + 118)]) (h' := hpS s) rfl ?_
    obtain ⟨f9, e, k⟩ := k
    refine Ex.cvd hq rfl rfl e rfl ?_
    refine Rn.mono (q_296 (d := d + 0) p0 s k) ?_
    rintro _ _ ⟨r8, s7, rfl, rfl, k⟩
    show Ex sc (d + 5) 300 6 [.ref (p0 + 118), .ref (p1 + 118), .ref (p2 + 118), .int p3] [.ref (r8 + 118)] (hpS s7) _
    refine Ex.seg hq 4 (j := 10) (L' := [.ref (p0 + 118), .ref (p1 + 118), .ref (r8 + 118), .int p3]) (S' := [.ref (p1 + 118), .int p3, .ref (r8 + 118)]) (h' := hpS s7) rfl ?_
    obtain ⟨n10, f11, o12, e, hin, hy, k⟩ := k
    refine Ex.asd hq rfl e hin hy ?_
    show Ex sc (d + 5) 300 11 [.ref (p0 + 118), .ref (p1 + 118), .ref (r8 + 118), .int p3] [] (hpS (sD s7 (s7.2.2.2.2.set r8 (.inl (4, n10, .inr (.inr (va_up f11 (p3).toNatClampNeg (some (p1 + 118))))))))) _
    refine Ex.seg hq 4 (j := 15) (L' := [.ref (p0 + 118), .ref (p1 + 118), .ref (r8 + 118), .int p3]) (S' := [.int (p3 + (1 : Int32)), .ref (p0 + 118)]) (h' := hpS (sD s7 (s7.2.2.2.2.set r8 (.inl (4, n10, .inr (.inr (va_up f11 (p3).toNatClampNeg (some (p1 + 118))))))))) rfl ?_
    obtain ⟨f13, e, hk, k⟩ := k
    refine Ex.pfd hq rfl e hk rfl ?_
    show Ex sc (d + 5) 300 16 [.ref (p0 + 118), .ref (p1 + 118), .ref (r8 + 118), .int p3] [] (hpS (sD s7 ((s7.2.2.2.2.set r8 (.inl (4, n10, .inr (.inr (va_up f11 (p3).toNatClampNeg (some (p1 + 118))))))).set p0 (.inr (13, f13.set 2 (.int (p3 + (1 : Int32)))))))) _
    exact Ex.rt hq rfl rfl ⟨(sD s7 ((s7.2.2.2.2.set r8 (.inl (4, n10, .inr (.inr (va_up f11 (p3).toNatClampNeg (some (p1 + 118))))))).set p0 (.inr (13, f13.set 2 (.int (p3 + (1 : Int32))))))), rfl, rfl, k⟩
/-- java/util/ArrayList.add(Ljava/lang/Object;)Z -/
def w_301 (p0 : Nat) (p1 : Nat) (s : ST) (K : Int32 → ST → Prop) : Prop := (∃ v1, pgf s.2.2.2.2 p0 13 0 = some (.int v1) ∧ (∃ f2, pob s.2.2.2.2 p0 13 = some f2 ∧ 0 < f2.length ∧ ((pgf (s.2.2.2.2.set p0 (.inr (13, f2.set 0 (.int (v1 + (1 : Int32)))))) p0 13 1 = some (.float 1) ∧ (∃ v4, pgf (s.2.2.2.2.set p0 (.inr (13, f2.set 0 (.int (v1 + (1 : Int32)))))) p0 13 2 = some (.int v4) ∧ (∃ f7, pob (s.2.2.2.2.set p0 (.inr (13, f2.set 0 (.int (v1 + (1 : Int32)))))) p0 13 = some f7 ∧ w_300_F1 p0 p1 v4 (sD s (s.2.2.2.2.set p0 (.inr (13, f2.set 0 (.int (v1 + (1 : Int32))))))) (fun s5 => K (1 : Int32) s5)))) ∨ (∃ b3, pgf (s.2.2.2.2.set p0 (.inr (13, f2.set 0 (.int (v1 + (1 : Int32)))))) p0 13 1 = some (.ref (b3 + 118)) ∧ (∃ v8, pgf (s.2.2.2.2.set p0 (.inr (13, f2.set 0 (.int (v1 + (1 : Int32)))))) p0 13 2 = some (.int v8) ∧ (∃ f11, pob (s.2.2.2.2.set p0 (.inr (13, f2.set 0 (.int (v1 + (1 : Int32)))))) p0 13 = some f11 ∧ w_300 p0 p1 b3 v8 (sD s (s.2.2.2.2.set p0 (.inr (13, f2.set 0 (.int (v1 + (1 : Int32))))))) (fun s9 => K (1 : Int32) s9)))))))
theorem q_301 {d : Nat} {K : Int32 → ST → Prop} (p0 : Nat) (p1 : Nat) (s : ST) (k : w_301 p0 p1 s K) : Rn sc (d + 6) 301 [.ref (p0 + 118), .ref (p1 + 118)] (hpS s) (kZ K) := by
  have hq : prog[301]? = some pm301 := rfl
  refine Rn.of (L := [.ref (p0 + 118), .ref (p1 + 118)]) hq rfl rfl ?_
  unfold w_301 at k
  refine Ex.seg hq 2 (j := 2) (L' := [.ref (p0 + 118), .ref (p1 + 118)]) (S' := [.ref (p0 + 118), .ref (p0 + 118)]) (h' := hpS s) rfl ?_
  obtain ⟨v1, e, k⟩ := k
  refine Ex.gfd2 hq rfl e ?_
  refine Ex.seg hq 2 (j := 5) (L' := [.ref (p0 + 118), .ref (p1 + 118)]) (S' := [.int (v1 + (1 : Int32)), .ref (p0 + 118)]) (h' := hpS s) rfl ?_
  obtain ⟨f2, e, hk, k⟩ := k
  refine Ex.pfd hq rfl e hk rfl ?_
  show Ex sc (d + 6) 301 6 [.ref (p0 + 118), .ref (p1 + 118)] [] (hpS (sD s (s.2.2.2.2.set p0 (.inr (13, f2.set 0 (.int (v1 + (1 : Int32)))))))) _
  refine Ex.seg hq 3 (j := 9) (L' := [.ref (p0 + 118), .ref (p1 + 118)]) (S' := [.ref (p0 + 118), .ref (p1 + 118), .ref (p0 + 118)]) (h' := hpS (sD s (s.2.2.2.2.set p0 (.inr (13, f2.set 0 (.int (v1 + (1 : Int32)))))))) rfl ?_
  rcases k with ⟨e, k⟩ | ⟨b3, e, k⟩
  · refine Ex.gfd hq rfl e ?_
    refine Ex.seg hq 1 (j := 11) (L' := [.ref (p0 + 118), .ref (p1 + 118)]) (S' := [.ref (p0 + 118), .float 1, .ref (p1 + 118), .ref (p0 + 118)]) (h' := hpS (sD s (s.2.2.2.2.set p0 (.inr (13, f2.set 0 (.int (v1 + (1 : Int32)))))))) rfl ?_
    obtain ⟨v4, e, k⟩ := k
    refine Ex.gfd hq rfl e ?_
    obtain ⟨f7, e, k⟩ := k
    refine Ex.cvd hq rfl rfl e rfl ?_
    refine Rn.mono (q_300_F1 (d := d + 0) p0 p1 v4 (sD s (s.2.2.2.2.set p0 (.inr (13, f2.set 0 (.int (v1 + (1 : Int32))))))) k) ?_
    rintro _ _ ⟨s5, rfl, rfl, k⟩
    show Ex sc (d + 6) 301 13 [.ref (p0 + 118), .ref (p1 + 118)] [] (hpS s5) _
    refine Ex.seg hq 1 (j := 14) (L' := [.ref (p0 + 118), .ref (p1 + 118)]) (S' := [.int (1 : Int32)]) (h' := hpS s5) rfl ?_
    exact Ex.zr hq rfl rfl (Or.inr rfl) ⟨(1 : Int32), s5, rfl, (Or.inr rfl), rfl, k⟩
  · refine Ex.gfd hq rfl e ?_
    refine Ex.seg hq 1 (j := 11) (L' := [.ref (p0 + 118), .ref (p1 + 118)]) (S' := [.ref (p0 + 118), .ref (b3 + 118), .ref (p1 + 118), .ref (p0 + 118)]) (h' := hpS (sD s (s.2.2.2.2.set p0 (.inr (13, f2.set 0 (.int (v1 + (1 : Int32)))))))) rfl ?_
    obtain ⟨v8, e, k⟩ := k
    refine Ex.gfd hq rfl e ?_
    obtain ⟨f11, e, k⟩ := k
    refine Ex.cvd hq rfl rfl e rfl ?_
    refine Rn.mono (q_300 (d := d + 0) p0 p1 b3 v8 (sD s (s.2.2.2.2.set p0 (.inr (13, f2.set 0 (.int (v1 + (1 : Int32))))))) k) ?_
    rintro _ _ ⟨s9, rfl, rfl, k⟩
    show Ex sc (d + 6) 301 13 [.ref (p0 + 118), .ref (p1 + 118)] [] (hpS s9) _
    refine Ex.seg hq 1 (j := 14) (L' := [.ref (p0 + 118), .ref (p1 + 118)]) (S' := [.int (1 : Int32)]) (h' := hpS s9) rfl ?_
    exact Ex.zr hq rfl rfl (Or.inr rfl) ⟨(1 : Int32), s9, rfl, (Or.inr rfl), rfl, k⟩
/-- RowAuditor$Parser.numberUpTo(I)I -/
def w_78 (p1 : Int32) (s : ST) (K : Int32 → ST → Prop) : Prop := w_77 s (fun r2 s1 => ((r2 ≤ p1 → K r2 s1) ∧ (¬ (r2 ≤ p1) → w_85 (3 : Int32) (s.1 3504) s1 (fun s3 => K r2 s3))))
theorem q_78 {d : Nat} {K : Int32 → ST → Prop} (p1 : Int32) (s : ST) (k : w_78 p1 s K) : Rn sc (d + 2) 78 [.ref 35, .int p1] (hpS s) (kI K) := by
  have hq : prog[78]? = some pm78 := rfl
  refine Rn.of (L := [.ref 35, .int p1, pu, pu]) hq rfl rfl ?_
  unfold w_78 at k
  refine Ex.seg hq 4 (j := 4) (L' := [.ref 35, .int p1, .int (s.1 3504), pu]) (S' := [.ref 35]) (h' := hpS s) rfl ?_
  refine Ex.cl hq rfl rfl ?_
  refine Rn.mono (q_77 (d := d + 0) s k) ?_
  rintro _ _ ⟨r2, s1, rfl, rfl, k⟩
  show Ex sc (d + 2) 78 5 [.ref 35, .int p1, .int (s.1 3504), pu] [.int r2] (hpS s1) _
  refine Ex.seg hq 3 (j := 8) (L' := [.ref 35, .int p1, .int (s.1 3504), .int r2]) (S' := [.int p1, .int r2]) (h' := hpS s1) rfl ?_
  refine Ex.i2 hq rfl (fun c => ?_) (fun c => ?_)
  · have k := k.1 c
    refine Ex.seg hq 1 (j := 14) (L' := [.ref 35, .int p1, .int (s.1 3504), .int r2]) (S' := [.int r2]) (h' := hpS s1) rfl ?_
    exact Ex.rt hq rfl rfl ⟨r2, s1, rfl, rfl, k⟩
  · have k := k.2 c
    refine Ex.seg hq 3 (j := 12) (L' := [.ref 35, .int p1, .int (s.1 3504), .int r2]) (S' := [.int (s.1 3504), .int (3 : Int32), .ref 35]) (h' := hpS s1) rfl ?_
    refine Ex.cl hq rfl rfl ?_
    refine Rn.mono (q_85 (d := d + 1) (3 : Int32) (s.1 3504) s1 k) ?_
    rintro _ _ ⟨s3, rfl, rfl, k⟩
    show Ex sc (d + 2) 78 13 [.ref 35, .int p1, .int (s.1 3504), .int r2] [] (hpS s3) _
    refine Ex.seg hq 1 (j := 14) (L' := [.ref 35, .int p1, .int (s.1 3504), .int r2]) (S' := [.int r2]) (h' := hpS s3) rfl ?_
    exact Ex.rt hq rfl rfl ⟨r2, s3, rfl, rfl, k⟩
/-- RowAuditor$Parser.striking()LRowAuditor$Clause; -/
def w_65  (s : ST) (K : Nat → ST → Prop) : Prop := w_83 (120 : Int32) s (fun s1 => w_78 (19 : Int32) s1 (fun r4 s3 => w_83 (46 : Int32) s3 (fun s5 => w_78 (9 : Int32) s5 (fun r8 s7 => (¬ (0 : Int32) < 0 ∧ ((0 : Int32)).toNatClampNeg ≤ 100000 ∧ w_18 s7.2.2.2.2.length (120 : Int32) (s7.2.2.2.2 ++ [(Sum.inr (1, pD1) : PC)]).length r4 r8 (sD s7 ((s7.2.2.2.2 ++ [(Sum.inr (1, pD1) : PC)]) ++ [(Sum.inl (0, ((0 : Int32)).toNatClampNeg, .inl (fun _ => 0)) : PC)])) (fun s9 => K s7.2.2.2.2.length s9))))))
theorem q_65 {d : Nat} {K : Nat → ST → Prop}  (s : ST) (k : w_65  s K) : Rn sc (d + 3) 65 [.ref 35] (hpS s) (kA K) := by
  have hq : prog[65]? = some pm65 := rfl
  refine Rn.of (L := [.ref 35, pu, pu]) hq rfl rfl ?_
  unfold w_65 at k
  refine Ex.seg hq 2 (j := 2) (L' := [.ref 35, pu, pu]) (S' := [.int (120 : Int32), .ref 35]) (h' := hpS s) rfl ?_
  refine Ex.cl hq rfl rfl ?_
  refine Rn.mono (q_83 (d := d + 1) (120 : Int32) s k) ?_
  rintro _ _ ⟨s1, rfl, rfl, k⟩
  show Ex sc (d + 3) 65 3 [.ref 35, pu, pu] [] (hpS s1) _
  refine Ex.seg hq 2 (j := 5) (L' := [.ref 35, pu, pu]) (S' := [.int (19 : Int32), .ref 35]) (h' := hpS s1) rfl ?_
  refine Ex.cl hq rfl rfl ?_
  refine Rn.mono (q_78 (d := d + 0) (19 : Int32) s1 k) ?_
  rintro _ _ ⟨r4, s3, rfl, rfl, k⟩
  show Ex sc (d + 3) 65 6 [.ref 35, pu, pu] [.int r4] (hpS s3) _
  refine Ex.seg hq 3 (j := 9) (L' := [.ref 35, .int r4, pu]) (S' := [.int (46 : Int32), .ref 35]) (h' := hpS s3) rfl ?_
  refine Ex.cl hq rfl rfl ?_
  refine Rn.mono (q_83 (d := d + 1) (46 : Int32) s3 k) ?_
  rintro _ _ ⟨s5, rfl, rfl, k⟩
  show Ex sc (d + 3) 65 10 [.ref 35, .int r4, pu] [] (hpS s5) _
  refine Ex.seg hq 2 (j := 12) (L' := [.ref 35, .int r4, pu]) (S' := [.int (9 : Int32), .ref 35]) (h' := hpS s5) rfl ?_
  refine Ex.cl hq rfl rfl ?_
  refine Rn.mono (q_78 (d := d + 0) (9 : Int32) s5 k) ?_
  rintro _ _ ⟨r8, s7, rfl, rfl, k⟩
  show Ex sc (d + 3) 65 13 [.ref 35, .int r4, pu] [.int r8] (hpS s7) _
  refine Ex.seg hq 1 (j := 14) (L' := [.ref 35, .int r4, .int r8]) (S' := []) (h' := hpS s7) rfl ?_
  refine Ex.nwd hq rfl rfl ?_
  show Ex sc (d + 3) 65 15 [.ref 35, .int r4, .int r8] [.ref (s7.2.2.2.2.length + 118)] (hpS (sD s7 (s7.2.2.2.2 ++ [(Sum.inr (1, pD1) : PC)]))) _
  refine Ex.seg hq 3 (j := 18) (L' := [.ref 35, .int r4, .int r8]) (S' := [.int (0 : Int32), .int (120 : Int32), .ref (s7.2.2.2.2.length + 118), .ref (s7.2.2.2.2.length + 118)]) (h' := hpS (sD s7 (s7.2.2.2.2 ++ [(Sum.inr (1, pD1) : PC)]))) rfl ?_
  obtain ⟨h0, h1, k⟩ := k
  refine Ex.nad hq rfl h0 h1 ?_
  show Ex sc (d + 3) 65 19 [.ref 35, .int r4, .int r8] [.ref ((s7.2.2.2.2 ++ [(Sum.inr (1, pD1) : PC)]).length + 118), .int (120 : Int32), .ref (s7.2.2.2.2.length + 118), .ref (s7.2.2.2.2.length + 118)] (hpS (sD s7 ((s7.2.2.2.2 ++ [(Sum.inr (1, pD1) : PC)]) ++ [(Sum.inl (0, ((0 : Int32)).toNatClampNeg, .inl (fun _ => 0)) : PC)]))) _
  refine Ex.seg hq 2 (j := 21) (L' := [.ref 35, .int r4, .int r8]) (S' := [.int r8, .int r4, .ref ((s7.2.2.2.2 ++ [(Sum.inr (1, pD1) : PC)]).length + 118), .int (120 : Int32), .ref (s7.2.2.2.2.length + 118), .ref (s7.2.2.2.2.length + 118)]) (h' := hpS (sD s7 ((s7.2.2.2.2 ++ [(Sum.inr (1, pD1) : PC)]) ++ [(Sum.inl (0, ((0 : Int32)).toNatClampNeg, .inl (fun _ => 0)) : PC)]))) rfl ?_
  refine Ex.cl hq rfl rfl ?_
  refine Rn.mono (q_18 (d := d + 1) s7.2.2.2.2.length (120 : Int32) (s7.2.2.2.2 ++ [(Sum.inr (1, pD1) : PC)]).length r4 r8 (sD s7 ((s7.2.2.2.2 ++ [(Sum.inr (1, pD1) : PC)]) ++ [(Sum.inl (0, ((0 : Int32)).toNatClampNeg, .inl (fun _ => 0)) : PC)])) k) ?_
  rintro _ _ ⟨s9, rfl, rfl, k⟩
  show Ex sc (d + 3) 65 22 [.ref 35, .int r4, .int r8] [.ref (s7.2.2.2.2.length + 118)] (hpS s9) _
  exact Ex.rt hq rfl rfl ⟨s7.2.2.2.2.length, s9, rfl, rfl, k⟩
/-- RowAuditor$Parser.isClauseLetter(I)Z -/
def w_64 (p0 : Int32) (s : ST) (K : Int32 → ST → Prop) : Prop := ((p0 = (114 : Int32) → K (1 : Int32) s) ∧ (¬ (p0 = (114 : Int32)) → ((p0 = (108 : Int32) → K (1 : Int32) s) ∧ (¬ (p0 = (108 : Int32)) → ((¬ p0 = (120 : Int32) → K (0 : Int32) s) ∧ (¬ (¬ p0 = (120 : Int32)) → K (1 : Int32) s))))))
theorem q_64 {d : Nat} {K : Int32 → ST → Prop} (p0 : Int32) (s : ST) (k : w_64 p0 s K) : Rn sc (d + 0) 64 [.int p0] (hpS s) (kZ K) := by
  have hq : prog[64]? = some pm64 := rfl
  refine Rn.of (L := [.int p0]) hq rfl rfl ?_
  unfold w_64 at k
  refine Ex.seg hq 2 (j := 2) (L' := [.int p0]) (S' := [.int (114 : Int32), .int p0]) (h' := hpS s) rfl ?_
  refine Ex.i2 hq rfl (fun c => ?_) (fun c => ?_)
  · have k := k.1 c
    refine Ex.seg hq 2 (j := 12) (L' := [.int p0]) (S' := [.int (1 : Int32)]) (h' := hpS s) rfl ?_
    exact Ex.zr hq rfl rfl (Or.inr rfl) ⟨(1 : Int32), s, rfl, (Or.inr rfl), rfl, k⟩
  · have k := k.2 c
    refine Ex.seg hq 2 (j := 5) (L' := [.int p0]) (S' := [.int (108 : Int32), .int p0]) (h' := hpS s) rfl ?_
    refine Ex.i2 hq rfl (fun c => ?_) (fun c => ?_)
    · have k := k.1 c
      refine Ex.seg hq 2 (j := 12) (L' := [.int p0]) (S' := [.int (1 : Int32)]) (h' := hpS s) rfl ?_
      exact Ex.zr hq rfl rfl (Or.inr rfl) ⟨(1 : Int32), s, rfl, (Or.inr rfl), rfl, k⟩
    · have k := k.2 c
      refine Ex.seg hq 2 (j := 8) (L' := [.int p0]) (S' := [.int (120 : Int32), .int p0]) (h' := hpS s) rfl ?_
      refine Ex.i2 hq rfl (fun c => ?_) (fun c => ?_)
      · have k := k.1 c
        refine Ex.seg hq 1 (j := 12) (L' := [.int p0]) (S' := [.int (0 : Int32)]) (h' := hpS s) rfl ?_
        exact Ex.zr hq rfl rfl (Or.inl rfl) ⟨(0 : Int32), s, rfl, (Or.inl rfl), rfl, k⟩
      · have k := k.2 c
        refine Ex.seg hq 2 (j := 12) (L' := [.int p0]) (S' := [.int (1 : Int32)]) (h' := hpS s) rfl ?_
        exact Ex.zr hq rfl rfl (Or.inr rfl) ⟨(1 : Int32), s, rfl, (Or.inr rfl), rfl, k⟩
/-- RowAuditor$Parser.wantEnd()V -/
def w_84  (s : ST) (K : ST → Prop) : Prop := (((s.1 3502) ≤ (s.1 3504) → K s) ∧ (¬ ((s.1 3502) ≤ (s.1 3504)) → w_85 (1 : Int32) (s.1 3504) s (fun s1 => K s1)))
theorem q_84 {d : Nat} {K : ST → Prop}  (s : ST) (k : w_84  s K) : Rn sc (d + 1) 84 [.ref 35] (hpS s) (kV K) := by
  have hq : prog[84]? = some pm84 := rfl
  refine Rn.of (L := [.ref 35]) hq rfl rfl ?_
  unfold w_84 at k
  refine Ex.seg hq 4 (j := 4) (L' := [.ref 35]) (S' := [.int (s.1 3502), .int (s.1 3504)]) (h' := hpS s) rfl ?_
  refine Ex.i2 hq rfl (fun c => ?_) (fun c => ?_)
  · have k := k.1 c
    exact Ex.rt hq rfl rfl ⟨s, rfl, rfl, k⟩
  · have k := k.2 c
    refine Ex.seg hq 4 (j := 9) (L' := [.ref 35]) (S' := [.int (s.1 3504), .int (1 : Int32), .ref 35]) (h' := hpS s) rfl ?_
    refine Ex.cl hq rfl rfl ?_
    refine Rn.mono (q_85 (d := d + 0) (1 : Int32) (s.1 3504) s k) ?_
    rintro _ _ ⟨s1, rfl, rfl, k⟩
    show Ex sc (d + 1) 84 10 [.ref 35] [] (hpS s1) _
    exact Ex.rt hq rfl rfl ⟨s1, rfl, rfl, k⟩
def w_62_L11 : Nat → Nat → Int32 → ST → (Nat → ST → Prop) → (Nat → ST → Prop) → (Nat → ST → Prop) → Prop
  | 0, _, _, _, _, _, _ => False
  | n + 1, x4, x5, s, X65, X62, K => (((10 : Int32) < x5 → X65 x4 s) ∧ (¬ ((10 : Int32) < x5) → w_81 s (fun r6 s5 => ((¬ x5 = (10 : Int32) → ((¬ r6 = (120 : Int32) → ((¬ r6 = (108 : Int32) → w_83 (114 : Int32) s5 (fun s7 => (∃ v9, pgf s7.2.2.2.2 x4 9 0 = some (.ref (v9 + 118)) ∧ w_66 (sD s7 (s7.2.2.2.2 ++ [(Sum.inr (1, pD1) : PC)])) (fun r11 s10 => w_18 s7.2.2.2.2.length r6 r11 (-1 : Int32) (-1 : Int32) s10 (fun s12 => (∃ f16, pob s12.2.2.2.2 v9 13 = some f16 ∧ w_301 v9 s7.2.2.2.2.length s12 (fun r15 s14 => w_82 (59 : Int32) s14 (fun r18 s17 => ((¬ r18 = 0 → w_62_L11 n x4 (x5 + (1 : Int32)) s17 X65 X62 K) ∧ (¬ (¬ r18 = 0) → X62 x4 s17)))))))))) ∧ (¬ (¬ r6 = (108 : Int32)) → w_83 (108 : Int32) s5 (fun s19 => (∃ v21, pgf s19.2.2.2.2 x4 9 0 = some (.ref (v21 + 118)) ∧ w_66 (sD s19 (s19.2.2.2.2 ++ [(Sum.inr (1, pD1) : PC)])) (fun r23 s22 => w_18 s19.2.2.2.2.length r6 r23 (-1 : Int32) (-1 : Int32) s22 (fun s24 => (∃ f28, pob s24.2.2.2.2 v21 13 = some f28 ∧ w_301 v21 s19.2.2.2.2.length s24 (fun r27 s26 => w_82 (59 : Int32) s26 (fun r30 s29 => ((¬ r30 = 0 → w_62_L11 n x4 (x5 + (1 : Int32)) s29 X65 X62 K) ∧ (¬ (¬ r30 = 0) → X62 x4 s29)))))))))))) ∧ (¬ (¬ r6 = (120 : Int32)) → (∃ v31, pgf s5.2.2.2.2 x4 9 0 = some (.ref (v31 + 118)) ∧ w_65 s5 (fun r33 s32 => (∃ f36, pob s32.2.2.2.2 v31 13 = some f36 ∧ w_301 v31 r33 s32 (fun r35 s34 => w_82 (59 : Int32) s34 (fun r38 s37 => ((¬ r38 = 0 → w_62_L11 n x4 (x5 + (1 : Int32)) s37 X65 X62 K) ∧ (¬ (¬ r38 = 0) → X62 x4 s37)))))))))) ∧ (¬ (¬ x5 = (10 : Int32)) → w_64 r6 s5 (fun r40 s39 => ((r40 = 0 → ((¬ r6 = (120 : Int32) → ((¬ r6 = (108 : Int32) → w_83 (114 : Int32) s39 (fun s41 => (∃ v43, pgf s41.2.2.2.2 x4 9 0 = some (.ref (v43 + 118)) ∧ w_66 (sD s41 (s41.2.2.2.2 ++ [(Sum.inr (1, pD1) : PC)])) (fun r45 s44 => w_18 s41.2.2.2.2.length r6 r45 (-1 : Int32) (-1 : Int32) s44 (fun s46 => (∃ f50, pob s46.2.2.2.2 v43 13 = some f50 ∧ w_301 v43 s41.2.2.2.2.length s46 (fun r49 s48 => w_82 (59 : Int32) s48 (fun r52 s51 => ((¬ r52 = 0 → w_62_L11 n x4 (x5 + (1 : Int32)) s51 X65 X62 K) ∧ (¬ (¬ r52 = 0) → X62 x4 s51)))))))))) ∧ (¬ (¬ r6 = (108 : Int32)) → w_83 (108 : Int32) s39 (fun s53 => (∃ v55, pgf s53.2.2.2.2 x4 9 0 = some (.ref (v55 + 118)) ∧ w_66 (sD s53 (s53.2.2.2.2 ++ [(Sum.inr (1, pD1) : PC)])) (fun r57 s56 => w_18 s53.2.2.2.2.length r6 r57 (-1 : Int32) (-1 : Int32) s56 (fun s58 => (∃ f62, pob s58.2.2.2.2 v55 13 = some f62 ∧ w_301 v55 s53.2.2.2.2.length s58 (fun r61 s60 => w_82 (59 : Int32) s60 (fun r64 s63 => ((¬ r64 = 0 → w_62_L11 n x4 (x5 + (1 : Int32)) s63 X65 X62 K) ∧ (¬ (¬ r64 = 0) → X62 x4 s63)))))))))))) ∧ (¬ (¬ r6 = (120 : Int32)) → (∃ v65, pgf s39.2.2.2.2 x4 9 0 = some (.ref (v65 + 118)) ∧ w_65 s39 (fun r67 s66 => (∃ f70, pob s66.2.2.2.2 v65 13 = some f70 ∧ w_301 v65 r67 s66 (fun r69 s68 => w_82 (59 : Int32) s68 (fun r72 s71 => ((¬ r72 = 0 → w_62_L11 n x4 (x5 + (1 : Int32)) s71 X65 X62 K) ∧ (¬ (¬ r72 = 0) → X62 x4 s71)))))))))) ∧ (¬ (r40 = 0) → w_85 (4 : Int32) (s39.1 3504) s39 (fun s73 => ((¬ r6 = (120 : Int32) → ((¬ r6 = (108 : Int32) → w_83 (114 : Int32) s73 (fun s75 => (∃ v77, pgf s75.2.2.2.2 x4 9 0 = some (.ref (v77 + 118)) ∧ w_66 (sD s75 (s75.2.2.2.2 ++ [(Sum.inr (1, pD1) : PC)])) (fun r79 s78 => w_18 s75.2.2.2.2.length r6 r79 (-1 : Int32) (-1 : Int32) s78 (fun s80 => (∃ f84, pob s80.2.2.2.2 v77 13 = some f84 ∧ w_301 v77 s75.2.2.2.2.length s80 (fun r83 s82 => w_82 (59 : Int32) s82 (fun r86 s85 => ((¬ r86 = 0 → w_62_L11 n x4 (x5 + (1 : Int32)) s85 X65 X62 K) ∧ (¬ (¬ r86 = 0) → X62 x4 s85)))))))))) ∧ (¬ (¬ r6 = (108 : Int32)) → w_83 (108 : Int32) s73 (fun s87 => (∃ v89, pgf s87.2.2.2.2 x4 9 0 = some (.ref (v89 + 118)) ∧ w_66 (sD s87 (s87.2.2.2.2 ++ [(Sum.inr (1, pD1) : PC)])) (fun r91 s90 => w_18 s87.2.2.2.2.length r6 r91 (-1 : Int32) (-1 : Int32) s90 (fun s92 => (∃ f96, pob s92.2.2.2.2 v89 13 = some f96 ∧ w_301 v89 s87.2.2.2.2.length s92 (fun r95 s94 => w_82 (59 : Int32) s94 (fun r98 s97 => ((¬ r98 = 0 → w_62_L11 n x4 (x5 + (1 : Int32)) s97 X65 X62 K) ∧ (¬ (¬ r98 = 0) → X62 x4 s97)))))))))))) ∧ (¬ (¬ r6 = (120 : Int32)) → (∃ v99, pgf s73.2.2.2.2 x4 9 0 = some (.ref (v99 + 118)) ∧ w_65 s73 (fun r101 s100 => (∃ f104, pob s100.2.2.2.2 v99 13 = some f104 ∧ w_301 v99 r101 s100 (fun r103 s102 => w_82 (59 : Int32) s102 (fun r106 s105 => ((¬ r106 = 0 → w_62_L11 n x4 (x5 + (1 : Int32)) s105 X65 X62 K) ∧ (¬ (¬ r106 = 0) → X62 x4 s105))))))))))))))))))
theorem q_62_L11 {d : Nat} {X65 : Nat → ST → Prop} {X62 : Nat → ST → Prop} {K : Nat → ST → Prop} : ∀ (n : Nat) (x4 : Nat) (x5 : Int32) (s : ST), w_62_L11 n x4 x5 s X65 X62 K → (∀ (y4 : Nat) (s : ST), X65 y4 s → Ex sc (d + 65) 62 65 [.ref 35, pu, pu, pu, .ref (y4 + 118), pu, pu] [] (hpS s) (kA K)) → (∀ (y4 : Nat) (s : ST), X62 y4 s → Ex sc (d + 65) 62 62 [.ref 35, pu, pu, pu, .ref (y4 + 118), pu, pu] [] (hpS s) (kA K)) → Ex sc (d + 65) 62 11 [.ref 35, pu, pu, pu, .ref (x4 + 118), .int x5, pu] [] (hpS s) (kA K) := by
  have hq : prog[62]? = some pm62 := rfl
  intro n
  induction n with
  | zero =>
    intro x4 x5 s k
    exact k.elim
  | succ n ih =>
    intro x4 x5 s k hX65 hX62
    rw [w_62_L11] at k
    refine Ex.seg hq 2 (j := 13) (L' := [.ref 35, pu, pu, pu, .ref (x4 + 118), .int x5, pu]) (S' := [.int (10 : Int32), .int x5]) (h' := hpS s) rfl ?_
    refine Ex.i2 hq rfl (fun c => ?_) (fun c => ?_)
    · have k := k.1 c
      refine Ex.fg (L := [.ref 35, pu, pu, pu, .ref (x4 + 118), pu, pu]) ⟨Or.inl rfl, ⟨Or.inl rfl, ⟨Or.inl rfl, ⟨Or.inl rfl, ⟨Or.inl rfl, ⟨Or.inr ⟨rfl, rfl⟩, ⟨Or.inl rfl, trivial⟩⟩⟩⟩⟩⟩⟩ ?_
      exact hX65 x4 s k
    · have k := k.2 c
      refine Ex.seg hq 1 (j := 15) (L' := [.ref 35, pu, pu, pu, .ref (x4 + 118), .int x5, pu]) (S' := [.ref 35]) (h' := hpS s) rfl ?_
      refine Ex.cl hq rfl rfl ?_
      refine Rn.mono (q_81 (d := d + 64) s k) ?_
      rintro _ _ ⟨r6, s5, rfl, rfl, k⟩
      show Ex sc (d + 65) 62 16 [.ref 35, pu, pu, pu, .ref (x4 + 118), .int x5, pu] [.int r6] (hpS s5) _
      refine Ex.seg hq 3 (j := 19) (L' := [.ref 35, pu, pu, pu, .ref (x4 + 118), .int x5, .int r6]) (S' := [.int (10 : Int32), .int x5]) (h' := hpS s5) rfl ?_
      refine Ex.i2 hq rfl (fun c => ?_) (fun c => ?_)
      · have k := k.1 c
        refine Ex.seg hq 2 (j := 30) (L' := [.ref 35, pu, pu, pu, .ref (x4 + 118), .int x5, .int r6]) (S' := [.int (120 : Int32), .int r6]) (h' := hpS s5) rfl ?_
        refine Ex.i2 hq rfl (fun c => ?_) (fun c => ?_)
        · have k := k.1 c
          refine Ex.seg hq 3 (j := 41) (L' := [.ref 35, pu, pu, pu, .ref (x4 + 118), .int x5, .int r6]) (S' := [.int (108 : Int32), .int r6, .ref 35]) (h' := hpS s5) rfl ?_
          refine Ex.i2 hq rfl (fun c => ?_) (fun c => ?_)
          · have k := k.1 c
            refine Ex.seg hq 1 (j := 45) (L' := [.ref 35, pu, pu, pu, .ref (x4 + 118), .int x5, .int r6]) (S' := [.int (114 : Int32), .ref 35]) (h' := hpS s5) rfl ?_
            refine Ex.cl hq rfl rfl ?_
            refine Rn.mono (q_83 (d := d + 63) (114 : Int32) s5 k) ?_
            rintro _ _ ⟨s7, rfl, rfl, k⟩
            show Ex sc (d + 65) 62 46 [.ref 35, pu, pu, pu, .ref (x4 + 118), .int x5, .int r6] [] (hpS s7) _
            refine Ex.seg hq 1 (j := 47) (L' := [.ref 35, pu, pu, pu, .ref (x4 + 118), .int x5, .int r6]) (S' := [.ref (x4 + 118)]) (h' := hpS s7) rfl ?_
            obtain ⟨v9, e, k⟩ := k
            refine Ex.gfd hq rfl e ?_
            refine Ex.nwd hq rfl rfl ?_
            show Ex sc (d + 65) 62 49 [.ref 35, pu, pu, pu, .ref (x4 + 118), .int x5, .int r6] [.ref (s7.2.2.2.2.length + 118), .ref (v9 + 118)] (hpS (sD s7 (s7.2.2.2.2 ++ [(Sum.inr (1, pD1) : PC)]))) _
            refine Ex.seg hq 3 (j := 52) (L' := [.ref 35, pu, pu, pu, .ref (x4 + 118), .int x5, .int r6]) (S' := [.ref 35, .int r6, .ref (s7.2.2.2.2.length + 118), .ref (s7.2.2.2.2.length + 118), .ref (v9 + 118)]) (h' := hpS (sD s7 (s7.2.2.2.2 ++ [(Sum.inr (1, pD1) : PC)]))) rfl ?_
            refine Ex.cl hq rfl rfl ?_
            refine Rn.mono (q_66 (d := d + 0) (sD s7 (s7.2.2.2.2 ++ [(Sum.inr (1, pD1) : PC)])) k) ?_
            rintro _ _ ⟨r11, s10, rfl, rfl, k⟩
            show Ex sc (d + 65) 62 53 [.ref 35, pu, pu, pu, .ref (x4 + 118), .int x5, .int r6] [.ref (r11 + 118), .int r6, .ref (s7.2.2.2.2.length + 118), .ref (s7.2.2.2.2.length + 118), .ref (v9 + 118)] (hpS s10) _
            refine Ex.seg hq 2 (j := 55) (L' := [.ref 35, pu, pu, pu, .ref (x4 + 118), .int x5, .int r6]) (S' := [.int (-1 : Int32), .int (-1 : Int32), .ref (r11 + 118), .int r6, .ref (s7.2.2.2.2.length + 118), .ref (s7.2.2.2.2.length + 118), .ref (v9 + 118)]) (h' := hpS s10) rfl ?_
            refine Ex.cl hq rfl rfl ?_
            refine Rn.mono (q_18 (d := d + 63) s7.2.2.2.2.length r6 r11 (-1 : Int32) (-1 : Int32) s10 k) ?_
            rintro _ _ ⟨s12, rfl, rfl, k⟩
            show Ex sc (d + 65) 62 56 [.ref 35, pu, pu, pu, .ref (x4 + 118), .int x5, .int r6] [.ref (s7.2.2.2.2.length + 118), .ref (v9 + 118)] (hpS s12) _
            obtain ⟨f16, e, k⟩ := k
            refine Ex.cvd hq rfl rfl e rfl ?_
            refine Rn.mono (q_301 (d := d + 58) v9 s7.2.2.2.2.length s12 k) ?_
            rintro _ _ ⟨r15, s14, rfl, hzr15, rfl, k⟩
            show Ex sc (d + 65) 62 57 [.ref 35, pu, pu, pu, .ref (x4 + 118), .int x5, .int r6] [.int r15] (hpS s14) _
            refine Ex.seg hq 3 (j := 60) (L' := [.ref 35, pu, pu, pu, .ref (x4 + 118), .int x5, .int r6]) (S' := [.int (59 : Int32), .ref 35]) (h' := hpS s14) rfl ?_
            refine Ex.cl hq rfl rfl ?_
            refine Rn.mono (q_82 (d := d + 63) (59 : Int32) s14 k) ?_
            rintro _ _ ⟨r18, s17, rfl, hzr18, rfl, k⟩
            show Ex sc (d + 65) 62 61 [.ref 35, pu, pu, pu, .ref (x4 + 118), .int x5, .int r6] [.int r18] (hpS s17) _
            refine Ex.i1 hq rfl (fun c => ?_) (fun c => ?_)
            · have k := k.1 c
              refine Ex.seg hq 2 (j := 11) (L' := [.ref 35, pu, pu, pu, .ref (x4 + 118), .int (x5 + (1 : Int32)), .int r6]) (S' := []) (h' := hpS s17) rfl ?_
              refine Ex.fg (L := [.ref 35, pu, pu, pu, .ref (x4 + 118), .int (x5 + (1 : Int32)), pu]) ⟨Or.inl rfl, ⟨Or.inl rfl, ⟨Or.inl rfl, ⟨Or.inl rfl, ⟨Or.inl rfl, ⟨Or.inl rfl, ⟨Or.inr ⟨rfl, rfl⟩, trivial⟩⟩⟩⟩⟩⟩⟩ ?_
              exact ih x4 (x5 + (1 : Int32)) s17 k hX65 hX62
            · have k := k.2 c
              refine Ex.fg (L := [.ref 35, pu, pu, pu, .ref (x4 + 118), pu, pu]) ⟨Or.inl rfl, ⟨Or.inl rfl, ⟨Or.inl rfl, ⟨Or.inl rfl, ⟨Or.inl rfl, ⟨Or.inr ⟨rfl, rfl⟩, ⟨Or.inr ⟨rfl, rfl⟩, trivial⟩⟩⟩⟩⟩⟩⟩ ?_
              exact hX62 x4 s17 k
          · have k := k.2 c
            refine Ex.seg hq 2 (j := 45) (L' := [.ref 35, pu, pu, pu, .ref (x4 + 118), .int x5, .int r6]) (S' := [.int (108 : Int32), .ref 35]) (h' := hpS s5) rfl ?_
            refine Ex.cl hq rfl rfl ?_
            refine Rn.mono (q_83 (d := d + 63) (108 : Int32) s5 k) ?_
            rintro _ _ ⟨s19, rfl, rfl, k⟩
            show Ex sc (d + 65) 62 46 [.ref 35, pu, pu, pu, .ref (x4 + 118), .int x5, .int r6] [] (hpS s19) _
            refine Ex.seg hq 1 (j := 47) (L' := [.ref 35, pu, pu, pu, .ref (x4 + 118), .int x5, .int r6]) (S' := [.ref (x4 + 118)]) (h' := hpS s19) rfl ?_
            obtain ⟨v21, e, k⟩ := k
            refine Ex.gfd hq rfl e ?_
            refine Ex.nwd hq rfl rfl ?_
            show Ex sc (d + 65) 62 49 [.ref 35, pu, pu, pu, .ref (x4 + 118), .int x5, .int r6] [.ref (s19.2.2.2.2.length + 118), .ref (v21 + 118)] (hpS (sD s19 (s19.2.2.2.2 ++ [(Sum.inr (1, pD1) : PC)]))) _
            refine Ex.seg hq 3 (j := 52) (L' := [.ref 35, pu, pu, pu, .ref (x4 + 118), .int x5, .int r6]) (S' := [.ref 35, .int r6, .ref (s19.2.2.2.2.length + 118), .ref (s19.2.2.2.2.length + 118), .ref (v21 + 118)]) (h' := hpS (sD s19 (s19.2.2.2.2 ++ [(Sum.inr (1, pD1) : PC)]))) rfl ?_
            refine Ex.cl hq rfl rfl ?_
            refine Rn.mono (q_66 (d := d + 0) (sD s19 (s19.2.2.2.2 ++ [(Sum.inr (1, pD1) : PC)])) k) ?_
            rintro _ _ ⟨r23, s22, rfl, rfl, k⟩
            show Ex sc (d + 65) 62 53 [.ref 35, pu, pu, pu, .ref (x4 + 118), .int x5, .int r6] [.ref (r23 + 118), .int r6, .ref (s19.2.2.2.2.length + 118), .ref (s19.2.2.2.2.length + 118), .ref (v21 + 118)] (hpS s22) _
            refine Ex.seg hq 2 (j := 55) (L' := [.ref 35, pu, pu, pu, .ref (x4 + 118), .int x5, .int r6]) (S' := [.int (-1 : Int32), .int (-1 : Int32), .ref (r23 + 118), .int r6, .ref (s19.2.2.2.2.length + 118), .ref (s19.2.2.2.2.length + 118), .ref (v21 + 118)]) (h' := hpS s22) rfl ?_
            refine Ex.cl hq rfl rfl ?_
            refine Rn.mono (q_18 (d := d + 63) s19.2.2.2.2.length r6 r23 (-1 : Int32) (-1 : Int32) s22 k) ?_
            rintro _ _ ⟨s24, rfl, rfl, k⟩
            show Ex sc (d + 65) 62 56 [.ref 35, pu, pu, pu, .ref (x4 + 118), .int x5, .int r6] [.ref (s19.2.2.2.2.length + 118), .ref (v21 + 118)] (hpS s24) _
            obtain ⟨f28, e, k⟩ := k
            refine Ex.cvd hq rfl rfl e rfl ?_
            refine Rn.mono (q_301 (d := d + 58) v21 s19.2.2.2.2.length s24 k) ?_
            rintro _ _ ⟨r27, s26, rfl, hzr27, rfl, k⟩
            show Ex sc (d + 65) 62 57 [.ref 35, pu, pu, pu, .ref (x4 + 118), .int x5, .int r6] [.int r27] (hpS s26) _
            refine Ex.seg hq 3 (j := 60) (L' := [.ref 35, pu, pu, pu, .ref (x4 + 118), .int x5, .int r6]) (S' := [.int (59 : Int32), .ref 35]) (h' := hpS s26) rfl ?_
            refine Ex.cl hq rfl rfl ?_
            refine Rn.mono (q_82 (d := d + 63) (59 : Int32) s26 k) ?_
            rintro _ _ ⟨r30, s29, rfl, hzr30, rfl, k⟩
            show Ex sc (d + 65) 62 61 [.ref 35, pu, pu, pu, .ref (x4 + 118), .int x5, .int r6] [.int r30] (hpS s29) _
            refine Ex.i1 hq rfl (fun c => ?_) (fun c => ?_)
            · have k := k.1 c
              refine Ex.seg hq 2 (j := 11) (L' := [.ref 35, pu, pu, pu, .ref (x4 + 118), .int (x5 + (1 : Int32)), .int r6]) (S' := []) (h' := hpS s29) rfl ?_
              refine Ex.fg (L := [.ref 35, pu, pu, pu, .ref (x4 + 118), .int (x5 + (1 : Int32)), pu]) ⟨Or.inl rfl, ⟨Or.inl rfl, ⟨Or.inl rfl, ⟨Or.inl rfl, ⟨Or.inl rfl, ⟨Or.inl rfl, ⟨Or.inr ⟨rfl, rfl⟩, trivial⟩⟩⟩⟩⟩⟩⟩ ?_
              exact ih x4 (x5 + (1 : Int32)) s29 k hX65 hX62
            · have k := k.2 c
              refine Ex.fg (L := [.ref 35, pu, pu, pu, .ref (x4 + 118), pu, pu]) ⟨Or.inl rfl, ⟨Or.inl rfl, ⟨Or.inl rfl, ⟨Or.inl rfl, ⟨Or.inl rfl, ⟨Or.inr ⟨rfl, rfl⟩, ⟨Or.inr ⟨rfl, rfl⟩, trivial⟩⟩⟩⟩⟩⟩⟩ ?_
              exact hX62 x4 s29 k
        · have k := k.2 c
          refine Ex.seg hq 1 (j := 32) (L' := [.ref 35, pu, pu, pu, .ref (x4 + 118), .int x5, .int r6]) (S' := [.ref (x4 + 118)]) (h' := hpS s5) rfl ?_
          obtain ⟨v31, e, k⟩ := k
          refine Ex.gfd hq rfl e ?_
          refine Ex.seg hq 1 (j := 34) (L' := [.ref 35, pu, pu, pu, .ref (x4 + 118), .int x5, .int r6]) (S' := [.ref 35, .ref (v31 + 118)]) (h' := hpS s5) rfl ?_
          refine Ex.cl hq rfl rfl ?_
          refine Rn.mono (q_65 (d := d + 61) s5 k) ?_
          rintro _ _ ⟨r33, s32, rfl, rfl, k⟩
          show Ex sc (d + 65) 62 35 [.ref 35, pu, pu, pu, .ref (x4 + 118), .int x5, .int r6] [.ref (r33 + 118), .ref (v31 + 118)] (hpS s32) _
          obtain ⟨f36, e, k⟩ := k
          refine Ex.cvd hq rfl rfl e rfl ?_
          refine Rn.mono (q_301 (d := d + 58) v31 r33 s32 k) ?_
          rintro _ _ ⟨r35, s34, rfl, hzr35, rfl, k⟩
          show Ex sc (d + 65) 62 36 [.ref 35, pu, pu, pu, .ref (x4 + 118), .int x5, .int r6] [.int r35] (hpS s34) _
          refine Ex.seg hq 4 (j := 60) (L' := [.ref 35, pu, pu, pu, .ref (x4 + 118), .int x5, .int r6]) (S' := [.int (59 : Int32), .ref 35]) (h' := hpS s34) rfl ?_
          refine Ex.cl hq rfl rfl ?_
          refine Rn.mono (q_82 (d := d + 63) (59 : Int32) s34 k) ?_
          rintro _ _ ⟨r38, s37, rfl, hzr38, rfl, k⟩
          show Ex sc (d + 65) 62 61 [.ref 35, pu, pu, pu, .ref (x4 + 118), .int x5, .int r6] [.int r38] (hpS s37) _
          refine Ex.i1 hq rfl (fun c => ?_) (fun c => ?_)
          · have k := k.1 c
            refine Ex.seg hq 2 (j := 11) (L' := [.ref 35, pu, pu, pu, .ref (x4 + 118), .int (x5 + (1 : Int32)), .int r6]) (S' := []) (h' := hpS s37) rfl ?_
            refine Ex.fg (L := [.ref 35, pu, pu, pu, .ref (x4 + 118), .int (x5 + (1 : Int32)), pu]) ⟨Or.inl rfl, ⟨Or.inl rfl, ⟨Or.inl rfl, ⟨Or.inl rfl, ⟨Or.inl rfl, ⟨Or.inl rfl, ⟨Or.inr ⟨rfl, rfl⟩, trivial⟩⟩⟩⟩⟩⟩⟩ ?_
            exact ih x4 (x5 + (1 : Int32)) s37 k hX65 hX62
          · have k := k.2 c
            refine Ex.fg (L := [.ref 35, pu, pu, pu, .ref (x4 + 118), pu, pu]) ⟨Or.inl rfl, ⟨Or.inl rfl, ⟨Or.inl rfl, ⟨Or.inl rfl, ⟨Or.inl rfl, ⟨Or.inr ⟨rfl, rfl⟩, ⟨Or.inr ⟨rfl, rfl⟩, trivial⟩⟩⟩⟩⟩⟩⟩ ?_
            exact hX62 x4 s37 k
      · have k := k.2 c
        refine Ex.seg hq 1 (j := 21) (L' := [.ref 35, pu, pu, pu, .ref (x4 + 118), .int x5, .int r6]) (S' := [.int r6]) (h' := hpS s5) rfl ?_
        refine Ex.cl hq rfl rfl ?_
        refine Rn.mono (q_64 (d := d + 64) r6 s5 k) ?_
        rintro _ _ ⟨r40, s39, rfl, hzr40, rfl, k⟩
        show Ex sc (d + 65) 62 22 [.ref 35, pu, pu, pu, .ref (x4 + 118), .int x5, .int r6] [.int r40] (hpS s39) _
        refine Ex.i1 hq rfl (fun c => ?_) (fun c => ?_)
        · have k := k.1 c
          refine Ex.seg hq 2 (j := 30) (L' := [.ref 35, pu, pu, pu, .ref (x4 + 118), .int x5, .int r6]) (S' := [.int (120 : Int32), .int r6]) (h' := hpS s39) rfl ?_
          refine Ex.i2 hq rfl (fun c => ?_) (fun c => ?_)
          · have k := k.1 c
            refine Ex.seg hq 3 (j := 41) (L' := [.ref 35, pu, pu, pu, .ref (x4 + 118), .int x5, .int r6]) (S' := [.int (108 : Int32), .int r6, .ref 35]) (h' := hpS s39) rfl ?_
            refine Ex.i2 hq rfl (fun c => ?_) (fun c => ?_)
            · have k := k.1 c
              refine Ex.seg hq 1 (j := 45) (L' := [.ref 35, pu, pu, pu, .ref (x4 + 118), .int x5, .int r6]) (S' := [.int (114 : Int32), .ref 35]) (h' := hpS s39) rfl ?_
              refine Ex.cl hq rfl rfl ?_
              refine Rn.mono (q_83 (d := d + 63) (114 : Int32) s39 k) ?_
              rintro _ _ ⟨s41, rfl, rfl, k⟩
              show Ex sc (d + 65) 62 46 [.ref 35, pu, pu, pu, .ref (x4 + 118), .int x5, .int r6] [] (hpS s41) _
              refine Ex.seg hq 1 (j := 47) (L' := [.ref 35, pu, pu, pu, .ref (x4 + 118), .int x5, .int r6]) (S' := [.ref (x4 + 118)]) (h' := hpS s41) rfl ?_
              obtain ⟨v43, e, k⟩ := k
              refine Ex.gfd hq rfl e ?_
              refine Ex.nwd hq rfl rfl ?_
              show Ex sc (d + 65) 62 49 [.ref 35, pu, pu, pu, .ref (x4 + 118), .int x5, .int r6] [.ref (s41.2.2.2.2.length + 118), .ref (v43 + 118)] (hpS (sD s41 (s41.2.2.2.2 ++ [(Sum.inr (1, pD1) : PC)]))) _
              refine Ex.seg hq 3 (j := 52) (L' := [.ref 35, pu, pu, pu, .ref (x4 + 118), .int x5, .int r6]) (S' := [.ref 35, .int r6, .ref (s41.2.2.2.2.length + 118), .ref (s41.2.2.2.2.length + 118), .ref (v43 + 118)]) (h' := hpS (sD s41 (s41.2.2.2.2 ++ [(Sum.inr (1, pD1) : PC)]))) rfl ?_
              refine Ex.cl hq rfl rfl ?_
              refine Rn.mono (q_66 (d := d + 0) (sD s41 (s41.2.2.2.2 ++ [(Sum.inr (1, pD1) : PC)])) k) ?_
              rintro _ _ ⟨r45, s44, rfl, rfl, k⟩
              show Ex sc (d + 65) 62 53 [.ref 35, pu, pu, pu, .ref (x4 + 118), .int x5, .int r6] [.ref (r45 + 118), .int r6, .ref (s41.2.2.2.2.length + 118), .ref (s41.2.2.2.2.length + 118), .ref (v43 + 118)] (hpS s44) _
              refine Ex.seg hq 2 (j := 55) (L' := [.ref 35, pu, pu, pu, .ref (x4 + 118), .int x5, .int r6]) (S' := [.int (-1 : Int32), .int (-1 : Int32), .ref (r45 + 118), .int r6, .ref (s41.2.2.2.2.length + 118), .ref (s41.2.2.2.2.length + 118), .ref (v43 + 118)]) (h' := hpS s44) rfl ?_
              refine Ex.cl hq rfl rfl ?_
              refine Rn.mono (q_18 (d := d + 63) s41.2.2.2.2.length r6 r45 (-1 : Int32) (-1 : Int32) s44 k) ?_
              rintro _ _ ⟨s46, rfl, rfl, k⟩
              show Ex sc (d + 65) 62 56 [.ref 35, pu, pu, pu, .ref (x4 + 118), .int x5, .int r6] [.ref (s41.2.2.2.2.length + 118), .ref (v43 + 118)] (hpS s46) _
              obtain ⟨f50, e, k⟩ := k
              refine Ex.cvd hq rfl rfl e rfl ?_
              refine Rn.mono (q_301 (d := d + 58) v43 s41.2.2.2.2.length s46 k) ?_
              rintro _ _ ⟨r49, s48, rfl, hzr49, rfl, k⟩
              show Ex sc (d + 65) 62 57 [.ref 35, pu, pu, pu, .ref (x4 + 118), .int x5, .int r6] [.int r49] (hpS s48) _
              refine Ex.seg hq 3 (j := 60) (L' := [.ref 35, pu, pu, pu, .ref (x4 + 118), .int x5, .int r6]) (S' := [.int (59 : Int32), .ref 35]) (h' := hpS s48) rfl ?_
              refine Ex.cl hq rfl rfl ?_
              refine Rn.mono (q_82 (d := d + 63) (59 : Int32) s48 k) ?_
              rintro _ _ ⟨r52, s51, rfl, hzr52, rfl, k⟩
              show Ex sc (d + 65) 62 61 [.ref 35, pu, pu, pu, .ref (x4 + 118), .int x5, .int r6] [.int r52] (hpS s51) _
              refine Ex.i1 hq rfl (fun c => ?_) (fun c => ?_)
              · have k := k.1 c
                refine Ex.seg hq 2 (j := 11) (L' := [.ref 35, pu, pu, pu, .ref (x4 + 118), .int (x5 + (1 : Int32)), .int r6]) (S' := []) (h' := hpS s51) rfl ?_
                refine Ex.fg (L := [.ref 35, pu, pu, pu, .ref (x4 + 118), .int (x5 + (1 : Int32)), pu]) ⟨Or.inl rfl, ⟨Or.inl rfl, ⟨Or.inl rfl, ⟨Or.inl rfl, ⟨Or.inl rfl, ⟨Or.inl rfl, ⟨Or.inr ⟨rfl, rfl⟩, trivial⟩⟩⟩⟩⟩⟩⟩ ?_
                exact ih x4 (x5 + (1 : Int32)) s51 k hX65 hX62
              · have k := k.2 c
                refine Ex.fg (L := [.ref 35, pu, pu, pu, .ref (x4 + 118), pu, pu]) ⟨Or.inl rfl, ⟨Or.inl rfl, ⟨Or.inl rfl, ⟨Or.inl rfl, ⟨Or.inl rfl, ⟨Or.inr ⟨rfl, rfl⟩, ⟨Or.inr ⟨rfl, rfl⟩, trivial⟩⟩⟩⟩⟩⟩⟩ ?_
                exact hX62 x4 s51 k
            · have k := k.2 c
              refine Ex.seg hq 2 (j := 45) (L' := [.ref 35, pu, pu, pu, .ref (x4 + 118), .int x5, .int r6]) (S' := [.int (108 : Int32), .ref 35]) (h' := hpS s39) rfl ?_
              refine Ex.cl hq rfl rfl ?_
              refine Rn.mono (q_83 (d := d + 63) (108 : Int32) s39 k) ?_
              rintro _ _ ⟨s53, rfl, rfl, k⟩
              show Ex sc (d + 65) 62 46 [.ref 35, pu, pu, pu, .ref (x4 + 118), .int x5, .int r6] [] (hpS s53) _
              refine Ex.seg hq 1 (j := 47) (L' := [.ref 35, pu, pu, pu, .ref (x4 + 118), .int x5, .int r6]) (S' := [.ref (x4 + 118)]) (h' := hpS s53) rfl ?_
              obtain ⟨v55, e, k⟩ := k
              refine Ex.gfd hq rfl e ?_
              refine Ex.nwd hq rfl rfl ?_
              show Ex sc (d + 65) 62 49 [.ref 35, pu, pu, pu, .ref (x4 + 118), .int x5, .int r6] [.ref (s53.2.2.2.2.length + 118), .ref (v55 + 118)] (hpS (sD s53 (s53.2.2.2.2 ++ [(Sum.inr (1, pD1) : PC)]))) _
              refine Ex.seg hq 3 (j := 52) (L' := [.ref 35, pu, pu, pu, .ref (x4 + 118), .int x5, .int r6]) (S' := [.ref 35, .int r6, .ref (s53.2.2.2.2.length + 118), .ref (s53.2.2.2.2.length + 118), .ref (v55 + 118)]) (h' := hpS (sD s53 (s53.2.2.2.2 ++ [(Sum.inr (1, pD1) : PC)]))) rfl ?_
              refine Ex.cl hq rfl rfl ?_
              refine Rn.mono (q_66 (d := d + 0) (sD s53 (s53.2.2.2.2 ++ [(Sum.inr (1, pD1) : PC)])) k) ?_
              rintro _ _ ⟨r57, s56, rfl, rfl, k⟩
              show Ex sc (d + 65) 62 53 [.ref 35, pu, pu, pu, .ref (x4 + 118), .int x5, .int r6] [.ref (r57 + 118), .int r6, .ref (s53.2.2.2.2.length + 118), .ref (s53.2.2.2.2.length + 118), .ref (v55 + 118)] (hpS s56) _
              refine Ex.seg hq 2 (j := 55) (L' := [.ref 35, pu, pu, pu, .ref (x4 + 118), .int x5, .int r6]) (S' := [.int (-1 : Int32), .int (-1 : Int32), .ref (r57 + 118), .int r6, .ref (s53.2.2.2.2.length + 118), .ref (s53.2.2.2.2.length + 118), .ref (v55 + 118)]) (h' := hpS s56) rfl ?_
              refine Ex.cl hq rfl rfl ?_
              refine Rn.mono (q_18 (d := d + 63) s53.2.2.2.2.length r6 r57 (-1 : Int32) (-1 : Int32) s56 k) ?_
              rintro _ _ ⟨s58, rfl, rfl, k⟩
              show Ex sc (d + 65) 62 56 [.ref 35, pu, pu, pu, .ref (x4 + 118), .int x5, .int r6] [.ref (s53.2.2.2.2.length + 118), .ref (v55 + 118)] (hpS s58) _
              obtain ⟨f62, e, k⟩ := k
              refine Ex.cvd hq rfl rfl e rfl ?_
              refine Rn.mono (q_301 (d := d + 58) v55 s53.2.2.2.2.length s58 k) ?_
              rintro _ _ ⟨r61, s60, rfl, hzr61, rfl, k⟩
              show Ex sc (d + 65) 62 57 [.ref 35, pu, pu, pu, .ref (x4 + 118), .int x5, .int r6] [.int r61] (hpS s60) _
              refine Ex.seg hq 3 (j := 60) (L' := [.ref 35, pu, pu, pu, .ref (x4 + 118), .int x5, .int r6]) (S' := [.int (59 : Int32), .ref 35]) (h' := hpS s60) rfl ?_
              refine Ex.cl hq rfl rfl ?_
              refine Rn.mono (q_82 (d := d + 63) (59 : Int32) s60 k) ?_
              rintro _ _ ⟨r64, s63, rfl, hzr64, rfl, k⟩
              show Ex sc (d + 65) 62 61 [.ref 35, pu, pu, pu, .ref (x4 + 118), .int x5, .int r6] [.int r64] (hpS s63) _
              refine Ex.i1 hq rfl (fun c => ?_) (fun c => ?_)
              · have k := k.1 c
                refine Ex.seg hq 2 (j := 11) (L' := [.ref 35, pu, pu, pu, .ref (x4 + 118), .int (x5 + (1 : Int32)), .int r6]) (S' := []) (h' := hpS s63) rfl ?_
                refine Ex.fg (L := [.ref 35, pu, pu, pu, .ref (x4 + 118), .int (x5 + (1 : Int32)), pu]) ⟨Or.inl rfl, ⟨Or.inl rfl, ⟨Or.inl rfl, ⟨Or.inl rfl, ⟨Or.inl rfl, ⟨Or.inl rfl, ⟨Or.inr ⟨rfl, rfl⟩, trivial⟩⟩⟩⟩⟩⟩⟩ ?_
                exact ih x4 (x5 + (1 : Int32)) s63 k hX65 hX62
              · have k := k.2 c
                refine Ex.fg (L := [.ref 35, pu, pu, pu, .ref (x4 + 118), pu, pu]) ⟨Or.inl rfl, ⟨Or.inl rfl, ⟨Or.inl rfl, ⟨Or.inl rfl, ⟨Or.inl rfl, ⟨Or.inr ⟨rfl, rfl⟩, ⟨Or.inr ⟨rfl, rfl⟩, trivial⟩⟩⟩⟩⟩⟩⟩ ?_
                exact hX62 x4 s63 k
          · have k := k.2 c
            refine Ex.seg hq 1 (j := 32) (L' := [.ref 35, pu, pu, pu, .ref (x4 + 118), .int x5, .int r6]) (S' := [.ref (x4 + 118)]) (h' := hpS s39) rfl ?_
            obtain ⟨v65, e, k⟩ := k
            refine Ex.gfd hq rfl e ?_
            refine Ex.seg hq 1 (j := 34) (L' := [.ref 35, pu, pu, pu, .ref (x4 + 118), .int x5, .int r6]) (S' := [.ref 35, .ref (v65 + 118)]) (h' := hpS s39) rfl ?_
            refine Ex.cl hq rfl rfl ?_
            refine Rn.mono (q_65 (d := d + 61) s39 k) ?_
            rintro _ _ ⟨r67, s66, rfl, rfl, k⟩
            show Ex sc (d + 65) 62 35 [.ref 35, pu, pu, pu, .ref (x4 + 118), .int x5, .int r6] [.ref (r67 + 118), .ref (v65 + 118)] (hpS s66) _
            obtain ⟨f70, e, k⟩ := k
            refine Ex.cvd hq rfl rfl e rfl ?_
            refine Rn.mono (q_301 (d := d + 58) v65 r67 s66 k) ?_
            rintro _ _ ⟨r69, s68, rfl, hzr69, rfl, k⟩
            show Ex sc (d + 65) 62 36 [.ref 35, pu, pu, pu, .ref (x4 + 118), .int x5, .int r6] [.int r69] (hpS s68) _
            refine Ex.seg hq 4 (j := 60) (L' := [.ref 35, pu, pu, pu, .ref (x4 + 118), .int x5, .int r6]) (S' := [.int (59 : Int32), .ref 35]) (h' := hpS s68) rfl ?_
            refine Ex.cl hq rfl rfl ?_
            refine Rn.mono (q_82 (d := d + 63) (59 : Int32) s68 k) ?_
            rintro _ _ ⟨r72, s71, rfl, hzr72, rfl, k⟩
            show Ex sc (d + 65) 62 61 [.ref 35, pu, pu, pu, .ref (x4 + 118), .int x5, .int r6] [.int r72] (hpS s71) _
            refine Ex.i1 hq rfl (fun c => ?_) (fun c => ?_)
            · have k := k.1 c
              refine Ex.seg hq 2 (j := 11) (L' := [.ref 35, pu, pu, pu, .ref (x4 + 118), .int (x5 + (1 : Int32)), .int r6]) (S' := []) (h' := hpS s71) rfl ?_
              refine Ex.fg (L := [.ref 35, pu, pu, pu, .ref (x4 + 118), .int (x5 + (1 : Int32)), pu]) ⟨Or.inl rfl, ⟨Or.inl rfl, ⟨Or.inl rfl, ⟨Or.inl rfl, ⟨Or.inl rfl, ⟨Or.inl rfl, ⟨Or.inr ⟨rfl, rfl⟩, trivial⟩⟩⟩⟩⟩⟩⟩ ?_
              exact ih x4 (x5 + (1 : Int32)) s71 k hX65 hX62
            · have k := k.2 c
              refine Ex.fg (L := [.ref 35, pu, pu, pu, .ref (x4 + 118), pu, pu]) ⟨Or.inl rfl, ⟨Or.inl rfl, ⟨Or.inl rfl, ⟨Or.inl rfl, ⟨Or.inl rfl, ⟨Or.inr ⟨rfl, rfl⟩, ⟨Or.inr ⟨rfl, rfl⟩, trivial⟩⟩⟩⟩⟩⟩⟩ ?_
              exact hX62 x4 s71 k
        · have k := k.2 c
          refine Ex.seg hq 4 (j := 27) (L' := [.ref 35, pu, pu, pu, .ref (x4 + 118), .int x5, .int r6]) (S' := [.int (s39.1 3504), .int (4 : Int32), .ref 35]) (h' := hpS s39) rfl ?_
          refine Ex.cl hq rfl rfl ?_
          refine Rn.mono (q_85 (d := d + 64) (4 : Int32) (s39.1 3504) s39 k) ?_
          rintro _ _ ⟨s73, rfl, rfl, k⟩
          show Ex sc (d + 65) 62 28 [.ref 35, pu, pu, pu, .ref (x4 + 118), .int x5, .int r6] [] (hpS s73) _
          refine Ex.seg hq 2 (j := 30) (L' := [.ref 35, pu, pu, pu, .ref (x4 + 118), .int x5, .int r6]) (S' := [.int (120 : Int32), .int r6]) (h' := hpS s73) rfl ?_
          refine Ex.i2 hq rfl (fun c => ?_) (fun c => ?_)
          · have k := k.1 c
            refine Ex.seg hq 3 (j := 41) (L' := [.ref 35, pu, pu, pu, .ref (x4 + 118), .int x5, .int r6]) (S' := [.int (108 : Int32), .int r6, .ref 35]) (h' := hpS s73) rfl ?_
            refine Ex.i2 hq rfl (fun c => ?_) (fun c => ?_)
            · have k := k.1 c
              refine Ex.seg hq 1 (j := 45) (L' := [.ref 35, pu, pu, pu, .ref (x4 + 118), .int x5, .int r6]) (S' := [.int (114 : Int32), .ref 35]) (h' := hpS s73) rfl ?_
              refine Ex.cl hq rfl rfl ?_
              refine Rn.mono (q_83 (d := d + 63) (114 : Int32) s73 k) ?_
              rintro _ _ ⟨s75, rfl, rfl, k⟩
              show Ex sc (d + 65) 62 46 [.ref 35, pu, pu, pu, .ref (x4 + 118), .int x5, .int r6] [] (hpS s75) _
              refine Ex.seg hq 1 (j := 47) (L' := [.ref 35, pu, pu, pu, .ref (x4 + 118), .int x5, .int r6]) (S' := [.ref (x4 + 118)]) (h' := hpS s75) rfl ?_
              obtain ⟨v77, e, k⟩ := k
              refine Ex.gfd hq rfl e ?_
              refine Ex.nwd hq rfl rfl ?_
              show Ex sc (d + 65) 62 49 [.ref 35, pu, pu, pu, .ref (x4 + 118), .int x5, .int r6] [.ref (s75.2.2.2.2.length + 118), .ref (v77 + 118)] (hpS (sD s75 (s75.2.2.2.2 ++ [(Sum.inr (1, pD1) : PC)]))) _
              refine Ex.seg hq 3 (j := 52) (L' := [.ref 35, pu, pu, pu, .ref (x4 + 118), .int x5, .int r6]) (S' := [.ref 35, .int r6, .ref (s75.2.2.2.2.length + 118), .ref (s75.2.2.2.2.length + 118), .ref (v77 + 118)]) (h' := hpS (sD s75 (s75.2.2.2.2 ++ [(Sum.inr (1, pD1) : PC)]))) rfl ?_
              refine Ex.cl hq rfl rfl ?_
              refine Rn.mono (q_66 (d := d + 0) (sD s75 (s75.2.2.2.2 ++ [(Sum.inr (1, pD1) : PC)])) k) ?_
              rintro _ _ ⟨r79, s78, rfl, rfl, k⟩
              show Ex sc (d + 65) 62 53 [.ref 35, pu, pu, pu, .ref (x4 + 118), .int x5, .int r6] [.ref (r79 + 118), .int r6, .ref (s75.2.2.2.2.length + 118), .ref (s75.2.2.2.2.length + 118), .ref (v77 + 118)] (hpS s78) _
              refine Ex.seg hq 2 (j := 55) (L' := [.ref 35, pu, pu, pu, .ref (x4 + 118), .int x5, .int r6]) (S' := [.int (-1 : Int32), .int (-1 : Int32), .ref (r79 + 118), .int r6, .ref (s75.2.2.2.2.length + 118), .ref (s75.2.2.2.2.length + 118), .ref (v77 + 118)]) (h' := hpS s78) rfl ?_
              refine Ex.cl hq rfl rfl ?_
              refine Rn.mono (q_18 (d := d + 63) s75.2.2.2.2.length r6 r79 (-1 : Int32) (-1 : Int32) s78 k) ?_
              rintro _ _ ⟨s80, rfl, rfl, k⟩
              show Ex sc (d + 65) 62 56 [.ref 35, pu, pu, pu, .ref (x4 + 118), .int x5, .int r6] [.ref (s75.2.2.2.2.length + 118), .ref (v77 + 118)] (hpS s80) _
              obtain ⟨f84, e, k⟩ := k
              refine Ex.cvd hq rfl rfl e rfl ?_
              refine Rn.mono (q_301 (d := d + 58) v77 s75.2.2.2.2.length s80 k) ?_
              rintro _ _ ⟨r83, s82, rfl, hzr83, rfl, k⟩
              show Ex sc (d + 65) 62 57 [.ref 35, pu, pu, pu, .ref (x4 + 118), .int x5, .int r6] [.int r83] (hpS s82) _
              refine Ex.seg hq 3 (j := 60) (L' := [.ref 35, pu, pu, pu, .ref (x4 + 118), .int x5, .int r6]) (S' := [.int (59 : Int32), .ref 35]) (h' := hpS s82) rfl ?_
              refine Ex.cl hq rfl rfl ?_
              refine Rn.mono (q_82 (d := d + 63) (59 : Int32) s82 k) ?_
              rintro _ _ ⟨r86, s85, rfl, hzr86, rfl, k⟩
              show Ex sc (d + 65) 62 61 [.ref 35, pu, pu, pu, .ref (x4 + 118), .int x5, .int r6] [.int r86] (hpS s85) _
              refine Ex.i1 hq rfl (fun c => ?_) (fun c => ?_)
              · have k := k.1 c
                refine Ex.seg hq 2 (j := 11) (L' := [.ref 35, pu, pu, pu, .ref (x4 + 118), .int (x5 + (1 : Int32)), .int r6]) (S' := []) (h' := hpS s85) rfl ?_
                refine Ex.fg (L := [.ref 35, pu, pu, pu, .ref (x4 + 118), .int (x5 + (1 : Int32)), pu]) ⟨Or.inl rfl, ⟨Or.inl rfl, ⟨Or.inl rfl, ⟨Or.inl rfl, ⟨Or.inl rfl, ⟨Or.inl rfl, ⟨Or.inr ⟨rfl, rfl⟩, trivial⟩⟩⟩⟩⟩⟩⟩ ?_
                exact ih x4 (x5 + (1 : Int32)) s85 k hX65 hX62
              · have k := k.2 c
                refine Ex.fg (L := [.ref 35, pu, pu, pu, .ref (x4 + 118), pu, pu]) ⟨Or.inl rfl, ⟨Or.inl rfl, ⟨Or.inl rfl, ⟨Or.inl rfl, ⟨Or.inl rfl, ⟨Or.inr ⟨rfl, rfl⟩, ⟨Or.inr ⟨rfl, rfl⟩, trivial⟩⟩⟩⟩⟩⟩⟩ ?_
                exact hX62 x4 s85 k
            · have k := k.2 c
              refine Ex.seg hq 2 (j := 45) (L' := [.ref 35, pu, pu, pu, .ref (x4 + 118), .int x5, .int r6]) (S' := [.int (108 : Int32), .ref 35]) (h' := hpS s73) rfl ?_
              refine Ex.cl hq rfl rfl ?_
              refine Rn.mono (q_83 (d := d + 63) (108 : Int32) s73 k) ?_
              rintro _ _ ⟨s87, rfl, rfl, k⟩
              show Ex sc (d + 65) 62 46 [.ref 35, pu, pu, pu, .ref (x4 + 118), .int x5, .int r6] [] (hpS s87) _
              refine Ex.seg hq 1 (j := 47) (L' := [.ref 35, pu, pu, pu, .ref (x4 + 118), .int x5, .int r6]) (S' := [.ref (x4 + 118)]) (h' := hpS s87) rfl ?_
              obtain ⟨v89, e, k⟩ := k
              refine Ex.gfd hq rfl e ?_
              refine Ex.nwd hq rfl rfl ?_
              show Ex sc (d + 65) 62 49 [.ref 35, pu, pu, pu, .ref (x4 + 118), .int x5, .int r6] [.ref (s87.2.2.2.2.length + 118), .ref (v89 + 118)] (hpS (sD s87 (s87.2.2.2.2 ++ [(Sum.inr (1, pD1) : PC)]))) _
              refine Ex.seg hq 3 (j := 52) (L' := [.ref 35, pu, pu, pu, .ref (x4 + 118), .int x5, .int r6]) (S' := [.ref 35, .int r6, .ref (s87.2.2.2.2.length + 118), .ref (s87.2.2.2.2.length + 118), .ref (v89 + 118)]) (h' := hpS (sD s87 (s87.2.2.2.2 ++ [(Sum.inr (1, pD1) : PC)]))) rfl ?_
              refine Ex.cl hq rfl rfl ?_
              refine Rn.mono (q_66 (d := d + 0) (sD s87 (s87.2.2.2.2 ++ [(Sum.inr (1, pD1) : PC)])) k) ?_
              rintro _ _ ⟨r91, s90, rfl, rfl, k⟩
              show Ex sc (d + 65) 62 53 [.ref 35, pu, pu, pu, .ref (x4 + 118), .int x5, .int r6] [.ref (r91 + 118), .int r6, .ref (s87.2.2.2.2.length + 118), .ref (s87.2.2.2.2.length + 118), .ref (v89 + 118)] (hpS s90) _
              refine Ex.seg hq 2 (j := 55) (L' := [.ref 35, pu, pu, pu, .ref (x4 + 118), .int x5, .int r6]) (S' := [.int (-1 : Int32), .int (-1 : Int32), .ref (r91 + 118), .int r6, .ref (s87.2.2.2.2.length + 118), .ref (s87.2.2.2.2.length + 118), .ref (v89 + 118)]) (h' := hpS s90) rfl ?_
              refine Ex.cl hq rfl rfl ?_
              refine Rn.mono (q_18 (d := d + 63) s87.2.2.2.2.length r6 r91 (-1 : Int32) (-1 : Int32) s90 k) ?_
              rintro _ _ ⟨s92, rfl, rfl, k⟩
              show Ex sc (d + 65) 62 56 [.ref 35, pu, pu, pu, .ref (x4 + 118), .int x5, .int r6] [.ref (s87.2.2.2.2.length + 118), .ref (v89 + 118)] (hpS s92) _
              obtain ⟨f96, e, k⟩ := k
              refine Ex.cvd hq rfl rfl e rfl ?_
              refine Rn.mono (q_301 (d := d + 58) v89 s87.2.2.2.2.length s92 k) ?_
              rintro _ _ ⟨r95, s94, rfl, hzr95, rfl, k⟩
              show Ex sc (d + 65) 62 57 [.ref 35, pu, pu, pu, .ref (x4 + 118), .int x5, .int r6] [.int r95] (hpS s94) _
              refine Ex.seg hq 3 (j := 60) (L' := [.ref 35, pu, pu, pu, .ref (x4 + 118), .int x5, .int r6]) (S' := [.int (59 : Int32), .ref 35]) (h' := hpS s94) rfl ?_
              refine Ex.cl hq rfl rfl ?_
              refine Rn.mono (q_82 (d := d + 63) (59 : Int32) s94 k) ?_
              rintro _ _ ⟨r98, s97, rfl, hzr98, rfl, k⟩
              show Ex sc (d + 65) 62 61 [.ref 35, pu, pu, pu, .ref (x4 + 118), .int x5, .int r6] [.int r98] (hpS s97) _
              refine Ex.i1 hq rfl (fun c => ?_) (fun c => ?_)
              · have k := k.1 c
                refine Ex.seg hq 2 (j := 11) (L' := [.ref 35, pu, pu, pu, .ref (x4 + 118), .int (x5 + (1 : Int32)), .int r6]) (S' := []) (h' := hpS s97) rfl ?_
                refine Ex.fg (L := [.ref 35, pu, pu, pu, .ref (x4 + 118), .int (x5 + (1 : Int32)), pu]) ⟨Or.inl rfl, ⟨Or.inl rfl, ⟨Or.inl rfl, ⟨Or.inl rfl, ⟨Or.inl rfl, ⟨Or.inl rfl, ⟨Or.inr ⟨rfl, rfl⟩, trivial⟩⟩⟩⟩⟩⟩⟩ ?_
                exact ih x4 (x5 + (1 : Int32)) s97 k hX65 hX62
              · have k := k.2 c
                refine Ex.fg (L := [.ref 35, pu, pu, pu, .ref (x4 + 118), pu, pu]) ⟨Or.inl rfl, ⟨Or.inl rfl, ⟨Or.inl rfl, ⟨Or.inl rfl, ⟨Or.inl rfl, ⟨Or.inr ⟨rfl, rfl⟩, ⟨Or.inr ⟨rfl, rfl⟩, trivial⟩⟩⟩⟩⟩⟩⟩ ?_
                exact hX62 x4 s97 k
          · have k := k.2 c
            refine Ex.seg hq 1 (j := 32) (L' := [.ref 35, pu, pu, pu, .ref (x4 + 118), .int x5, .int r6]) (S' := [.ref (x4 + 118)]) (h' := hpS s73) rfl ?_
            obtain ⟨v99, e, k⟩ := k
            refine Ex.gfd hq rfl e ?_
            refine Ex.seg hq 1 (j := 34) (L' := [.ref 35, pu, pu, pu, .ref (x4 + 118), .int x5, .int r6]) (S' := [.ref 35, .ref (v99 + 118)]) (h' := hpS s73) rfl ?_
            refine Ex.cl hq rfl rfl ?_
            refine Rn.mono (q_65 (d := d + 61) s73 k) ?_
            rintro _ _ ⟨r101, s100, rfl, rfl, k⟩
            show Ex sc (d + 65) 62 35 [.ref 35, pu, pu, pu, .ref (x4 + 118), .int x5, .int r6] [.ref (r101 + 118), .ref (v99 + 118)] (hpS s100) _
            obtain ⟨f104, e, k⟩ := k
            refine Ex.cvd hq rfl rfl e rfl ?_
            refine Rn.mono (q_301 (d := d + 58) v99 r101 s100 k) ?_
            rintro _ _ ⟨r103, s102, rfl, hzr103, rfl, k⟩
            show Ex sc (d + 65) 62 36 [.ref 35, pu, pu, pu, .ref (x4 + 118), .int x5, .int r6] [.int r103] (hpS s102) _
            refine Ex.seg hq 4 (j := 60) (L' := [.ref 35, pu, pu, pu, .ref (x4 + 118), .int x5, .int r6]) (S' := [.int (59 : Int32), .ref 35]) (h' := hpS s102) rfl ?_
            refine Ex.cl hq rfl rfl ?_
            refine Rn.mono (q_82 (d := d + 63) (59 : Int32) s102 k) ?_
            rintro _ _ ⟨r106, s105, rfl, hzr106, rfl, k⟩
            show Ex sc (d + 65) 62 61 [.ref 35, pu, pu, pu, .ref (x4 + 118), .int x5, .int r6] [.int r106] (hpS s105) _
            refine Ex.i1 hq rfl (fun c => ?_) (fun c => ?_)
            · have k := k.1 c
              refine Ex.seg hq 2 (j := 11) (L' := [.ref 35, pu, pu, pu, .ref (x4 + 118), .int (x5 + (1 : Int32)), .int r6]) (S' := []) (h' := hpS s105) rfl ?_
              refine Ex.fg (L := [.ref 35, pu, pu, pu, .ref (x4 + 118), .int (x5 + (1 : Int32)), pu]) ⟨Or.inl rfl, ⟨Or.inl rfl, ⟨Or.inl rfl, ⟨Or.inl rfl, ⟨Or.inl rfl, ⟨Or.inl rfl, ⟨Or.inr ⟨rfl, rfl⟩, trivial⟩⟩⟩⟩⟩⟩⟩ ?_
              exact ih x4 (x5 + (1 : Int32)) s105 k hX65 hX62
            · have k := k.2 c
              refine Ex.fg (L := [.ref 35, pu, pu, pu, .ref (x4 + 118), pu, pu]) ⟨Or.inl rfl, ⟨Or.inl rfl, ⟨Or.inl rfl, ⟨Or.inl rfl, ⟨Or.inl rfl, ⟨Or.inr ⟨rfl, rfl⟩, ⟨Or.inr ⟨rfl, rfl⟩, trivial⟩⟩⟩⟩⟩⟩⟩ ?_
              exact hX62 x4 s105 k
/-- RowAuditor$Parser.ruleText(III)LRowAuditor$Text; -/
def w_62 (p1 : Int32) (p2 : Int32) (p3 : Int32) (s : ST) (K : Nat → ST → Prop) : Prop := w_59 p1 s (fun s1 => w_107 s1.2.2.2.2.length p2 p3 (sD s1 (s1.2.2.2.2 ++ [(Sum.inr (9, pD9) : PC)])) (fun s3 => (∃ m, w_62_L11 m s1.2.2.2.2.length (0 : Int32) s3 (fun y4 s107 => w_84 s107 (fun s108 => K y4 s108)) (fun y4 s110 => w_84 s110 (fun s111 => K y4 s111)) K)))
theorem q_62 {d : Nat} {K : Nat → ST → Prop} (p1 : Int32) (p2 : Int32) (p3 : Int32) (s : ST) (k : w_62 p1 p2 p3 s K) : Rn sc (d + 65) 62 [.ref 35, .int p1, .int p2, .int p3] (hpS s) (kA K) := by
  have hq : prog[62]? = some pm62 := rfl
  refine Rn.of (L := [.ref 35, .int p1, .int p2, .int p3, pu, pu, pu]) hq rfl rfl ?_
  unfold w_62 at k
  refine Ex.seg hq 2 (j := 2) (L' := [.ref 35, .int p1, .int p2, .int p3, pu, pu, pu]) (S' := [.int p1, .ref 35]) (h' := hpS s) rfl ?_
  refine Ex.cl hq rfl rfl ?_
  refine Rn.mono (q_59 (d := d + 63) p1 s k) ?_
  rintro _ _ ⟨s1, rfl, rfl, k⟩
  show Ex sc (d + 65) 62 3 [.ref 35, .int p1, .int p2, .int p3, pu, pu, pu] [] (hpS s1) _
  refine Ex.nwd hq rfl rfl ?_
  show Ex sc (d + 65) 62 4 [.ref 35, .int p1, .int p2, .int p3, pu, pu, pu] [.ref (s1.2.2.2.2.length + 118)] (hpS (sD s1 (s1.2.2.2.2 ++ [(Sum.inr (9, pD9) : PC)]))) _
  refine Ex.seg hq 3 (j := 7) (L' := [.ref 35, .int p1, .int p2, .int p3, pu, pu, pu]) (S' := [.int p3, .int p2, .ref (s1.2.2.2.2.length + 118), .ref (s1.2.2.2.2.length + 118)]) (h' := hpS (sD s1 (s1.2.2.2.2 ++ [(Sum.inr (9, pD9) : PC)]))) rfl ?_
  refine Ex.cl hq rfl rfl ?_
  refine Rn.mono (q_107 (d := d + 60) s1.2.2.2.2.length p2 p3 (sD s1 (s1.2.2.2.2 ++ [(Sum.inr (9, pD9) : PC)])) k) ?_
  rintro _ _ ⟨s3, rfl, rfl, k⟩
  show Ex sc (d + 65) 62 8 [.ref 35, .int p1, .int p2, .int p3, pu, pu, pu] [.ref (s1.2.2.2.2.length + 118)] (hpS s3) _
  refine Ex.seg hq 3 (j := 11) (L' := [.ref 35, .int p1, .int p2, .int p3, .ref (s1.2.2.2.2.length + 118), .int (0 : Int32), pu]) (S' := []) (h' := hpS s3) rfl ?_
  obtain ⟨m, k⟩ := k
  refine Ex.fg (L := [.ref 35, pu, pu, pu, .ref (s1.2.2.2.2.length + 118), .int (0 : Int32), pu]) ⟨Or.inl rfl, ⟨Or.inr ⟨rfl, rfl⟩, ⟨Or.inr ⟨rfl, rfl⟩, ⟨Or.inr ⟨rfl, rfl⟩, ⟨Or.inl rfl, ⟨Or.inl rfl, ⟨Or.inl rfl, trivial⟩⟩⟩⟩⟩⟩⟩ ?_
  refine q_62_L11 (d := d) m s1.2.2.2.2.length (0 : Int32) s3 k ?_ ?_
  · intro y4 s107 k
    refine Ex.seg hq 1 (j := 66) (L' := [.ref 35, pu, pu, pu, .ref (y4 + 118), pu, pu]) (S' := [.ref 35]) (h' := hpS s107) rfl ?_
    refine Ex.cl hq rfl rfl ?_
    refine Rn.mono (q_84 (d := d + 63) s107 k) ?_
    rintro _ _ ⟨s108, rfl, rfl, k⟩
    show Ex sc (d + 65) 62 67 [.ref 35, pu, pu, pu, .ref (y4 + 118), pu, pu] [] (hpS s108) _
    refine Ex.seg hq 1 (j := 68) (L' := [.ref 35, pu, pu, pu, .ref (y4 + 118), pu, pu]) (S' := [.ref (y4 + 118)]) (h' := hpS s108) rfl ?_
    exact Ex.rt hq rfl rfl ⟨y4, s108, rfl, rfl, k⟩
  · intro y4 s110 k
    refine Ex.seg hq 2 (j := 66) (L' := [.ref 35, pu, pu, pu, .ref (y4 + 118), pu, pu]) (S' := [.ref 35]) (h' := hpS s110) rfl ?_
    refine Ex.cl hq rfl rfl ?_
    refine Rn.mono (q_84 (d := d + 63) s110 k) ?_
    rintro _ _ ⟨s111, rfl, rfl, k⟩
    show Ex sc (d + 65) 62 67 [.ref 35, pu, pu, pu, .ref (y4 + 118), pu, pu] [] (hpS s111) _
    refine Ex.seg hq 1 (j := 68) (L' := [.ref 35, pu, pu, pu, .ref (y4 + 118), pu, pu]) (S' := [.ref (y4 + 118)]) (h' := hpS s111) rfl ?_
    exact Ex.rt hq rfl rfl ⟨y4, s111, rfl, rfl, k⟩
end WP
