/-! ===== weakest preconditions, printed by wip/whole/genwp.py ===== -/
section WP
variable {sc : Nat × (Nat → Int32)}
/-- RowAuditor.within(III)Z -/
def w_181 (p0 : Int32) (p1 : Int32) (p2 : Int32) (s : ST) (K : Int32 → ST → Prop) : Prop := ((p0 < p1 → K (0 : Int32) s) ∧ (¬ (p0 < p1) → ((p2 < p0 → K (0 : Int32) s) ∧ (¬ (p2 < p0) → K (1 : Int32) s))))
theorem q_181 {d : Nat} {K : Int32 → ST → Prop} (p0 : Int32) (p1 : Int32) (p2 : Int32) (s : ST) (k : w_181 p0 p1 p2 s K) : Rn sc (d + 0) 181 [.int p0, .int p1, .int p2] (hpS s) (kZ K) := by
  have hq : prog[181]? = some pm181 := rfl
  refine Rn.of (L := [.int p0, .int p1, .int p2]) hq rfl rfl ?_
  unfold w_181 at k
  refine Ex.seg hq 2 (j := 2) (L' := [.int p0, .int p1, .int p2]) (S' := [.int p1, .int p0]) (h' := hpS s) rfl ?_
  refine Ex.i2 hq rfl (fun c => ?_) (fun c => ?_)
  · have k := k.1 c
    refine Ex.seg hq 1 (j := 9) (L' := [.int p0, .int p1, .int p2]) (S' := [.int (0 : Int32)]) (h' := hpS s) rfl ?_
    exact Ex.zr hq rfl rfl (Or.inl rfl) ⟨(0 : Int32), s, rfl, (Or.inl rfl), rfl, k⟩
  · have k := k.2 c
    refine Ex.seg hq 2 (j := 5) (L' := [.int p0, .int p1, .int p2]) (S' := [.int p2, .int p0]) (h' := hpS s) rfl ?_
    refine Ex.i2 hq rfl (fun c => ?_) (fun c => ?_)
    · have k := k.1 c
      refine Ex.seg hq 1 (j := 9) (L' := [.int p0, .int p1, .int p2]) (S' := [.int (0 : Int32)]) (h' := hpS s) rfl ?_
      exact Ex.zr hq rfl rfl (Or.inl rfl) ⟨(0 : Int32), s, rfl, (Or.inl rfl), rfl, k⟩
    · have k := k.2 c
      refine Ex.seg hq 2 (j := 9) (L' := [.int p0, .int p1, .int p2]) (S' := [.int (1 : Int32)]) (h' := hpS s) rfl ?_
      exact Ex.zr hq rfl rfl (Or.inr rfl) ⟨(1 : Int32), s, rfl, (Or.inr rfl), rfl, k⟩
/-- RowAuditor.isIn(II)Z -/
def w_184 (p0 : Int32) (p1 : Int32) (s : ST) (K : Int32 → ST → Prop) : Prop := ((((p1 >>> (p0 &&& 31)) &&& (1 : Int32)) = 0 → K (0 : Int32) s) ∧ (¬ (((p1 >>> (p0 &&& 31)) &&& (1 : Int32)) = 0) → K (1 : Int32) s))
theorem q_184 {d : Nat} {K : Int32 → ST → Prop} (p0 : Int32) (p1 : Int32) (s : ST) (k : w_184 p0 p1 s K) : Rn sc (d + 0) 184 [.int p0, .int p1] (hpS s) (kZ K) := by
  have hq : prog[184]? = some pm184 := rfl
  refine Rn.of (L := [.int p0, .int p1]) hq rfl rfl ?_
  unfold w_184 at k
  refine Ex.seg hq 5 (j := 5) (L' := [.int p0, .int p1]) (S' := [.int ((p1 >>> (p0 &&& 31)) &&& (1 : Int32))]) (h' := hpS s) rfl ?_
  refine Ex.i1 hq rfl (fun c => ?_) (fun c => ?_)
  · have k := k.1 c
    refine Ex.seg hq 1 (j := 9) (L' := [.int p0, .int p1]) (S' := [.int (0 : Int32)]) (h' := hpS s) rfl ?_
    exact Ex.zr hq rfl rfl (Or.inl rfl) ⟨(0 : Int32), s, rfl, (Or.inl rfl), rfl, k⟩
  · have k := k.2 c
    refine Ex.seg hq 2 (j := 9) (L' := [.int p0, .int p1]) (S' := [.int (1 : Int32)]) (h' := hpS s) rfl ?_
    exact Ex.zr hq rfl rfl (Or.inr rfl) ⟨(1 : Int32), s, rfl, (Or.inr rfl), rfl, k⟩
def w_33_L55 : Nat → Int32 → Int32 → Int32 → ST → (Int32 → ST → Prop) → (Int32 → ST → Prop) → Prop
  | 0, _, _, _, _, _, _ => False
  | n + 1, x3, x4, x5, s, X79, K => (((s.1 5007) ≤ x5 → X79 x4 s) ∧ (¬ ((s.1 5007) ≤ x5) → (((4 : Int32) ≤ x5 → X79 x4 s) ∧ (¬ ((4 : Int32) ≤ x5) → (pin x5 4 = true ∧ ((¬ (((s.2.1 54) (x5).toNatClampNeg) &&& (x3 ^^^ (-1 : Int32))) = 0 → w_33_L55 n x3 x4 (x5 + (1 : Int32)) s X79 K) ∧ (¬ (¬ (((s.2.1 54) (x5).toNatClampNeg) &&& (x3 ^^^ (-1 : Int32))) = 0) → w_33_L55 n x3 (x4 ||| ((1 : Int32) <<< (x5 &&& 31))) (x5 + (1 : Int32)) s X79 K)))))))
theorem q_33_L55 {d : Nat} {X79 : Int32 → ST → Prop} {K : Int32 → ST → Prop} : ∀ (n : Nat) (x3 : Int32) (x4 : Int32) (x5 : Int32) (s : ST), w_33_L55 n x3 x4 x5 s X79 K → (∀ (y4 : Int32) (s : ST), X79 y4 s → Ex sc (d + 2) 33 79 [pu, pu, pu, pu, .int y4, pu] [] (hpS s) (kI K)) → Ex sc (d + 2) 33 55 [.ref 50, pu, pu, .int x3, .int x4, .int x5] [] (hpS s) (kI K) := by
  have hq : prog[33]? = some pm33 := rfl
  intro n
  induction n with
  | zero =>
    intro x3 x4 x5 s k
    exact k.elim
  | succ n ih =>
    intro x3 x4 x5 s k hX79
    rw [w_33_L55] at k
    refine Ex.seg hq 3 (j := 58) (L' := [.ref 50, pu, pu, .int x3, .int x4, .int x5]) (S' := [.int (s.1 5007), .int x5]) (h' := hpS s) rfl ?_
    refine Ex.i2 hq rfl (fun c => ?_) (fun c => ?_)
    · have k := k.1 c
      refine Ex.fg (L := [pu, pu, pu, pu, .int x4, pu]) ⟨Or.inr ⟨rfl, rfl⟩, ⟨Or.inl rfl, ⟨Or.inl rfl, ⟨Or.inr ⟨rfl, rfl⟩, ⟨Or.inl rfl, ⟨Or.inr ⟨rfl, rfl⟩, trivial⟩⟩⟩⟩⟩⟩ ?_
      exact hX79 x4 s k
    · have k := k.2 c
      refine Ex.seg hq 2 (j := 61) (L' := [.ref 50, pu, pu, .int x3, .int x4, .int x5]) (S' := [.int (4 : Int32), .int x5]) (h' := hpS s) rfl ?_
      refine Ex.i2 hq rfl (fun c => ?_) (fun c => ?_)
      · have k := k.1 c
        refine Ex.fg (L := [pu, pu, pu, pu, .int x4, pu]) ⟨Or.inr ⟨rfl, rfl⟩, ⟨Or.inl rfl, ⟨Or.inl rfl, ⟨Or.inr ⟨rfl, rfl⟩, ⟨Or.inl rfl, ⟨Or.inr ⟨rfl, rfl⟩, trivial⟩⟩⟩⟩⟩⟩ ?_
        exact hX79 x4 s k
      · have k := k.2 c
        refine Ex.seg hq 3 (j := 65) (L' := [.ref 50, pu, pu, .int x3, .int x4, .int x5]) (S' := [.int x5, .ref 54]) (h' := hpS s) rfl ?_
        obtain ⟨hin, k⟩ := k
        refine Ex.ial hq rfl rfl hin ?_
        refine Ex.seg hq 4 (j := 70) (L' := [.ref 50, pu, pu, .int x3, .int x4, .int x5]) (S' := [.int (((s.2.1 54) (x5).toNatClampNeg) &&& (x3 ^^^ (-1 : Int32)))]) (h' := hpS s) rfl ?_
        refine Ex.i1 hq rfl (fun c => ?_) (fun c => ?_)
        · have k := k.1 c
          refine Ex.seg hq 2 (j := 55) (L' := [.ref 50, pu, pu, .int x3, .int x4, .int (x5 + (1 : Int32))]) (S' := []) (h' := hpS s) rfl ?_
          exact ih x3 x4 (x5 + (1 : Int32)) s k hX79
        · have k := k.2 c
          refine Ex.seg hq 8 (j := 55) (L' := [.ref 50, pu, pu, .int x3, .int (x4 ||| ((1 : Int32) <<< (x5 &&& 31))), .int (x5 + (1 : Int32))]) (S' := []) (h' := hpS s) rfl ?_
          exact ih x3 (x4 ||| ((1 : Int32) <<< (x5 &&& 31))) (x5 + (1 : Int32)) s k hX79
/-- RowAuditor$Fitter.stepsAlike(II)I -/
def w_33 (p1 : Int32) (p2 : Int32) (s : ST) (K : Int32 → ST → Prop) : Prop := w_15 p2 s (fun r2 s1 => w_15 p1 s1 (fun r4 s3 => ((¬ r2 = r4 → w_9 p2 (6 : Int32) s3 (fun r6 s5 => w_9 p1 (6 : Int32) s5 (fun r8 s7 => ((¬ r6 = r8 → w_9 p2 (1 : Int32) s7 (fun r10 s9 => w_9 p1 (1 : Int32) s9 (fun r12 s11 => ((¬ r10 = r12 → (∃ m, w_33_L55 m ((((0 : Int32) ||| (0 : Int32)) ||| (0 : Int32)) ||| (0 : Int32)) (0 : Int32) (1 : Int32) s11 (fun y4 s13 => K y4 s13) K)) ∧ (¬ (¬ r10 = r12) → (∃ m, w_33_L55 m ((((0 : Int32) ||| (0 : Int32)) ||| (0 : Int32)) ||| (4 : Int32)) (0 : Int32) (1 : Int32) s11 (fun y4 s14 => K y4 s14) K)))))) ∧ (¬ (¬ r6 = r8) → w_9 p2 (1 : Int32) s7 (fun r16 s15 => w_9 p1 (1 : Int32) s15 (fun r18 s17 => ((¬ r16 = r18 → (∃ m, w_33_L55 m ((((0 : Int32) ||| (0 : Int32)) ||| (2 : Int32)) ||| (0 : Int32)) (0 : Int32) (1 : Int32) s17 (fun y4 s19 => K y4 s19) K)) ∧ (¬ (¬ r16 = r18) → (∃ m, w_33_L55 m ((((0 : Int32) ||| (0 : Int32)) ||| (2 : Int32)) ||| (4 : Int32)) (0 : Int32) (1 : Int32) s17 (fun y4 s20 => K y4 s20) K)))))))))) ∧ (¬ (¬ r2 = r4) → w_9 p2 (6 : Int32) s3 (fun r22 s21 => w_9 p1 (6 : Int32) s21 (fun r24 s23 => ((¬ r22 = r24 → w_9 p2 (1 : Int32) s23 (fun r26 s25 => w_9 p1 (1 : Int32) s25 (fun r28 s27 => ((¬ r26 = r28 → (∃ m, w_33_L55 m ((((0 : Int32) ||| (1 : Int32)) ||| (0 : Int32)) ||| (0 : Int32)) (0 : Int32) (1 : Int32) s27 (fun y4 s29 => K y4 s29) K)) ∧ (¬ (¬ r26 = r28) → (∃ m, w_33_L55 m ((((0 : Int32) ||| (1 : Int32)) ||| (0 : Int32)) ||| (4 : Int32)) (0 : Int32) (1 : Int32) s27 (fun y4 s30 => K y4 s30) K)))))) ∧ (¬ (¬ r22 = r24) → w_9 p2 (1 : Int32) s23 (fun r32 s31 => w_9 p1 (1 : Int32) s31 (fun r34 s33 => ((¬ r32 = r34 → (∃ m, w_33_L55 m ((((0 : Int32) ||| (1 : Int32)) ||| (2 : Int32)) ||| (0 : Int32)) (0 : Int32) (1 : Int32) s33 (fun y4 s35 => K y4 s35) K)) ∧ (¬ (¬ r32 = r34) → (∃ m, w_33_L55 m ((((0 : Int32) ||| (1 : Int32)) ||| (2 : Int32)) ||| (4 : Int32)) (0 : Int32) (1 : Int32) s33 (fun y4 s36 => K y4 s36) K)))))))))))))
theorem q_33 {d : Nat} {K : Int32 → ST → Prop} (p1 : Int32) (p2 : Int32) (s : ST) (k : w_33 p1 p2 s K) : Rn sc (d + 2) 33 [.ref 50, .int p1, .int p2] (hpS s) (kI K) := by
  have hq : prog[33]? = some pm33 := rfl
  refine Rn.of (L := [.ref 50, .int p1, .int p2, pu, pu, pu]) hq rfl rfl ?_
  unfold w_33 at k
  refine Ex.seg hq 6 (j := 6) (L' := [.ref 50, .int p1, .int p2, .int (0 : Int32), pu, pu]) (S' := [.int p2, .ref 1, .int (0 : Int32)]) (h' := hpS s) rfl ?_
  refine Ex.cl hq rfl rfl ?_
  refine Rn.mono (q_15 (d := d + 0) p2 s k) ?_
  rintro _ _ ⟨r2, s1, rfl, rfl, k⟩
  show Ex sc (d + 2) 33 7 [.ref 50, .int p1, .int p2, .int (0 : Int32), pu, pu] [.int r2, .int (0 : Int32)] (hpS s1) _
  refine Ex.seg hq 3 (j := 10) (L' := [.ref 50, .int p1, .int p2, .int (0 : Int32), pu, pu]) (S' := [.int p1, .ref 1, .int r2, .int (0 : Int32)]) (h' := hpS s1) rfl ?_
  refine Ex.cl hq rfl rfl ?_
  refine Rn.mono (q_15 (d := d + 0) p1 s1 k) ?_
  rintro _ _ ⟨r4, s3, rfl, rfl, k⟩
  show Ex sc (d + 2) 33 11 [.ref 50, .int p1, .int p2, .int (0 : Int32), pu, pu] [.int r4, .int r2, .int (0 : Int32)] (hpS s3) _
  refine Ex.i2 hq rfl (fun c => ?_) (fun c => ?_)
  · have k := k.1 c
    refine Ex.seg hq 8 (j := 22) (L' := [.ref 50, .int p1, .int p2, .int ((0 : Int32) ||| (0 : Int32)), pu, pu]) (S' := [.int (6 : Int32), .int p2, .ref 1, .int ((0 : Int32) ||| (0 : Int32))]) (h' := hpS s3) rfl ?_
    refine Ex.cl hq rfl rfl ?_
    refine Rn.mono (q_9 (d := d + 1) p2 (6 : Int32) s3 k) ?_
    rintro _ _ ⟨r6, s5, rfl, rfl, k⟩
    show Ex sc (d + 2) 33 23 [.ref 50, .int p1, .int p2, .int ((0 : Int32) ||| (0 : Int32)), pu, pu] [.int r6, .int ((0 : Int32) ||| (0 : Int32))] (hpS s5) _
    refine Ex.seg hq 4 (j := 27) (L' := [.ref 50, .int p1, .int p2, .int ((0 : Int32) ||| (0 : Int32)), pu, pu]) (S' := [.int (6 : Int32), .int p1, .ref 1, .int r6, .int ((0 : Int32) ||| (0 : Int32))]) (h' := hpS s5) rfl ?_
    refine Ex.cl hq rfl rfl ?_
    refine Rn.mono (q_9 (d := d + 1) p1 (6 : Int32) s5 k) ?_
    rintro _ _ ⟨r8, s7, rfl, rfl, k⟩
    show Ex sc (d + 2) 33 28 [.ref 50, .int p1, .int p2, .int ((0 : Int32) ||| (0 : Int32)), pu, pu] [.int r8, .int r6, .int ((0 : Int32) ||| (0 : Int32))] (hpS s7) _
    refine Ex.i2 hq rfl (fun c => ?_) (fun c => ?_)
    · have k := k.1 c
      refine Ex.seg hq 8 (j := 39) (L' := [.ref 50, .int p1, .int p2, .int (((0 : Int32) ||| (0 : Int32)) ||| (0 : Int32)), pu, pu]) (S' := [.int (1 : Int32), .int p2, .ref 1, .int (((0 : Int32) ||| (0 : Int32)) ||| (0 : Int32))]) (h' := hpS s7) rfl ?_
      refine Ex.cl hq rfl rfl ?_
      refine Rn.mono (q_9 (d := d + 1) p2 (1 : Int32) s7 k) ?_
      rintro _ _ ⟨r10, s9, rfl, rfl, k⟩
      show Ex sc (d + 2) 33 40 [.ref 50, .int p1, .int p2, .int (((0 : Int32) ||| (0 : Int32)) ||| (0 : Int32)), pu, pu] [.int r10, .int (((0 : Int32) ||| (0 : Int32)) ||| (0 : Int32))] (hpS s9) _
      refine Ex.seg hq 4 (j := 44) (L' := [.ref 50, .int p1, .int p2, .int (((0 : Int32) ||| (0 : Int32)) ||| (0 : Int32)), pu, pu]) (S' := [.int (1 : Int32), .int p1, .ref 1, .int r10, .int (((0 : Int32) ||| (0 : Int32)) ||| (0 : Int32))]) (h' := hpS s9) rfl ?_
      refine Ex.cl hq rfl rfl ?_
      refine Rn.mono (q_9 (d := d + 1) p1 (1 : Int32) s9 k) ?_
      rintro _ _ ⟨r12, s11, rfl, rfl, k⟩
      show Ex sc (d + 2) 33 45 [.ref 50, .int p1, .int p2, .int (((0 : Int32) ||| (0 : Int32)) ||| (0 : Int32)), pu, pu] [.int r12, .int r10, .int (((0 : Int32) ||| (0 : Int32)) ||| (0 : Int32))] (hpS s11) _
      refine Ex.i2 hq rfl (fun c => ?_) (fun c => ?_)
      · have k := k.1 c
        refine Ex.seg hq 7 (j := 55) (L' := [.ref 50, .int p1, .int p2, .int ((((0 : Int32) ||| (0 : Int32)) ||| (0 : Int32)) ||| (0 : Int32)), .int (0 : Int32), .int (1 : Int32)]) (S' := []) (h' := hpS s11) rfl ?_
        obtain ⟨m, k⟩ := k
        refine Ex.fg (L := [.ref 50, pu, pu, .int ((((0 : Int32) ||| (0 : Int32)) ||| (0 : Int32)) ||| (0 : Int32)), .int (0 : Int32), .int (1 : Int32)]) ⟨Or.inl rfl, ⟨Or.inr ⟨rfl, rfl⟩, ⟨Or.inr ⟨rfl, rfl⟩, ⟨Or.inl rfl, ⟨Or.inl rfl, ⟨Or.inl rfl, trivial⟩⟩⟩⟩⟩⟩ ?_
        refine q_33_L55 (d := d) m ((((0 : Int32) ||| (0 : Int32)) ||| (0 : Int32)) ||| (0 : Int32)) (0 : Int32) (1 : Int32) s11 k ?_
        · intro y4 s13 k
          refine Ex.seg hq 1 (j := 80) (L' := [pu, pu, pu, pu, .int y4, pu]) (S' := [.int y4]) (h' := hpS s13) rfl ?_
          exact Ex.rt hq rfl rfl ⟨y4, s13, rfl, rfl, k⟩
      · have k := k.2 c
        refine Ex.seg hq 8 (j := 55) (L' := [.ref 50, .int p1, .int p2, .int ((((0 : Int32) ||| (0 : Int32)) ||| (0 : Int32)) ||| (4 : Int32)), .int (0 : Int32), .int (1 : Int32)]) (S' := []) (h' := hpS s11) rfl ?_
        obtain ⟨m, k⟩ := k
        refine Ex.fg (L := [.ref 50, pu, pu, .int ((((0 : Int32) ||| (0 : Int32)) ||| (0 : Int32)) ||| (4 : Int32)), .int (0 : Int32), .int (1 : Int32)]) ⟨Or.inl rfl, ⟨Or.inr ⟨rfl, rfl⟩, ⟨Or.inr ⟨rfl, rfl⟩, ⟨Or.inl rfl, ⟨Or.inl rfl, ⟨Or.inl rfl, trivial⟩⟩⟩⟩⟩⟩ ?_
        refine q_33_L55 (d := d) m ((((0 : Int32) ||| (0 : Int32)) ||| (0 : Int32)) ||| (4 : Int32)) (0 : Int32) (1 : Int32) s11 k ?_
        · intro y4 s14 k
          refine Ex.seg hq 1 (j := 80) (L' := [pu, pu, pu, pu, .int y4, pu]) (S' := [.int y4]) (h' := hpS s14) rfl ?_
          exact Ex.rt hq rfl rfl ⟨y4, s14, rfl, rfl, k⟩
    · have k := k.2 c
      refine Ex.seg hq 9 (j := 39) (L' := [.ref 50, .int p1, .int p2, .int (((0 : Int32) ||| (0 : Int32)) ||| (2 : Int32)), pu, pu]) (S' := [.int (1 : Int32), .int p2, .ref 1, .int (((0 : Int32) ||| (0 : Int32)) ||| (2 : Int32))]) (h' := hpS s7) rfl ?_
      refine Ex.cl hq rfl rfl ?_
      refine Rn.mono (q_9 (d := d + 1) p2 (1 : Int32) s7 k) ?_
      rintro _ _ ⟨r16, s15, rfl, rfl, k⟩
      show Ex sc (d + 2) 33 40 [.ref 50, .int p1, .int p2, .int (((0 : Int32) ||| (0 : Int32)) ||| (2 : Int32)), pu, pu] [.int r16, .int (((0 : Int32) ||| (0 : Int32)) ||| (2 : Int32))] (hpS s15) _
      refine Ex.seg hq 4 (j := 44) (L' := [.ref 50, .int p1, .int p2, .int (((0 : Int32) ||| (0 : Int32)) ||| (2 : Int32)), pu, pu]) (S' := [.int (1 : Int32), .int p1, .ref 1, .int r16, .int (((0 : Int32) ||| (0 : Int32)) ||| (2 : Int32))]) (h' := hpS s15) rfl ?_
      refine Ex.cl hq rfl rfl ?_
      refine Rn.mono (q_9 (d := d + 1) p1 (1 : Int32) s15 k) ?_
      rintro _ _ ⟨r18, s17, rfl, rfl, k⟩
      show Ex sc (d + 2) 33 45 [.ref 50, .int p1, .int p2, .int (((0 : Int32) ||| (0 : Int32)) ||| (2 : Int32)), pu, pu] [.int r18, .int r16, .int (((0 : Int32) ||| (0 : Int32)) ||| (2 : Int32))] (hpS s17) _
      refine Ex.i2 hq rfl (fun c => ?_) (fun c => ?_)
      · have k := k.1 c
        refine Ex.seg hq 7 (j := 55) (L' := [.ref 50, .int p1, .int p2, .int ((((0 : Int32) ||| (0 : Int32)) ||| (2 : Int32)) ||| (0 : Int32)), .int (0 : Int32), .int (1 : Int32)]) (S' := []) (h' := hpS s17) rfl ?_
        obtain ⟨m, k⟩ := k
        refine Ex.fg (L := [.ref 50, pu, pu, .int ((((0 : Int32) ||| (0 : Int32)) ||| (2 : Int32)) ||| (0 : Int32)), .int (0 : Int32), .int (1 : Int32)]) ⟨Or.inl rfl, ⟨Or.inr ⟨rfl, rfl⟩, ⟨Or.inr ⟨rfl, rfl⟩, ⟨Or.inl rfl, ⟨Or.inl rfl, ⟨Or.inl rfl, trivial⟩⟩⟩⟩⟩⟩ ?_
        refine q_33_L55 (d := d) m ((((0 : Int32) ||| (0 : Int32)) ||| (2 : Int32)) ||| (0 : Int32)) (0 : Int32) (1 : Int32) s17 k ?_
        · intro y4 s19 k
          refine Ex.seg hq 1 (j := 80) (L' := [pu, pu, pu, pu, .int y4, pu]) (S' := [.int y4]) (h' := hpS s19) rfl ?_
          exact Ex.rt hq rfl rfl ⟨y4, s19, rfl, rfl, k⟩
      · have k := k.2 c
        refine Ex.seg hq 8 (j := 55) (L' := [.ref 50, .int p1, .int p2, .int ((((0 : Int32) ||| (0 : Int32)) ||| (2 : Int32)) ||| (4 : Int32)), .int (0 : Int32), .int (1 : Int32)]) (S' := []) (h' := hpS s17) rfl ?_
        obtain ⟨m, k⟩ := k
        refine Ex.fg (L := [.ref 50, pu, pu, .int ((((0 : Int32) ||| (0 : Int32)) ||| (2 : Int32)) ||| (4 : Int32)), .int (0 : Int32), .int (1 : Int32)]) ⟨Or.inl rfl, ⟨Or.inr ⟨rfl, rfl⟩, ⟨Or.inr ⟨rfl, rfl⟩, ⟨Or.inl rfl, ⟨Or.inl rfl, ⟨Or.inl rfl, trivial⟩⟩⟩⟩⟩⟩ ?_
        refine q_33_L55 (d := d) m ((((0 : Int32) ||| (0 : Int32)) ||| (2 : Int32)) ||| (4 : Int32)) (0 : Int32) (1 : Int32) s17 k ?_
        · intro y4 s20 k
          refine Ex.seg hq 1 (j := 80) (L' := [pu, pu, pu, pu, .int y4, pu]) (S' := [.int y4]) (h' := hpS s20) rfl ?_
          exact Ex.rt hq rfl rfl ⟨y4, s20, rfl, rfl, k⟩
  · have k := k.2 c
    refine Ex.seg hq 9 (j := 22) (L' := [.ref 50, .int p1, .int p2, .int ((0 : Int32) ||| (1 : Int32)), pu, pu]) (S' := [.int (6 : Int32), .int p2, .ref 1, .int ((0 : Int32) ||| (1 : Int32))]) (h' := hpS s3) rfl ?_
    refine Ex.cl hq rfl rfl ?_
    refine Rn.mono (q_9 (d := d + 1) p2 (6 : Int32) s3 k) ?_
    rintro _ _ ⟨r22, s21, rfl, rfl, k⟩
    show Ex sc (d + 2) 33 23 [.ref 50, .int p1, .int p2, .int ((0 : Int32) ||| (1 : Int32)), pu, pu] [.int r22, .int ((0 : Int32) ||| (1 : Int32))] (hpS s21) _
    refine Ex.seg hq 4 (j := 27) (L' := [.ref 50, .int p1, .int p2, .int ((0 : Int32) ||| (1 : Int32)), pu, pu]) (S' := [.int (6 : Int32), .int p1, .ref 1, .int r22, .int ((0 : Int32) ||| (1 : Int32))]) (h' := hpS s21) rfl ?_
    refine Ex.cl hq rfl rfl ?_
    refine Rn.mono (q_9 (d := d + 1) p1 (6 : Int32) s21 k) ?_
    rintro _ _ ⟨r24, s23, rfl, rfl, k⟩
    show Ex sc (d + 2) 33 28 [.ref 50, .int p1, .int p2, .int ((0 : Int32) ||| (1 : Int32)), pu, pu] [.int r24, .int r22, .int ((0 : Int32) ||| (1 : Int32))] (hpS s23) _
    refine Ex.i2 hq rfl (fun c => ?_) (fun c => ?_)
    · have k := k.1 c
      refine Ex.seg hq 8 (j := 39) (L' := [.ref 50, .int p1, .int p2, .int (((0 : Int32) ||| (1 : Int32)) ||| (0 : Int32)), pu, pu]) (S' := [.int (1 : Int32), .int p2, .ref 1, .int (((0 : Int32) ||| (1 : Int32)) ||| (0 : Int32))]) (h' := hpS s23) rfl ?_
      refine Ex.cl hq rfl rfl ?_
      refine Rn.mono (q_9 (d := d + 1) p2 (1 : Int32) s23 k) ?_
      rintro _ _ ⟨r26, s25, rfl, rfl, k⟩
      show Ex sc (d + 2) 33 40 [.ref 50, .int p1, .int p2, .int (((0 : Int32) ||| (1 : Int32)) ||| (0 : Int32)), pu, pu] [.int r26, .int (((0 : Int32) ||| (1 : Int32)) ||| (0 : Int32))] (hpS s25) _
      refine Ex.seg hq 4 (j := 44) (L' := [.ref 50, .int p1, .int p2, .int (((0 : Int32) ||| (1 : Int32)) ||| (0 : Int32)), pu, pu]) (S' := [.int (1 : Int32), .int p1, .ref 1, .int r26, .int (((0 : Int32) ||| (1 : Int32)) ||| (0 : Int32))]) (h' := hpS s25) rfl ?_
      refine Ex.cl hq rfl rfl ?_
      refine Rn.mono (q_9 (d := d + 1) p1 (1 : Int32) s25 k) ?_
      rintro _ _ ⟨r28, s27, rfl, rfl, k⟩
      show Ex sc (d + 2) 33 45 [.ref 50, .int p1, .int p2, .int (((0 : Int32) ||| (1 : Int32)) ||| (0 : Int32)), pu, pu] [.int r28, .int r26, .int (((0 : Int32) ||| (1 : Int32)) ||| (0 : Int32))] (hpS s27) _
      refine Ex.i2 hq rfl (fun c => ?_) (fun c => ?_)
      · have k := k.1 c
        refine Ex.seg hq 7 (j := 55) (L' := [.ref 50, .int p1, .int p2, .int ((((0 : Int32) ||| (1 : Int32)) ||| (0 : Int32)) ||| (0 : Int32)), .int (0 : Int32), .int (1 : Int32)]) (S' := []) (h' := hpS s27) rfl ?_
        obtain ⟨m, k⟩ := k
        refine Ex.fg (L := [.ref 50, pu, pu, .int ((((0 : Int32) ||| (1 : Int32)) ||| (0 : Int32)) ||| (0 : Int32)), .int (0 : Int32), .int (1 : Int32)]) ⟨Or.inl rfl, ⟨Or.inr ⟨rfl, rfl⟩, ⟨Or.inr ⟨rfl, rfl⟩, ⟨Or.inl rfl, ⟨Or.inl rfl, ⟨Or.inl rfl, trivial⟩⟩⟩⟩⟩⟩ ?_
        refine q_33_L55 (d := d) m ((((0 : Int32) ||| (1 : Int32)) ||| (0 : Int32)) ||| (0 : Int32)) (0 : Int32) (1 : Int32) s27 k ?_
        · intro y4 s29 k
          refine Ex.seg hq 1 (j := 80) (L' := [pu, pu, pu, pu, .int y4, pu]) (S' := [.int y4]) (h' := hpS s29) rfl ?_
          exact Ex.rt hq rfl rfl ⟨y4, s29, rfl, rfl, k⟩
      · have k := k.2 c
        refine Ex.seg hq 8 (j := 55) (L' := [.ref 50, .int p1, .int p2, .int ((((0 : Int32) ||| (1 : Int32)) ||| (0 : Int32)) ||| (4 : Int32)), .int (0 : Int32), .int (1 : Int32)]) (S' := []) (h' := hpS s27) rfl ?_
        obtain ⟨m, k⟩ := k
        refine Ex.fg (L := [.ref 50, pu, pu, .int ((((0 : Int32) ||| (1 : Int32)) ||| (0 : Int32)) ||| (4 : Int32)), .int (0 : Int32), .int (1 : Int32)]) ⟨Or.inl rfl, ⟨Or.inr ⟨rfl, rfl⟩, ⟨Or.inr ⟨rfl, rfl⟩, ⟨Or.inl rfl, ⟨Or.inl rfl, ⟨Or.inl rfl, trivial⟩⟩⟩⟩⟩⟩ ?_
        refine q_33_L55 (d := d) m ((((0 : Int32) ||| (1 : Int32)) ||| (0 : Int32)) ||| (4 : Int32)) (0 : Int32) (1 : Int32) s27 k ?_
        · intro y4 s30 k
          refine Ex.seg hq 1 (j := 80) (L' := [pu, pu, pu, pu, .int y4, pu]) (S' := [.int y4]) (h' := hpS s30) rfl ?_
          exact Ex.rt hq rfl rfl ⟨y4, s30, rfl, rfl, k⟩
    · have k := k.2 c
      refine Ex.seg hq 9 (j := 39) (L' := [.ref 50, .int p1, .int p2, .int (((0 : Int32) ||| (1 : Int32)) ||| (2 : Int32)), pu, pu]) (S' := [.int (1 : Int32), .int p2, .ref 1, .int (((0 : Int32) ||| (1 : Int32)) ||| (2 : Int32))]) (h' := hpS s23) rfl ?_
      refine Ex.cl hq rfl rfl ?_
      refine Rn.mono (q_9 (d := d + 1) p2 (1 : Int32) s23 k) ?_
      rintro _ _ ⟨r32, s31, rfl, rfl, k⟩
      show Ex sc (d + 2) 33 40 [.ref 50, .int p1, .int p2, .int (((0 : Int32) ||| (1 : Int32)) ||| (2 : Int32)), pu, pu] [.int r32, .int (((0 : Int32) ||| (1 : Int32)) ||| (2 : Int32))] (hpS s31) _
      refine Ex.seg hq 4 (j := 44) (L' := [.ref 50, .int p1, .int p2, .int (((0 : Int32) ||| (1 : Int32)) ||| (2 : Int32)), pu, pu]) (S' := [.int (1 : Int32), .int p1, .ref 1, .int r32, .int (((0 : Int32) ||| (1 : Int32)) ||| (2 : Int32))]) (h' := hpS s31) rfl ?_
      refine Ex.cl hq rfl rfl ?_
      refine Rn.mono (q_9 (d := d + 1) p1 (1 : Int32) s31 k) ?_
      rintro _ _ ⟨r34, s33, rfl, rfl, k⟩
      show Ex sc (d + 2) 33 45 [.ref 50, .int p1, .int p2, .int (((0 : Int32) ||| (1 : Int32)) ||| (2 : Int32)), pu, pu] [.int r34, .int r32, .int (((0 : Int32) ||| (1 : Int32)) ||| (2 : Int32))] (hpS s33) _
      refine Ex.i2 hq rfl (fun c => ?_) (fun c => ?_)
      · have k := k.1 c
        refine Ex.seg hq 7 (j := 55) (L' := [.ref 50, .int p1, .int p2, .int ((((0 : Int32) ||| (1 : Int32)) ||| (2 : Int32)) ||| (0 : Int32)), .int (0 : Int32), .int (1 : Int32)]) (S' := []) (h' := hpS s33) rfl ?_
        obtain ⟨m, k⟩ := k
        refine Ex.fg (L := [.ref 50, pu, pu, .int ((((0 : Int32) ||| (1 : Int32)) ||| (2 : Int32)) ||| (0 : Int32)), .int (0 : Int32), .int (1 : Int32)]) ⟨Or.inl rfl, ⟨Or.inr ⟨rfl, rfl⟩, ⟨Or.inr ⟨rfl, rfl⟩, ⟨Or.inl rfl, ⟨Or.inl rfl, ⟨Or.inl rfl, trivial⟩⟩⟩⟩⟩⟩ ?_
        refine q_33_L55 (d := d) m ((((0 : Int32) ||| (1 : Int32)) ||| (2 : Int32)) ||| (0 : Int32)) (0 : Int32) (1 : Int32) s33 k ?_
        · intro y4 s35 k
          refine Ex.seg hq 1 (j := 80) (L' := [pu, pu, pu, pu, .int y4, pu]) (S' := [.int y4]) (h' := hpS s35) rfl ?_
          exact Ex.rt hq rfl rfl ⟨y4, s35, rfl, rfl, k⟩
      · have k := k.2 c
        refine Ex.seg hq 8 (j := 55) (L' := [.ref 50, .int p1, .int p2, .int ((((0 : Int32) ||| (1 : Int32)) ||| (2 : Int32)) ||| (4 : Int32)), .int (0 : Int32), .int (1 : Int32)]) (S' := []) (h' := hpS s33) rfl ?_
        obtain ⟨m, k⟩ := k
        refine Ex.fg (L := [.ref 50, pu, pu, .int ((((0 : Int32) ||| (1 : Int32)) ||| (2 : Int32)) ||| (4 : Int32)), .int (0 : Int32), .int (1 : Int32)]) ⟨Or.inl rfl, ⟨Or.inr ⟨rfl, rfl⟩, ⟨Or.inr ⟨rfl, rfl⟩, ⟨Or.inl rfl, ⟨Or.inl rfl, ⟨Or.inl rfl, trivial⟩⟩⟩⟩⟩⟩ ?_
        refine q_33_L55 (d := d) m ((((0 : Int32) ||| (1 : Int32)) ||| (2 : Int32)) ||| (4 : Int32)) (0 : Int32) (1 : Int32) s33 k ?_
        · intro y4 s36 k
          refine Ex.seg hq 1 (j := 80) (L' := [pu, pu, pu, pu, .int y4, pu]) (S' := [.int y4]) (h' := hpS s36) rfl ?_
          exact Ex.rt hq rfl rfl ⟨y4, s36, rfl, rfl, k⟩
/-- RowAuditor$Fitter.setMost(III)V -/
def w_38 (p1 : Int32) (p2 : Int32) (p3 : Int32) (s : ST) (K : ST → Prop) : Prop := ((p1 < 0 → K s) ∧ (¬ (p1 < 0) → (((4 : Int32) < p1 → K s) ∧ (¬ ((4 : Int32) < p1) → ((p2 < 0 → K s) ∧ (¬ (p2 < 0) → (((151 : Int32) ≤ p2 → K s) ∧ (¬ ((151 : Int32) ≤ p2) → (pin ((p1 * (151 : Int32)) + p2) 755 = true ∧ K (sA s 53 (upd (s.2.1 53) (((p1 * (151 : Int32)) + p2)).toNatClampNeg p3)))))))))))
theorem q_38 {d : Nat} {K : ST → Prop} (p1 : Int32) (p2 : Int32) (p3 : Int32) (s : ST) (k : w_38 p1 p2 p3 s K) : Rn sc (d + 0) 38 [.ref 50, .int p1, .int p2, .int p3] (hpS s) (kV K) := by
  have hq : prog[38]? = some pm38 := rfl
  refine Rn.of (L := [.ref 50, .int p1, .int p2, .int p3]) hq rfl rfl ?_
  unfold w_38 at k
  refine Ex.seg hq 1 (j := 1) (L' := [.ref 50, .int p1, .int p2, .int p3]) (S' := [.int p1]) (h' := hpS s) rfl ?_
  refine Ex.i1 hq rfl (fun c => ?_) (fun c => ?_)
  · have k := k.1 c
    exact Ex.rt hq rfl rfl ⟨s, rfl, rfl, k⟩
  · have k := k.2 c
    refine Ex.seg hq 2 (j := 4) (L' := [.ref 50, .int p1, .int p2, .int p3]) (S' := [.int (4 : Int32), .int p1]) (h' := hpS s) rfl ?_
    refine Ex.i2 hq rfl (fun c => ?_) (fun c => ?_)
    · have k := k.1 c
      exact Ex.rt hq rfl rfl ⟨s, rfl, rfl, k⟩
    · have k := k.2 c
      refine Ex.seg hq 1 (j := 6) (L' := [.ref 50, .int p1, .int p2, .int p3]) (S' := [.int p2]) (h' := hpS s) rfl ?_
      refine Ex.i1 hq rfl (fun c => ?_) (fun c => ?_)
      · have k := k.1 c
        exact Ex.rt hq rfl rfl ⟨s, rfl, rfl, k⟩
      · have k := k.2 c
        refine Ex.seg hq 2 (j := 9) (L' := [.ref 50, .int p1, .int p2, .int p3]) (S' := [.int (151 : Int32), .int p2]) (h' := hpS s) rfl ?_
        refine Ex.i2 hq rfl (fun c => ?_) (fun c => ?_)
        · have k := k.1 c
          exact Ex.rt hq rfl rfl ⟨s, rfl, rfl, k⟩
        · have k := k.2 c
          refine Ex.seg hq 8 (j := 18) (L' := [.ref 50, .int p1, .int p2, .int p3]) (S' := [.int p3, .int ((p1 * (151 : Int32)) + p2), .ref 53]) (h' := hpS s) rfl ?_
          obtain ⟨hin, k⟩ := k
          refine Ex.ias hq rfl rfl hin (h' := hpS (sA s 53 (upd (s.2.1 53) (((p1 * (151 : Int32)) + p2)).toNatClampNeg p3))) (hset_53 _ _) ?_
          exact Ex.rt hq rfl rfl ⟨(sA s 53 (upd (s.2.1 53) (((p1 * (151 : Int32)) + p2)).toNatClampNeg p3)), rfl, rfl, k⟩
/-- RowAuditor$Fitter.mostFrom(II)I -/
def w_37 (p1 : Int32) (p2 : Int32) (s : ST) (K : Int32 → ST → Prop) : Prop := ((p1 < 0 → K (-1 : Int32) s) ∧ (¬ (p1 < 0) → (((4 : Int32) < p1 → K (-1 : Int32) s) ∧ (¬ ((4 : Int32) < p1) → ((p2 < 0 → K (-1 : Int32) s) ∧ (¬ (p2 < 0) → (((151 : Int32) ≤ p2 → K (-1 : Int32) s) ∧ (¬ ((151 : Int32) ≤ p2) → (pin ((p1 * (151 : Int32)) + p2) 755 = true ∧ K ((s.2.1 53) (((p1 * (151 : Int32)) + p2)).toNatClampNeg) s)))))))))
theorem q_37 {d : Nat} {K : Int32 → ST → Prop} (p1 : Int32) (p2 : Int32) (s : ST) (k : w_37 p1 p2 s K) : Rn sc (d + 0) 37 [.ref 50, .int p1, .int p2] (hpS s) (kI K) := by
  have hq : prog[37]? = some pm37 := rfl
  refine Rn.of (L := [.ref 50, .int p1, .int p2]) hq rfl rfl ?_
  unfold w_37 at k
  refine Ex.seg hq 1 (j := 1) (L' := [.ref 50, .int p1, .int p2]) (S' := [.int p1]) (h' := hpS s) rfl ?_
  refine Ex.i1 hq rfl (fun c => ?_) (fun c => ?_)
  · have k := k.1 c
    refine Ex.seg hq 1 (j := 20) (L' := [.ref 50, .int p1, .int p2]) (S' := [.int (-1 : Int32)]) (h' := hpS s) rfl ?_
    exact Ex.rt hq rfl rfl ⟨(-1 : Int32), s, rfl, rfl, k⟩
  · have k := k.2 c
    refine Ex.seg hq 2 (j := 4) (L' := [.ref 50, .int p1, .int p2]) (S' := [.int (4 : Int32), .int p1]) (h' := hpS s) rfl ?_
    refine Ex.i2 hq rfl (fun c => ?_) (fun c => ?_)
    · have k := k.1 c
      refine Ex.seg hq 1 (j := 20) (L' := [.ref 50, .int p1, .int p2]) (S' := [.int (-1 : Int32)]) (h' := hpS s) rfl ?_
      exact Ex.rt hq rfl rfl ⟨(-1 : Int32), s, rfl, rfl, k⟩
    · have k := k.2 c
      refine Ex.seg hq 1 (j := 6) (L' := [.ref 50, .int p1, .int p2]) (S' := [.int p2]) (h' := hpS s) rfl ?_
      refine Ex.i1 hq rfl (fun c => ?_) (fun c => ?_)
      · have k := k.1 c
        refine Ex.seg hq 1 (j := 20) (L' := [.ref 50, .int p1, .int p2]) (S' := [.int (-1 : Int32)]) (h' := hpS s) rfl ?_
        exact Ex.rt hq rfl rfl ⟨(-1 : Int32), s, rfl, rfl, k⟩
      · have k := k.2 c
        refine Ex.seg hq 2 (j := 9) (L' := [.ref 50, .int p1, .int p2]) (S' := [.int (151 : Int32), .int p2]) (h' := hpS s) rfl ?_
        refine Ex.i2 hq rfl (fun c => ?_) (fun c => ?_)
        · have k := k.1 c
          refine Ex.seg hq 1 (j := 20) (L' := [.ref 50, .int p1, .int p2]) (S' := [.int (-1 : Int32)]) (h' := hpS s) rfl ?_
          exact Ex.rt hq rfl rfl ⟨(-1 : Int32), s, rfl, rfl, k⟩
        · have k := k.2 c
          refine Ex.seg hq 7 (j := 17) (L' := [.ref 50, .int p1, .int p2]) (S' := [.int ((p1 * (151 : Int32)) + p2), .ref 53]) (h' := hpS s) rfl ?_
          obtain ⟨hin, k⟩ := k
          refine Ex.ial hq rfl rfl hin ?_
          refine Ex.seg hq 1 (j := 20) (L' := [.ref 50, .int p1, .int p2]) (S' := [.int ((s.2.1 53) (((p1 * (151 : Int32)) + p2)).toNatClampNeg)]) (h' := hpS s) rfl ?_
          exact Ex.rt hq rfl rfl ⟨((s.2.1 53) (((p1 * (151 : Int32)) + p2)).toNatClampNeg), s, rfl, rfl, k⟩
/-- RowAuditor$Fitter.mostBy(II)I -/
def w_35 (p1 : Int32) (p2 : Int32) (s : ST) (K : Int32 → ST → Prop) : Prop := w_181 p2 (0 : Int32) (149 : Int32) s (fun r2 s1 => ((r2 = 0 → w_37 (p1 + (1 : Int32)) (p2 + (1 : Int32)) s1 (fun r4 s3 => K (-1 : Int32) s3)) ∧ (¬ (r2 = 0) → (pin p2 150 = true ∧ w_184 p1 ((s1.2.1 52) (p2).toNatClampNeg) s1 (fun r6 s5 => ((r6 = 0 → w_37 (p1 + (1 : Int32)) (p2 + (1 : Int32)) s5 (fun r8 s7 => K (-1 : Int32) s7)) ∧ (¬ (r6 = 0) → w_37 (p1 + (1 : Int32)) (p2 + (1 : Int32)) s5 (fun r10 s9 => ((r10 = (-1 : Int32) → K (-1 : Int32) s9) ∧ (¬ (r10 = (-1 : Int32)) → w_123 p2 s9 (fun r12 s11 => w_119 r12 s11 (fun r14 s13 => K (r14 + r10) s13))))))))))))
theorem q_35 {d : Nat} {K : Int32 → ST → Prop} (p1 : Int32) (p2 : Int32) (s : ST) (k : w_35 p1 p2 s K) : Rn sc (d + 1) 35 [.ref 50, .int p1, .int p2] (hpS s) (kI K) := by
  have hq : prog[35]? = some pm35 := rfl
  refine Rn.of (L := [.ref 50, .int p1, .int p2, pu, pu]) hq rfl rfl ?_
  unfold w_35 at k
  refine Ex.seg hq 3 (j := 3) (L' := [.ref 50, .int p1, .int p2, pu, pu]) (S' := [.int (149 : Int32), .int (0 : Int32), .int p2]) (h' := hpS s) rfl ?_
  refine Ex.cl hq rfl rfl ?_
  refine Rn.mono (q_181 (d := d + 0) p2 (0 : Int32) (149 : Int32) s k) ?_
  rintro _ _ ⟨r2, s1, rfl, hzr2, rfl, k⟩
  show Ex sc (d + 1) 35 4 [.ref 50, .int p1, .int p2, pu, pu] [.int r2] (hpS s1) _
  refine Ex.i1 hq rfl (fun c => ?_) (fun c => ?_)
  · have k := k.1 c
    refine Ex.seg hq 9 (j := 23) (L' := [.ref 50, .int p1, .int p2, .int (0 : Int32), pu]) (S' := [.int (p2 + (1 : Int32)), .int (p1 + (1 : Int32)), .ref 50]) (h' := hpS s1) rfl ?_
    refine Ex.cl hq rfl rfl ?_
    refine Rn.mono (q_37 (d := d + 0) (p1 + (1 : Int32)) (p2 + (1 : Int32)) s1 k) ?_
    rintro _ _ ⟨r4, s3, rfl, rfl, k⟩
    show Ex sc (d + 1) 35 24 [.ref 50, .int p1, .int p2, .int (0 : Int32), pu] [.int r4] (hpS s3) _
    refine Ex.seg hq 4 (j := 41) (L' := [.ref 50, .int p1, .int p2, .int (0 : Int32), .int r4]) (S' := [.int (-1 : Int32)]) (h' := hpS s3) rfl ?_
    exact Ex.rt hq rfl rfl ⟨(-1 : Int32), s3, rfl, rfl, k⟩
  · have k := k.2 c
    refine Ex.seg hq 4 (j := 9) (L' := [.ref 50, .int p1, .int p2, pu, pu]) (S' := [.int p2, .ref 52, .int p1]) (h' := hpS s1) rfl ?_
    obtain ⟨hin, k⟩ := k
    refine Ex.ial hq rfl rfl hin ?_
    refine Ex.cl hq rfl rfl ?_
    refine Rn.mono (q_184 (d := d + 0) p1 ((s1.2.1 52) (p2).toNatClampNeg) s1 k) ?_
    rintro _ _ ⟨r6, s5, rfl, hzr6, rfl, k⟩
    show Ex sc (d + 1) 35 11 [.ref 50, .int p1, .int p2, pu, pu] [.int r6] (hpS s5) _
    refine Ex.i1 hq rfl (fun c => ?_) (fun c => ?_)
    · have k := k.1 c
      refine Ex.seg hq 9 (j := 23) (L' := [.ref 50, .int p1, .int p2, .int (0 : Int32), pu]) (S' := [.int (p2 + (1 : Int32)), .int (p1 + (1 : Int32)), .ref 50]) (h' := hpS s5) rfl ?_
      refine Ex.cl hq rfl rfl ?_
      refine Rn.mono (q_37 (d := d + 0) (p1 + (1 : Int32)) (p2 + (1 : Int32)) s5 k) ?_
      rintro _ _ ⟨r8, s7, rfl, rfl, k⟩
      show Ex sc (d + 1) 35 24 [.ref 50, .int p1, .int p2, .int (0 : Int32), pu] [.int r8] (hpS s7) _
      refine Ex.seg hq 4 (j := 41) (L' := [.ref 50, .int p1, .int p2, .int (0 : Int32), .int r8]) (S' := [.int (-1 : Int32)]) (h' := hpS s7) rfl ?_
      exact Ex.rt hq rfl rfl ⟨(-1 : Int32), s7, rfl, rfl, k⟩
    · have k := k.2 c
      refine Ex.seg hq 10 (j := 23) (L' := [.ref 50, .int p1, .int p2, .int (1 : Int32), pu]) (S' := [.int (p2 + (1 : Int32)), .int (p1 + (1 : Int32)), .ref 50]) (h' := hpS s5) rfl ?_
      refine Ex.cl hq rfl rfl ?_
      refine Rn.mono (q_37 (d := d + 0) (p1 + (1 : Int32)) (p2 + (1 : Int32)) s5 k) ?_
      rintro _ _ ⟨r10, s9, rfl, rfl, k⟩
      show Ex sc (d + 1) 35 24 [.ref 50, .int p1, .int p2, .int (1 : Int32), pu] [.int r10] (hpS s9) _
      refine Ex.seg hq 5 (j := 29) (L' := [.ref 50, .int p1, .int p2, .int (1 : Int32), .int r10]) (S' := [.int (-1 : Int32), .int r10]) (h' := hpS s9) rfl ?_
      refine Ex.i2 hq rfl (fun c => ?_) (fun c => ?_)
      · have k := k.1 c
        refine Ex.seg hq 1 (j := 41) (L' := [.ref 50, .int p1, .int p2, .int (1 : Int32), .int r10]) (S' := [.int (-1 : Int32)]) (h' := hpS s9) rfl ?_
        exact Ex.rt hq rfl rfl ⟨(-1 : Int32), s9, rfl, rfl, k⟩
      · have k := k.2 c
        refine Ex.seg hq 5 (j := 35) (L' := [.ref 50, .int p1, .int p2, .int (1 : Int32), .int r10]) (S' := [.int p2, .ref 8, .ref 8]) (h' := hpS s9) rfl ?_
        refine Ex.cl hq rfl rfl ?_
        refine Rn.mono (q_123 (d := d + 0) p2 s9 k) ?_
        rintro _ _ ⟨r12, s11, rfl, rfl, k⟩
        show Ex sc (d + 1) 35 36 [.ref 50, .int p1, .int p2, .int (1 : Int32), .int r10] [.int r12, .ref 8] (hpS s11) _
        refine Ex.cl hq rfl rfl ?_
        refine Rn.mono (q_119 (d := d + 0) r12 s11 k) ?_
        rintro _ _ ⟨r14, s13, rfl, rfl, k⟩
        show Ex sc (d + 1) 35 37 [.ref 50, .int p1, .int p2, .int (1 : Int32), .int r10] [.int r14] (hpS s13) _
        refine Ex.seg hq 3 (j := 41) (L' := [.ref 50, .int p1, .int p2, .int (1 : Int32), .int r10]) (S' := [.int (r14 + r10)]) (h' := hpS s13) rfl ?_
        exact Ex.rt hq rfl rfl ⟨(r14 + r10), s13, rfl, rfl, k⟩
def w_34_L14 : Nat → Int32 → Int32 → Int32 → ST → (Int32 → Int32 → ST → Prop) → (ST → Prop) → Prop
  | 0, _, _, _, _, _, _ => False
  | n + 1, x1, x2, x3, s, X49, K => (((s.1 5007) ≤ x3 → X49 x1 x2 s) ∧ (¬ ((s.1 5007) ≤ x3) → (((s.1 5009) ≤ x2 → (((s.1 5009) ≤ x2 → w_38 x3 x2 (-1 : Int32) s (fun s3 => w_34_L14 n x1 x2 (x3 + (1 : Int32)) s3 X49 K)) ∧ (¬ ((s.1 5009) ≤ x2) → w_35 x3 x2 s (fun r6 s5 => w_38 x3 x2 (if (-1 : Int32) < r6 then r6 else (-1 : Int32)) s5 (fun s7 => w_34_L14 n x1 x2 (x3 + (1 : Int32)) s7 X49 K))))) ∧ (¬ ((s.1 5009) ≤ x2) → w_37 x3 (x2 + (1 : Int32)) s (fun r10 s9 => (((s9.1 5009) ≤ x2 → w_38 x3 x2 (-1 : Int32) s9 (fun s11 => w_34_L14 n x1 x2 (x3 + (1 : Int32)) s11 X49 K)) ∧ (¬ ((s9.1 5009) ≤ x2) → w_35 x3 x2 s9 (fun r14 s13 => w_38 x3 x2 (if r10 < r14 then r14 else r10) s13 (fun s15 => w_34_L14 n x1 x2 (x3 + (1 : Int32)) s15 X49 K)))))))))
theorem q_34_L14 {d : Nat} {X49 : Int32 → Int32 → ST → Prop} {K : ST → Prop} : ∀ (n : Nat) (x1 : Int32) (x2 : Int32) (x3 : Int32) (s : ST), w_34_L14 n x1 x2 x3 s X49 K → (∀ (y1 : Int32) (y2 : Int32) (s : ST), X49 y1 y2 s → Ex sc (d + 2) 34 49 [.ref 50, .int y1, .int y2, pu, pu] [] (hpS s) (kV K)) → Ex sc (d + 2) 34 14 [.ref 50, .int x1, .int x2, .int x3, pu] [] (hpS s) (kV K) := by
  have hq : prog[34]? = some pm34 := rfl
  intro n
  induction n with
  | zero =>
    intro x1 x2 x3 s k
    exact k.elim
  | succ n ih =>
    intro x1 x2 x3 s k hX49
    rw [w_34_L14] at k
    refine Ex.seg hq 3 (j := 17) (L' := [.ref 50, .int x1, .int x2, .int x3, pu]) (S' := [.int (s.1 5007), .int x3]) (h' := hpS s) rfl ?_
    refine Ex.i2 hq rfl (fun c => ?_) (fun c => ?_)
    · have k := k.1 c
      refine Ex.fg (L := [.ref 50, .int x1, .int x2, pu, pu]) ⟨Or.inl rfl, ⟨Or.inl rfl, ⟨Or.inl rfl, ⟨Or.inr ⟨rfl, rfl⟩, ⟨Or.inl rfl, trivial⟩⟩⟩⟩⟩ ?_
      exact hX49 x1 x2 s k
    · have k := k.2 c
      refine Ex.seg hq 3 (j := 21) (L' := [.ref 50, .int x1, .int x2, .int x3, pu]) (S' := [.int (s.1 5009), .int x2]) (h' := hpS s) rfl ?_
      refine Ex.i2 hq rfl (fun c => ?_) (fun c => ?_)
      · have k := k.1 c
        refine Ex.seg hq 8 (j := 37) (L' := [.ref 50, .int x1, .int x2, .int x3, .int (-1 : Int32)]) (S' := [.int (s.1 5009), .int x2, .int x2, .int x3, .ref 50]) (h' := hpS s) rfl ?_
        refine Ex.i2 hq rfl (fun c => ?_) (fun c => ?_)
        · have k := k.1 c
          refine Ex.seg hq 1 (j := 46) (L' := [.ref 50, .int x1, .int x2, .int x3, .int (-1 : Int32)]) (S' := [.int (-1 : Int32), .int x2, .int x3, .ref 50]) (h' := hpS s) rfl ?_
          refine Ex.cl hq rfl rfl ?_
          refine Rn.mono (q_38 (d := d + 1) x3 x2 (-1 : Int32) s k) ?_
          rintro _ _ ⟨s3, rfl, rfl, k⟩
          show Ex sc (d + 2) 34 47 [.ref 50, .int x1, .int x2, .int x3, .int (-1 : Int32)] [] (hpS s3) _
          refine Ex.seg hq 2 (j := 14) (L' := [.ref 50, .int x1, .int x2, .int (x3 + (1 : Int32)), .int (-1 : Int32)]) (S' := []) (h' := hpS s3) rfl ?_
          refine Ex.fg (L := [.ref 50, .int x1, .int x2, .int (x3 + (1 : Int32)), pu]) ⟨Or.inl rfl, ⟨Or.inl rfl, ⟨Or.inl rfl, ⟨Or.inl rfl, ⟨Or.inr ⟨rfl, rfl⟩, trivial⟩⟩⟩⟩⟩ ?_
          exact ih x1 x2 (x3 + (1 : Int32)) s3 k hX49
        · have k := k.2 c
          refine Ex.seg hq 4 (j := 42) (L' := [.ref 50, .int x1, .int x2, .int x3, .int (-1 : Int32)]) (S' := [.int x2, .int x3, .ref 50, .int (-1 : Int32), .int x2, .int x3, .ref 50]) (h' := hpS s) rfl ?_
          refine Ex.cl hq rfl rfl ?_
          refine Rn.mono (q_35 (d := d + 0) x3 x2 s k) ?_
          rintro _ _ ⟨r6, s5, rfl, rfl, k⟩
          show Ex sc (d + 2) 34 43 [.ref 50, .int x1, .int x2, .int x3, .int (-1 : Int32)] [.int r6, .int (-1 : Int32), .int x2, .int x3, .ref 50] (hpS s5) _
          refine Ex.seg hq 2 (j := 46) (L' := [.ref 50, .int x1, .int x2, .int x3, .int (-1 : Int32)]) (S' := [.int (if (-1 : Int32) < r6 then r6 else (-1 : Int32)), .int x2, .int x3, .ref 50]) (h' := hpS s5) rfl ?_
          refine Ex.cl hq rfl rfl ?_
          refine Rn.mono (q_38 (d := d + 1) x3 x2 (if (-1 : Int32) < r6 then r6 else (-1 : Int32)) s5 k) ?_
          rintro _ _ ⟨s7, rfl, rfl, k⟩
          show Ex sc (d + 2) 34 47 [.ref 50, .int x1, .int x2, .int x3, .int (-1 : Int32)] [] (hpS s7) _
          refine Ex.seg hq 2 (j := 14) (L' := [.ref 50, .int x1, .int x2, .int (x3 + (1 : Int32)), .int (-1 : Int32)]) (S' := []) (h' := hpS s7) rfl ?_
          refine Ex.fg (L := [.ref 50, .int x1, .int x2, .int (x3 + (1 : Int32)), pu]) ⟨Or.inl rfl, ⟨Or.inl rfl, ⟨Or.inl rfl, ⟨Or.inl rfl, ⟨Or.inr ⟨rfl, rfl⟩, trivial⟩⟩⟩⟩⟩ ?_
          exact ih x1 x2 (x3 + (1 : Int32)) s7 k hX49
      · have k := k.2 c
        refine Ex.seg hq 5 (j := 27) (L' := [.ref 50, .int x1, .int x2, .int x3, pu]) (S' := [.int (x2 + (1 : Int32)), .int x3, .ref 50]) (h' := hpS s) rfl ?_
        refine Ex.cl hq rfl rfl ?_
        refine Rn.mono (q_37 (d := d + 1) x3 (x2 + (1 : Int32)) s k) ?_
        rintro _ _ ⟨r10, s9, rfl, rfl, k⟩
        show Ex sc (d + 2) 34 28 [.ref 50, .int x1, .int x2, .int x3, pu] [.int r10] (hpS s9) _
        refine Ex.seg hq 8 (j := 37) (L' := [.ref 50, .int x1, .int x2, .int x3, .int r10]) (S' := [.int (s9.1 5009), .int x2, .int x2, .int x3, .ref 50]) (h' := hpS s9) rfl ?_
        refine Ex.i2 hq rfl (fun c => ?_) (fun c => ?_)
        · have k := k.1 c
          refine Ex.seg hq 1 (j := 46) (L' := [.ref 50, .int x1, .int x2, .int x3, .int r10]) (S' := [.int (-1 : Int32), .int x2, .int x3, .ref 50]) (h' := hpS s9) rfl ?_
          refine Ex.cl hq rfl rfl ?_
          refine Rn.mono (q_38 (d := d + 1) x3 x2 (-1 : Int32) s9 k) ?_
          rintro _ _ ⟨s11, rfl, rfl, k⟩
          show Ex sc (d + 2) 34 47 [.ref 50, .int x1, .int x2, .int x3, .int r10] [] (hpS s11) _
          refine Ex.seg hq 2 (j := 14) (L' := [.ref 50, .int x1, .int x2, .int (x3 + (1 : Int32)), .int r10]) (S' := []) (h' := hpS s11) rfl ?_
          refine Ex.fg (L := [.ref 50, .int x1, .int x2, .int (x3 + (1 : Int32)), pu]) ⟨Or.inl rfl, ⟨Or.inl rfl, ⟨Or.inl rfl, ⟨Or.inl rfl, ⟨Or.inr ⟨rfl, rfl⟩, trivial⟩⟩⟩⟩⟩ ?_
          exact ih x1 x2 (x3 + (1 : Int32)) s11 k hX49
        · have k := k.2 c
          refine Ex.seg hq 4 (j := 42) (L' := [.ref 50, .int x1, .int x2, .int x3, .int r10]) (S' := [.int x2, .int x3, .ref 50, .int r10, .int x2, .int x3, .ref 50]) (h' := hpS s9) rfl ?_
          refine Ex.cl hq rfl rfl ?_
          refine Rn.mono (q_35 (d := d + 0) x3 x2 s9 k) ?_
          rintro _ _ ⟨r14, s13, rfl, rfl, k⟩
          show Ex sc (d + 2) 34 43 [.ref 50, .int x1, .int x2, .int x3, .int r10] [.int r14, .int r10, .int x2, .int x3, .ref 50] (hpS s13) _
          refine Ex.seg hq 2 (j := 46) (L' := [.ref 50, .int x1, .int x2, .int x3, .int r10]) (S' := [.int (if r10 < r14 then r14 else r10), .int x2, .int x3, .ref 50]) (h' := hpS s13) rfl ?_
          refine Ex.cl hq rfl rfl ?_
          refine Rn.mono (q_38 (d := d + 1) x3 x2 (if r10 < r14 then r14 else r10) s13 k) ?_
          rintro _ _ ⟨s15, rfl, rfl, k⟩
          show Ex sc (d + 2) 34 47 [.ref 50, .int x1, .int x2, .int x3, .int r10] [] (hpS s15) _
          refine Ex.seg hq 2 (j := 14) (L' := [.ref 50, .int x1, .int x2, .int (x3 + (1 : Int32)), .int r10]) (S' := []) (h' := hpS s15) rfl ?_
          refine Ex.fg (L := [.ref 50, .int x1, .int x2, .int (x3 + (1 : Int32)), pu]) ⟨Or.inl rfl, ⟨Or.inl rfl, ⟨Or.inl rfl, ⟨Or.inl rfl, ⟨Or.inr ⟨rfl, rfl⟩, trivial⟩⟩⟩⟩⟩ ?_
          exact ih x1 x2 (x3 + (1 : Int32)) s15 k hX49
def w_34_L3 : Nat → Int32 → Int32 → ST → (ST → Prop) → (ST → Prop) → Prop
  | 0, _, _, _, _, _ => False
  | n + 1, x1, x2, s, X51, K => ((x2 < x1 → X51  s) ∧ (¬ (x2 < x1) → w_38 (s.1 5007) x2 (0 : Int32) s (fun s1 => (∃ m, w_34_L14 m x1 x2 (1 : Int32) s1 (fun y1 y2 s3 => w_34_L3 n y1 (y2 + (-1 : Int32)) s3 X51 K) K))))
theorem q_34_L3 {d : Nat} {X51 : ST → Prop} {K : ST → Prop} : ∀ (n : Nat) (x1 : Int32) (x2 : Int32) (s : ST), w_34_L3 n x1 x2 s X51 K → (∀ (s : ST), X51  s → Ex sc (d + 2) 34 51 [pu, pu, pu, pu, pu] [] (hpS s) (kV K)) → Ex sc (d + 2) 34 3 [.ref 50, .int x1, .int x2, pu, pu] [] (hpS s) (kV K) := by
  have hq : prog[34]? = some pm34 := rfl
  intro n
  induction n with
  | zero =>
    intro x1 x2 s k
    exact k.elim
  | succ n ih =>
    intro x1 x2 s k hX51
    rw [w_34_L3] at k
    refine Ex.seg hq 2 (j := 5) (L' := [.ref 50, .int x1, .int x2, pu, pu]) (S' := [.int x1, .int x2]) (h' := hpS s) rfl ?_
    refine Ex.i2 hq rfl (fun c => ?_) (fun c => ?_)
    · have k := k.1 c
      refine Ex.fg (L := [pu, pu, pu, pu, pu]) ⟨Or.inr ⟨rfl, rfl⟩, ⟨Or.inr ⟨rfl, rfl⟩, ⟨Or.inr ⟨rfl, rfl⟩, ⟨Or.inl rfl, ⟨Or.inl rfl, trivial⟩⟩⟩⟩⟩ ?_
      exact hX51  s k
    · have k := k.2 c
      refine Ex.seg hq 5 (j := 11) (L' := [.ref 50, .int x1, .int x2, pu, pu]) (S' := [.int (0 : Int32), .int x2, .int (s.1 5007), .ref 50]) (h' := hpS s) rfl ?_
      refine Ex.cl hq rfl rfl ?_
      refine Rn.mono (q_38 (d := d + 1) (s.1 5007) x2 (0 : Int32) s k) ?_
      rintro _ _ ⟨s1, rfl, rfl, k⟩
      show Ex sc (d + 2) 34 12 [.ref 50, .int x1, .int x2, pu, pu] [] (hpS s1) _
      refine Ex.seg hq 2 (j := 14) (L' := [.ref 50, .int x1, .int x2, .int (1 : Int32), pu]) (S' := []) (h' := hpS s1) rfl ?_
      obtain ⟨m, k⟩ := k
      refine q_34_L14 (d := d) m x1 x2 (1 : Int32) s1 k ?_
      · intro y1 y2 s3 k
        refine Ex.seg hq 2 (j := 3) (L' := [.ref 50, .int y1, .int (y2 + (-1 : Int32)), pu, pu]) (S' := []) (h' := hpS s3) rfl ?_
        exact ih y1 (y2 + (-1 : Int32)) s3 k hX51
/-- RowAuditor$Fitter.fillMost(I)V -/
def w_34 (p1 : Int32) (s : ST) (K : ST → Prop) : Prop := (∃ m, w_34_L3 m p1 (s.1 5009) s (fun s4 => K s4) K)
theorem q_34 {d : Nat} {K : ST → Prop} (p1 : Int32) (s : ST) (k : w_34 p1 s K) : Rn sc (d + 2) 34 [.ref 50, .int p1] (hpS s) (kV K) := by
  have hq : prog[34]? = some pm34 := rfl
  refine Rn.of (L := [.ref 50, .int p1, pu, pu, pu]) hq rfl rfl ?_
  unfold w_34 at k
  refine Ex.seg hq 3 (j := 3) (L' := [.ref 50, .int p1, .int (s.1 5009), pu, pu]) (S' := []) (h' := hpS s) rfl ?_
  obtain ⟨m, k⟩ := k
  refine q_34_L3 (d := d) m p1 (s.1 5009) s k ?_
  · intro s4 k
    exact Ex.rt hq rfl rfl ⟨s4, rfl, rfl, k⟩
/-- RowAuditor$Fitter.leads(III)Z -/
def w_36 (p1 : Int32) (p2 : Int32) (p3 : Int32) (s : ST) (K : Int32 → ST → Prop) : Prop := w_35 p1 p2 s (fun r2 s1 => ((r2 = (-1 : Int32) → K (0 : Int32) s1) ∧ (¬ (r2 = (-1 : Int32)) → ((r2 < p3 → K (0 : Int32) s1) ∧ (¬ (r2 < p3) → K (1 : Int32) s1)))))
theorem q_36 {d : Nat} {K : Int32 → ST → Prop} (p1 : Int32) (p2 : Int32) (p3 : Int32) (s : ST) (k : w_36 p1 p2 p3 s K) : Rn sc (d + 2) 36 [.ref 50, .int p1, .int p2, .int p3] (hpS s) (kZ K) := by
  have hq : prog[36]? = some pm36 := rfl
  refine Rn.of (L := [.ref 50, .int p1, .int p2, .int p3, pu]) hq rfl rfl ?_
  unfold w_36 at k
  refine Ex.seg hq 3 (j := 3) (L' := [.ref 50, .int p1, .int p2, .int p3, pu]) (S' := [.int p2, .int p1, .ref 50]) (h' := hpS s) rfl ?_
  refine Ex.cl hq rfl rfl ?_
  refine Rn.mono (q_35 (d := d + 0) p1 p2 s k) ?_
  rintro _ _ ⟨r2, s1, rfl, rfl, k⟩
  show Ex sc (d + 2) 36 4 [.ref 50, .int p1, .int p2, .int p3, pu] [.int r2] (hpS s1) _
  refine Ex.seg hq 3 (j := 7) (L' := [.ref 50, .int p1, .int p2, .int p3, .int r2]) (S' := [.int (-1 : Int32), .int r2]) (h' := hpS s1) rfl ?_
  refine Ex.i2 hq rfl (fun c => ?_) (fun c => ?_)
  · have k := k.1 c
    refine Ex.seg hq 1 (j := 14) (L' := [.ref 50, .int p1, .int p2, .int p3, .int r2]) (S' := [.int (0 : Int32)]) (h' := hpS s1) rfl ?_
    exact Ex.zr hq rfl rfl (Or.inl rfl) ⟨(0 : Int32), s1, rfl, (Or.inl rfl), rfl, k⟩
  · have k := k.2 c
    refine Ex.seg hq 2 (j := 10) (L' := [.ref 50, .int p1, .int p2, .int p3, .int r2]) (S' := [.int p3, .int r2]) (h' := hpS s1) rfl ?_
    refine Ex.i2 hq rfl (fun c => ?_) (fun c => ?_)
    · have k := k.1 c
      refine Ex.seg hq 1 (j := 14) (L' := [.ref 50, .int p1, .int p2, .int p3, .int r2]) (S' := [.int (0 : Int32)]) (h' := hpS s1) rfl ?_
      exact Ex.zr hq rfl rfl (Or.inl rfl) ⟨(0 : Int32), s1, rfl, (Or.inl rfl), rfl, k⟩
    · have k := k.2 c
      refine Ex.seg hq 2 (j := 14) (L' := [.ref 50, .int p1, .int p2, .int p3, .int r2]) (S' := [.int (1 : Int32)]) (h' := hpS s1) rfl ?_
      exact Ex.zr hq rfl rfl (Or.inr rfl) ⟨(1 : Int32), s1, rfl, (Or.inr rfl), rfl, k⟩
def w_32_L33 : Nat → Int32 → Int32 → Int32 → Int32 → ST → (Int32 → Int32 → Int32 → ST → Prop) → (Int32 → ST → Prop) → Prop
  | 0, _, _, _, _, _, _, _ => False
  | n + 1, x1, x2, x3, x4, s, X57, K => (((s.1 801) ≤ (s.1 5009) → X57 x1 x2 x3 s) ∧ (¬ ((s.1 801) ≤ (s.1 5009)) → w_123 (s.1 5009) s (fun r10 s9 => w_9 r10 (3 : Int32) s9 (fun r12 s11 => ((x4 < r12 → X57 x1 x2 x3 s11) ∧ (¬ (x4 < r12) → w_32_L33 n x1 x2 x3 x4 (sI s11 5009 ((s11.1 5009) + (1 : Int32))) X57 K))))))
theorem q_32_L33 {d : Nat} {X57 : Int32 → Int32 → Int32 → ST → Prop} {K : Int32 → ST → Prop} : ∀ (n : Nat) (x1 : Int32) (x2 : Int32) (x3 : Int32) (x4 : Int32) (s : ST), w_32_L33 n x1 x2 x3 x4 s X57 K → (∀ (y1 : Int32) (y2 : Int32) (y3 : Int32) (s : ST), X57 y1 y2 y3 s → Ex sc (d + 3) 32 57 [.ref 50, .int y1, .int y2, .int y3, pu, pu] [] (hpS s) (kZ K)) → Ex sc (d + 3) 32 33 [.ref 50, .int x1, .int x2, .int x3, .int x4, pu] [] (hpS s) (kZ K) := by
  have hq : prog[32]? = some pm32 := rfl
  intro n
  induction n with
  | zero =>
    intro x1 x2 x3 x4 s k
    exact k.elim
  | succ n ih =>
    intro x1 x2 x3 x4 s k hX57
    rw [w_32_L33] at k
    refine Ex.seg hq 5 (j := 38) (L' := [.ref 50, .int x1, .int x2, .int x3, .int x4, pu]) (S' := [.int (s.1 801), .int (s.1 5009)]) (h' := hpS s) rfl ?_
    refine Ex.i2 hq rfl (fun c => ?_) (fun c => ?_)
    · have k := k.1 c
      refine Ex.fg (L := [.ref 50, .int x1, .int x2, .int x3, pu, pu]) ⟨Or.inl rfl, ⟨Or.inl rfl, ⟨Or.inl rfl, ⟨Or.inl rfl, ⟨Or.inr ⟨rfl, rfl⟩, ⟨Or.inl rfl, trivial⟩⟩⟩⟩⟩⟩ ?_
      exact hX57 x1 x2 x3 s k
    · have k := k.2 c
      refine Ex.seg hq 6 (j := 45) (L' := [.ref 50, .int x1, .int x2, .int x3, .int x4, pu]) (S' := [.int (s.1 5009), .ref 8, .ref 1]) (h' := hpS s) rfl ?_
      refine Ex.cl hq rfl rfl ?_
      refine Rn.mono (q_123 (d := d + 2) (s.1 5009) s k) ?_
      rintro _ _ ⟨r10, s9, rfl, rfl, k⟩
      show Ex sc (d + 3) 32 46 [.ref 50, .int x1, .int x2, .int x3, .int x4, pu] [.int r10, .ref 1] (hpS s9) _
      refine Ex.seg hq 1 (j := 47) (L' := [.ref 50, .int x1, .int x2, .int x3, .int x4, pu]) (S' := [.int (3 : Int32), .int r10, .ref 1]) (h' := hpS s9) rfl ?_
      refine Ex.cl hq rfl rfl ?_
      refine Rn.mono (q_9 (d := d + 2) r10 (3 : Int32) s9 k) ?_
      rintro _ _ ⟨r12, s11, rfl, rfl, k⟩
      show Ex sc (d + 3) 32 48 [.ref 50, .int x1, .int x2, .int x3, .int x4, pu] [.int r12] (hpS s11) _
      refine Ex.seg hq 1 (j := 49) (L' := [.ref 50, .int x1, .int x2, .int x3, .int x4, pu]) (S' := [.int x4, .int r12]) (h' := hpS s11) rfl ?_
      refine Ex.i2 hq rfl (fun c => ?_) (fun c => ?_)
      · have k := k.1 c
        refine Ex.fg (L := [.ref 50, .int x1, .int x2, .int x3, pu, pu]) ⟨Or.inl rfl, ⟨Or.inl rfl, ⟨Or.inl rfl, ⟨Or.inl rfl, ⟨Or.inr ⟨rfl, rfl⟩, ⟨Or.inl rfl, trivial⟩⟩⟩⟩⟩⟩ ?_
        exact hX57 x1 x2 x3 s11 k
      · have k := k.2 c
        refine Ex.seg hq 7 (j := 33) (L' := [.ref 50, .int x1, .int x2, .int x3, .int x4, pu]) (S' := []) (h' := hpS (sI s11 5009 ((s11.1 5009) + (1 : Int32)))) rfl ?_
        exact ih x1 x2 x3 x4 (sI s11 5009 ((s11.1 5009) + (1 : Int32))) k hX57
def w_32_L61 : Nat → Int32 → Int32 → Int32 → Int32 → ST → (Int32 → Int32 → ST → Prop) → (Int32 → ST → Prop) → Prop
  | 0, _, _, _, _, _, _, _ => False
  | n + 1, x1, x2, x3, x5, s, X86, K => (((s.1 5009) ≤ x5 → X86 x1 x2 s) ∧ (¬ ((s.1 5009) ≤ x5) → (((150 : Int32) ≤ x5 → X86 x1 x2 s) ∧ (¬ ((150 : Int32) ≤ x5) → (pin x5 150 = true ∧ w_123 x5 s (fun r15 s14 => w_33 x3 r15 s14 (fun r17 s16 => (pin x5 150 = true ∧ w_32_L61 n x1 x2 x3 (x5 + (1 : Int32)) (sA s16 52 (upd (s16.2.1 52) (x5).toNatClampNeg (((s.2.1 51) (x5).toNatClampNeg) &&& r17))) X86 K))))))))
theorem q_32_L61 {d : Nat} {X86 : Int32 → Int32 → ST → Prop} {K : Int32 → ST → Prop} : ∀ (n : Nat) (x1 : Int32) (x2 : Int32) (x3 : Int32) (x5 : Int32) (s : ST), w_32_L61 n x1 x2 x3 x5 s X86 K → (∀ (y1 : Int32) (y2 : Int32) (s : ST), X86 y1 y2 s → Ex sc (d + 3) 32 86 [.ref 50, .int y1, .int y2, pu, pu, pu] [] (hpS s) (kZ K)) → Ex sc (d + 3) 32 61 [.ref 50, .int x1, .int x2, .int x3, pu, .int x5] [] (hpS s) (kZ K) := by
  have hq : prog[32]? = some pm32 := rfl
  intro n
  induction n with
  | zero =>
    intro x1 x2 x3 x5 s k
    exact k.elim
  | succ n ih =>
    intro x1 x2 x3 x5 s k hX86
    rw [w_32_L61] at k
    refine Ex.seg hq 3 (j := 64) (L' := [.ref 50, .int x1, .int x2, .int x3, pu, .int x5]) (S' := [.int (s.1 5009), .int x5]) (h' := hpS s) rfl ?_
    refine Ex.i2 hq rfl (fun c => ?_) (fun c => ?_)
    · have k := k.1 c
      refine Ex.fg (L := [.ref 50, .int x1, .int x2, pu, pu, pu]) ⟨Or.inl rfl, ⟨Or.inl rfl, ⟨Or.inl rfl, ⟨Or.inr ⟨rfl, rfl⟩, ⟨Or.inl rfl, ⟨Or.inr ⟨rfl, rfl⟩, trivial⟩⟩⟩⟩⟩⟩ ?_
      exact hX86 x1 x2 s k
    · have k := k.2 c
      refine Ex.seg hq 2 (j := 67) (L' := [.ref 50, .int x1, .int x2, .int x3, pu, .int x5]) (S' := [.int (150 : Int32), .int x5]) (h' := hpS s) rfl ?_
      refine Ex.i2 hq rfl (fun c => ?_) (fun c => ?_)
      · have k := k.1 c
        refine Ex.fg (L := [.ref 50, .int x1, .int x2, pu, pu, pu]) ⟨Or.inl rfl, ⟨Or.inl rfl, ⟨Or.inl rfl, ⟨Or.inr ⟨rfl, rfl⟩, ⟨Or.inl rfl, ⟨Or.inr ⟨rfl, rfl⟩, trivial⟩⟩⟩⟩⟩⟩ ?_
        exact hX86 x1 x2 s k
      · have k := k.2 c
        refine Ex.seg hq 6 (j := 74) (L' := [.ref 50, .int x1, .int x2, .int x3, pu, .int x5]) (S' := [.int x5, .ref 51, .int x5, .ref 52]) (h' := hpS s) rfl ?_
        obtain ⟨hin, k⟩ := k
        refine Ex.ial hq rfl rfl hin ?_
        refine Ex.seg hq 5 (j := 80) (L' := [.ref 50, .int x1, .int x2, .int x3, pu, .int x5]) (S' := [.int x5, .ref 8, .int x3, .ref 50, .int ((s.2.1 51) (x5).toNatClampNeg), .int x5, .ref 52]) (h' := hpS s) rfl ?_
        refine Ex.cl hq rfl rfl ?_
        refine Rn.mono (q_123 (d := d + 2) x5 s k) ?_
        rintro _ _ ⟨r15, s14, rfl, rfl, k⟩
        show Ex sc (d + 3) 32 81 [.ref 50, .int x1, .int x2, .int x3, pu, .int x5] [.int r15, .int x3, .ref 50, .int ((s.2.1 51) (x5).toNatClampNeg), .int x5, .ref 52] (hpS s14) _
        refine Ex.cl hq rfl rfl ?_
        refine Rn.mono (q_33 (d := d + 0) x3 r15 s14 k) ?_
        rintro _ _ ⟨r17, s16, rfl, rfl, k⟩
        show Ex sc (d + 3) 32 82 [.ref 50, .int x1, .int x2, .int x3, pu, .int x5] [.int r17, .int ((s.2.1 51) (x5).toNatClampNeg), .int x5, .ref 52] (hpS s16) _
        refine Ex.seg hq 1 (j := 83) (L' := [.ref 50, .int x1, .int x2, .int x3, pu, .int x5]) (S' := [.int (((s.2.1 51) (x5).toNatClampNeg) &&& r17), .int x5, .ref 52]) (h' := hpS s16) rfl ?_
        obtain ⟨hin, k⟩ := k
        refine Ex.ias hq rfl rfl hin (h' := hpS (sA s16 52 (upd (s16.2.1 52) (x5).toNatClampNeg (((s.2.1 51) (x5).toNatClampNeg) &&& r17)))) (hset_52 _ _) ?_
        refine Ex.seg hq 2 (j := 61) (L' := [.ref 50, .int x1, .int x2, .int x3, pu, .int (x5 + (1 : Int32))]) (S' := []) (h' := hpS (sA s16 52 (upd (s16.2.1 52) (x5).toNatClampNeg (((s.2.1 51) (x5).toNatClampNeg) &&& r17)))) rfl ?_
        exact ih x1 x2 x3 (x5 + (1 : Int32)) (sA s16 52 (upd (s16.2.1 52) (x5).toNatClampNeg (((s.2.1 51) (x5).toNatClampNeg) &&& r17))) k hX86
/-- RowAuditor$Fitter.startAt(II)Z -/
def w_32 (p1 : Int32) (p2 : Int32) (s : ST) (K : Int32 → ST → Prop) : Prop := w_181 p1 (0 : Int32) (149 : Int32) s (fun r2 s1 => ((r2 = 0 → K (0 : Int32) s1) ∧ (¬ (r2 = 0) → (pin p1 150 = true ∧ w_184 (0 : Int32) ((s1.2.1 51) (p1).toNatClampNeg) s1 (fun r4 s3 => ((¬ r4 = 0 → w_123 p1 s3 (fun r6 s5 => w_9 r6 (3 : Int32) s5 (fun r8 s7 => (∃ m, w_32_L33 m p1 p2 r6 (r8 + (s7.1 5008)) (sI s7 5009 (p1 + (1 : Int32))) (fun y1 y2 y3 s13 => (∃ m, w_32_L61 m y1 y2 y3 (y1 + (1 : Int32)) s13 (fun y1 y2 s18 => w_34 (y1 + (1 : Int32)) s18 (fun s19 => (pin y1 150 = true ∧ w_36 (0 : Int32) y1 y2 (sA s19 52 (upd (s19.2.1 52) (y1).toNatClampNeg (1 : Int32))) (fun r22 s21 => K r22 s21)))) K)) K)))) ∧ (¬ (¬ r4 = 0) → K (0 : Int32) s3)))))))
theorem q_32 {d : Nat} {K : Int32 → ST → Prop} (p1 : Int32) (p2 : Int32) (s : ST) (k : w_32 p1 p2 s K) : Rn sc (d + 3) 32 [.ref 50, .int p1, .int p2] (hpS s) (kZ K) := by
  have hq : prog[32]? = some pm32 := rfl
  refine Rn.of (L := [.ref 50, .int p1, .int p2, pu, pu, pu]) hq rfl rfl ?_
  unfold w_32 at k
  refine Ex.seg hq 3 (j := 3) (L' := [.ref 50, .int p1, .int p2, pu, pu, pu]) (S' := [.int (149 : Int32), .int (0 : Int32), .int p1]) (h' := hpS s) rfl ?_
  refine Ex.cl hq rfl rfl ?_
  refine Rn.mono (q_181 (d := d + 2) p1 (0 : Int32) (149 : Int32) s k) ?_
  rintro _ _ ⟨r2, s1, rfl, hzr2, rfl, k⟩
  show Ex sc (d + 3) 32 4 [.ref 50, .int p1, .int p2, pu, pu, pu] [.int r2] (hpS s1) _
  refine Ex.i1 hq rfl (fun c => ?_) (fun c => ?_)
  · have k := k.1 c
    refine Ex.seg hq 1 (j := 13) (L' := [.ref 50, .int p1, .int p2, pu, pu, pu]) (S' := [.int (0 : Int32)]) (h' := hpS s1) rfl ?_
    exact Ex.zr hq rfl rfl (Or.inl rfl) ⟨(0 : Int32), s1, rfl, (Or.inl rfl), rfl, k⟩
  · have k := k.2 c
    refine Ex.seg hq 4 (j := 9) (L' := [.ref 50, .int p1, .int p2, pu, pu, pu]) (S' := [.int p1, .ref 51, .int (0 : Int32)]) (h' := hpS s1) rfl ?_
    obtain ⟨hin, k⟩ := k
    refine Ex.ial hq rfl rfl hin ?_
    refine Ex.cl hq rfl rfl ?_
    refine Rn.mono (q_184 (d := d + 2) (0 : Int32) ((s1.2.1 51) (p1).toNatClampNeg) s1 k) ?_
    rintro _ _ ⟨r4, s3, rfl, hzr4, rfl, k⟩
    show Ex sc (d + 3) 32 11 [.ref 50, .int p1, .int p2, pu, pu, pu] [.int r4] (hpS s3) _
    refine Ex.i1 hq rfl (fun c => ?_) (fun c => ?_)
    · have k := k.1 c
      refine Ex.seg hq 3 (j := 17) (L' := [.ref 50, .int p1, .int p2, pu, pu, pu]) (S' := [.int p1, .ref 8]) (h' := hpS s3) rfl ?_
      refine Ex.cl hq rfl rfl ?_
      refine Rn.mono (q_123 (d := d + 2) p1 s3 k) ?_
      rintro _ _ ⟨r6, s5, rfl, rfl, k⟩
      show Ex sc (d + 3) 32 18 [.ref 50, .int p1, .int p2, pu, pu, pu] [.int r6] (hpS s5) _
      refine Ex.seg hq 5 (j := 23) (L' := [.ref 50, .int p1, .int p2, .int r6, pu, pu]) (S' := [.int (3 : Int32), .int r6, .ref 1]) (h' := hpS s5) rfl ?_
      refine Ex.cl hq rfl rfl ?_
      refine Rn.mono (q_9 (d := d + 2) r6 (3 : Int32) s5 k) ?_
      rintro _ _ ⟨r8, s7, rfl, rfl, k⟩
      show Ex sc (d + 3) 32 24 [.ref 50, .int p1, .int p2, .int r6, pu, pu] [.int r8] (hpS s7) _
      refine Ex.seg hq 9 (j := 33) (L' := [.ref 50, .int p1, .int p2, .int r6, .int (r8 + (s7.1 5008)), pu]) (S' := []) (h' := hpS (sI s7 5009 (p1 + (1 : Int32)))) rfl ?_
      obtain ⟨m, k⟩ := k
      refine q_32_L33 (d := d) m p1 p2 r6 (r8 + (s7.1 5008)) (sI s7 5009 (p1 + (1 : Int32))) k ?_
      · intro y1 y2 y3 s13 k
        refine Ex.seg hq 4 (j := 61) (L' := [.ref 50, .int y1, .int y2, .int y3, pu, .int (y1 + (1 : Int32))]) (S' := []) (h' := hpS s13) rfl ?_
        obtain ⟨m, k⟩ := k
        refine q_32_L61 (d := d) m y1 y2 y3 (y1 + (1 : Int32)) s13 k ?_
        · intro y1 y2 s18 k
          refine Ex.seg hq 4 (j := 90) (L' := [.ref 50, .int y1, .int y2, pu, pu, pu]) (S' := [.int (y1 + (1 : Int32)), .ref 50]) (h' := hpS s18) rfl ?_
          refine Ex.cl hq rfl rfl ?_
          refine Rn.mono (q_34 (d := d + 0) (y1 + (1 : Int32)) s18 k) ?_
          rintro _ _ ⟨s19, rfl, rfl, k⟩
          show Ex sc (d + 3) 32 91 [.ref 50, .int y1, .int y2, pu, pu, pu] [] (hpS s19) _
          refine Ex.seg hq 4 (j := 95) (L' := [.ref 50, .int y1, .int y2, pu, pu, pu]) (S' := [.int (1 : Int32), .int y1, .ref 52]) (h' := hpS s19) rfl ?_
          obtain ⟨hin, k⟩ := k
          refine Ex.ias hq rfl rfl hin (h' := hpS (sA s19 52 (upd (s19.2.1 52) (y1).toNatClampNeg (1 : Int32)))) (hset_52 _ _) ?_
          refine Ex.seg hq 4 (j := 100) (L' := [.ref 50, .int y1, .int y2, pu, pu, pu]) (S' := [.int y2, .int y1, .int (0 : Int32), .ref 50]) (h' := hpS (sA s19 52 (upd (s19.2.1 52) (y1).toNatClampNeg (1 : Int32)))) rfl ?_
          refine Ex.cl hq rfl rfl ?_
          refine Rn.mono (q_36 (d := d + 0) (0 : Int32) y1 y2 (sA s19 52 (upd (s19.2.1 52) (y1).toNatClampNeg (1 : Int32))) k) ?_
          rintro _ _ ⟨r22, s21, rfl, hzr22, rfl, k⟩
          show Ex sc (d + 3) 32 101 [.ref 50, .int y1, .int y2, pu, pu, pu] [.int r22] (hpS s21) _
          exact Ex.zr hq rfl rfl hzr22 ⟨r22, s21, rfl, hzr22, rfl, k⟩
    · have k := k.2 c
      refine Ex.seg hq 1 (j := 13) (L' := [.ref 50, .int p1, .int p2, pu, pu, pu]) (S' := [.int (0 : Int32)]) (h' := hpS s3) rfl ?_
      exact Ex.zr hq rfl rfl (Or.inl rfl) ⟨(0 : Int32), s3, rfl, (Or.inl rfl), rfl, k⟩
def w_28_L10 (R : Int32 → Int32 → Int32 → Int32 → ST → (Int32 → ST → Prop) → Prop) : Nat → Int32 → Int32 → Int32 → Int32 → Int32 → ST → (Int32 → ST → Prop) → (Int32 → ST → Prop) → Prop
  | 0, _, _, _, _, _, _, _, _ => False
  | n + 1, x1, x3, x4, x5, x6, s, X48, K => (((s.1 5009) ≤ x6 → X48 x5 s) ∧ (¬ ((s.1 5009) ≤ x6) → ((x4 ≤ x5 → X48 x5 s) ∧ (¬ (x4 ≤ x5) → w_36 x1 x6 x3 s (fun r2 s1 => ((r2 = 0 → w_28_L10 R n x1 x3 x4 x5 (x6 + (1 : Int32)) s1 X48 K) ∧ (¬ (r2 = 0) → w_123 x6 s1 (fun r4 s3 => w_119 r4 s3 (fun r6 s5 => R (x1 + (1 : Int32)) (x6 + (1 : Int32)) (x3 - r6) (x4 - x5) s5 (fun r8 s7 => w_28_L10 R n x1 x3 x4 (x5 + r8) (x6 + (1 : Int32)) s7 X48 K))))))))))
theorem q_28_L10 {d : Nat} {R : Int32 → Int32 → Int32 → Int32 → ST → (Int32 → ST → Prop) → Prop} (hR : ∀ (a0 : Int32) (a1 : Int32) (a2 : Int32) (a3 : Int32) (s : ST) (K : Int32 → ST → Prop), R a0 a1 a2 a3 s K → Rn sc (d + 2) 28 [.ref 50, .int a0, .int a1, .int a2, .int a3] (hpS s) (kI K)) {X48 : Int32 → ST → Prop} {K : Int32 → ST → Prop} : ∀ (n : Nat) (x1 : Int32) (x3 : Int32) (x4 : Int32) (x5 : Int32) (x6 : Int32) (s : ST), w_28_L10 R n x1 x3 x4 x5 x6 s X48 K → (∀ (y5 : Int32) (s : ST), X48 y5 s → Ex sc (d + 3) 28 48 [pu, pu, pu, pu, pu, .int y5, pu] [] (hpS s) (kI K)) → Ex sc (d + 3) 28 10 [.ref 50, .int x1, pu, .int x3, .int x4, .int x5, .int x6] [] (hpS s) (kI K) := by
  have hq : prog[28]? = some pm28 := rfl
  intro n
  induction n with
  | zero =>
    intro x1 x3 x4 x5 x6 s k
    exact k.elim
  | succ n ih =>
    intro x1 x3 x4 x5 x6 s k hX48
    rw [w_28_L10] at k
    refine Ex.seg hq 3 (j := 13) (L' := [.ref 50, .int x1, pu, .int x3, .int x4, .int x5, .int x6]) (S' := [.int (s.1 5009), .int x6]) (h' := hpS s) rfl ?_
    refine Ex.i2 hq rfl (fun c => ?_) (fun c => ?_)
    · have k := k.1 c
      refine Ex.fg (L := [pu, pu, pu, pu, pu, .int x5, pu]) ⟨Or.inr ⟨rfl, rfl⟩, ⟨Or.inr ⟨rfl, rfl⟩, ⟨Or.inl rfl, ⟨Or.inr ⟨rfl, rfl⟩, ⟨Or.inr ⟨rfl, rfl⟩, ⟨Or.inl rfl, ⟨Or.inr ⟨rfl, rfl⟩, trivial⟩⟩⟩⟩⟩⟩⟩ ?_
      exact hX48 x5 s k
    · have k := k.2 c
      refine Ex.seg hq 2 (j := 16) (L' := [.ref 50, .int x1, pu, .int x3, .int x4, .int x5, .int x6]) (S' := [.int x4, .int x5]) (h' := hpS s) rfl ?_
      refine Ex.i2 hq rfl (fun c => ?_) (fun c => ?_)
      · have k := k.1 c
        refine Ex.fg (L := [pu, pu, pu, pu, pu, .int x5, pu]) ⟨Or.inr ⟨rfl, rfl⟩, ⟨Or.inr ⟨rfl, rfl⟩, ⟨Or.inl rfl, ⟨Or.inr ⟨rfl, rfl⟩, ⟨Or.inr ⟨rfl, rfl⟩, ⟨Or.inl rfl, ⟨Or.inr ⟨rfl, rfl⟩, trivial⟩⟩⟩⟩⟩⟩⟩ ?_
        exact hX48 x5 s k
      · have k := k.2 c
        refine Ex.seg hq 4 (j := 21) (L' := [.ref 50, .int x1, pu, .int x3, .int x4, .int x5, .int x6]) (S' := [.int x3, .int x6, .int x1, .ref 50]) (h' := hpS s) rfl ?_
        refine Ex.cl hq rfl rfl ?_
        refine Rn.mono (q_36 (d := d + 0) x1 x6 x3 s k) ?_
        rintro _ _ ⟨r2, s1, rfl, hzr2, rfl, k⟩
        show Ex sc (d + 3) 28 22 [.ref 50, .int x1, pu, .int x3, .int x4, .int x5, .int x6] [.int r2] (hpS s1) _
        refine Ex.i1 hq rfl (fun c => ?_) (fun c => ?_)
        · have k := k.1 c
          refine Ex.seg hq 2 (j := 10) (L' := [.ref 50, .int x1, pu, .int x3, .int x4, .int x5, .int (x6 + (1 : Int32))]) (S' := []) (h' := hpS s1) rfl ?_
          exact ih x1 x3 x4 x5 (x6 + (1 : Int32)) s1 k hX48
        · have k := k.2 c
          refine Ex.seg hq 14 (j := 37) (L' := [.ref 50, .int x1, pu, .int x3, .int x4, .int x5, .int x6]) (S' := [.int x6, .ref 8, .ref 8, .int x3, .int (x6 + (1 : Int32)), .int (x1 + (1 : Int32)), .ref 50, .int x5]) (h' := hpS s1) rfl ?_
          refine Ex.cl hq rfl rfl ?_
          refine Rn.mono (q_123 (d := d + 2) x6 s1 k) ?_
          rintro _ _ ⟨r4, s3, rfl, rfl, k⟩
          show Ex sc (d + 3) 28 38 [.ref 50, .int x1, pu, .int x3, .int x4, .int x5, .int x6] [.int r4, .ref 8, .int x3, .int (x6 + (1 : Int32)), .int (x1 + (1 : Int32)), .ref 50, .int x5] (hpS s3) _
          refine Ex.cl hq rfl rfl ?_
          refine Rn.mono (q_119 (d := d + 2) r4 s3 k) ?_
          rintro _ _ ⟨r6, s5, rfl, rfl, k⟩
          show Ex sc (d + 3) 28 39 [.ref 50, .int x1, pu, .int x3, .int x4, .int x5, .int x6] [.int r6, .int x3, .int (x6 + (1 : Int32)), .int (x1 + (1 : Int32)), .ref 50, .int x5] (hpS s5) _
          refine Ex.seg hq 4 (j := 43) (L' := [.ref 50, .int x1, pu, .int x3, .int x4, .int x5, .int x6]) (S' := [.int (x4 - x5), .int (x3 - r6), .int (x6 + (1 : Int32)), .int (x1 + (1 : Int32)), .ref 50, .int x5]) (h' := hpS s5) rfl ?_
          refine Ex.cl hq rfl rfl ?_
          refine Rn.mono (hR (x1 + (1 : Int32)) (x6 + (1 : Int32)) (x3 - r6) (x4 - x5) s5 _ k) ?_
          rintro _ _ ⟨r8, s7, rfl, rfl, k⟩
          show Ex sc (d + 3) 28 44 [.ref 50, .int x1, pu, .int x3, .int x4, .int x5, .int x6] [.int r8, .int x5] (hpS s7) _
          refine Ex.seg hq 4 (j := 10) (L' := [.ref 50, .int x1, pu, .int x3, .int x4, .int (x5 + r8), .int (x6 + (1 : Int32))]) (S' := []) (h' := hpS s7) rfl ?_
          exact ih x1 x3 x4 (x5 + r8) (x6 + (1 : Int32)) s7 k hX48
/-- RowAuditor$Fitter.countFrom(IIII)I -/
def o_28 (R : Int32 → Int32 → Int32 → Int32 → ST → (Int32 → ST → Prop) → Prop) (p1 : Int32) (p2 : Int32) (p3 : Int32) (p4 : Int32) (s : ST) (K : Int32 → ST → Prop) : Prop := ((p1 < (s.1 5007) → (∃ m, w_28_L10 R m p1 p3 p4 (0 : Int32) p2 s (fun y5 s9 => K y5 s9) K)) ∧ (¬ (p1 < (s.1 5007)) → K (1 : Int32) s))
theorem x_28 {d : Nat} {K : Int32 → ST → Prop} {R : Int32 → Int32 → Int32 → Int32 → ST → (Int32 → ST → Prop) → Prop} (hR : ∀ (a0 : Int32) (a1 : Int32) (a2 : Int32) (a3 : Int32) (s : ST) (K : Int32 → ST → Prop), R a0 a1 a2 a3 s K → Rn sc (d + 2) 28 [.ref 50, .int a0, .int a1, .int a2, .int a3] (hpS s) (kI K)) (p1 : Int32) (p2 : Int32) (p3 : Int32) (p4 : Int32) (s : ST) (k : o_28 R p1 p2 p3 p4 s K) : Rn sc (d + 3) 28 [.ref 50, .int p1, .int p2, .int p3, .int p4] (hpS s) (kI K) := by
  have hq : prog[28]? = some pm28 := rfl
  refine Rn.of (L := [.ref 50, .int p1, .int p2, .int p3, .int p4, pu, pu]) hq rfl rfl ?_
  unfold o_28 at k
  refine Ex.seg hq 3 (j := 3) (L' := [.ref 50, .int p1, .int p2, .int p3, .int p4, pu, pu]) (S' := [.int (s.1 5007), .int p1]) (h' := hpS s) rfl ?_
  refine Ex.i2 hq rfl (fun c => ?_) (fun c => ?_)
  · have k := k.1 c
    refine Ex.seg hq 4 (j := 10) (L' := [.ref 50, .int p1, .int p2, .int p3, .int p4, .int (0 : Int32), .int p2]) (S' := []) (h' := hpS s) rfl ?_
    obtain ⟨m, k⟩ := k
    refine Ex.fg (L := [.ref 50, .int p1, pu, .int p3, .int p4, .int (0 : Int32), .int p2]) ⟨Or.inl rfl, ⟨Or.inl rfl, ⟨Or.inr ⟨rfl, rfl⟩, ⟨Or.inl rfl, ⟨Or.inl rfl, ⟨Or.inl rfl, ⟨Or.inl rfl, trivial⟩⟩⟩⟩⟩⟩⟩ ?_
    refine q_28_L10 hR (d := d) m p1 p3 p4 (0 : Int32) p2 s k ?_
    · intro y5 s9 k
      refine Ex.seg hq 1 (j := 49) (L' := [pu, pu, pu, pu, pu, .int y5, pu]) (S' := [.int y5]) (h' := hpS s9) rfl ?_
      exact Ex.rt hq rfl rfl ⟨y5, s9, rfl, rfl, k⟩
  · have k := k.2 c
    refine Ex.seg hq 1 (j := 5) (L' := [.ref 50, .int p1, .int p2, .int p3, .int p4, pu, pu]) (S' := [.int (1 : Int32)]) (h' := hpS s) rfl ?_
    exact Ex.rt hq rfl rfl ⟨(1 : Int32), s, rfl, rfl, k⟩
def wr_28 : Nat → Int32 → Int32 → Int32 → Int32 → ST → (Int32 → ST → Prop) → Prop
  | 0, _, _, _, _, _, _ => False
  | n + 1, a0, a1, a2, a3, s, K => o_28 (wr_28 n) a0 a1 a2 a3 s K
theorem qr_28 {d : Nat} : ∀ (n : Nat)  (a0 : Int32) (a1 : Int32) (a2 : Int32) (a3 : Int32) (s : ST) (K : Int32 → ST → Prop), wr_28 n a0 a1 a2 a3 s K → Rn sc (d + n + 2) 28 [.ref 50, .int a0, .int a1, .int a2, .int a3] (hpS s) (kI K) := by
  intro n
  induction n with
  | zero =>
    intro a0 a1 a2 a3 s K k
    exact k.elim
  | succ n ih =>
    intro a0 a1 a2 a3 s K k
    rw [wr_28] at k
    exact x_28 (d := d + n) ih a0 a1 a2 a3 s k
def w_28  (a0 : Int32) (a1 : Int32) (a2 : Int32) (a3 : Int32) (s : ST) (K : Int32 → ST → Prop) : Prop := ∃ n, n ≤ 60 ∧ wr_28 n a0 a1 a2 a3 s K
theorem q_28 {d : Nat} {K : Int32 → ST → Prop}  (a0 : Int32) (a1 : Int32) (a2 : Int32) (a3 : Int32) (s : ST) (k : w_28 a0 a1 a2 a3 s K) : Rn sc (d + 62) 28 [.ref 50, .int a0, .int a1, .int a2, .int a3] (hpS s) (kI K) := by
  obtain ⟨n, hn, k⟩ := k
  have h := qr_28 (sc := sc) (d := d + (60 - n)) n a0 a1 a2 a3 s K k
  have e : d + (60 - n) + n + 2 = d + 62 := by omega
  rw [e] at h
  exact h
def w_27_L4 : Nat → Int32 → Int32 → Int32 → ST → (Int32 → ST → Prop) → (Int32 → ST → Prop) → Prop
  | 0, _, _, _, _, _, _ => False
  | n + 1, x1, x2, x3, s, X42, K => (((s.1 801) ≤ x3 → X42 x2 s) ∧ (¬ ((s.1 801) ≤ x3) → (((100000 : Int32) ≤ x2 → X42 x2 s) ∧ (¬ ((100000 : Int32) ≤ x2) → w_123 x3 s (fun r2 s1 => w_119 r2 s1 (fun r4 s3 => w_32 x3 x1 s3 (fun r6 s5 => ((r6 = 0 → w_27_L4 n x1 x2 (x3 + (1 : Int32)) s5 X42 K) ∧ (¬ (r6 = 0) → w_28 (1 : Int32) (x3 + (1 : Int32)) (x1 - r4) ((100000 : Int32) - x2) s5 (fun r8 s7 => w_27_L4 n x1 (x2 + r8) (x3 + (1 : Int32)) s7 X42 K))))))))))
theorem q_27_L4 {d : Nat} {X42 : Int32 → ST → Prop} {K : Int32 → ST → Prop} : ∀ (n : Nat) (x1 : Int32) (x2 : Int32) (x3 : Int32) (s : ST), w_27_L4 n x1 x2 x3 s X42 K → (∀ (y2 : Int32) (s : ST), X42 y2 s → Ex sc (d + 63) 27 42 [pu, pu, .int y2, pu, pu] [] (hpS s) (kI K)) → Ex sc (d + 63) 27 4 [.ref 50, .int x1, .int x2, .int x3, pu] [] (hpS s) (kI K) := by
  have hq : prog[27]? = some pm27 := rfl
  intro n
  induction n with
  | zero =>
    intro x1 x2 x3 s k
    exact k.elim
  | succ n ih =>
    intro x1 x2 x3 s k hX42
    rw [w_27_L4] at k
    refine Ex.seg hq 4 (j := 8) (L' := [.ref 50, .int x1, .int x2, .int x3, pu]) (S' := [.int (s.1 801), .int x3]) (h' := hpS s) rfl ?_
    refine Ex.i2 hq rfl (fun c => ?_) (fun c => ?_)
    · have k := k.1 c
      refine Ex.fg (L := [pu, pu, .int x2, pu, pu]) ⟨Or.inr ⟨rfl, rfl⟩, ⟨Or.inr ⟨rfl, rfl⟩, ⟨Or.inl rfl, ⟨Or.inr ⟨rfl, rfl⟩, ⟨Or.inl rfl, trivial⟩⟩⟩⟩⟩ ?_
      exact hX42 x2 s k
    · have k := k.2 c
      refine Ex.seg hq 2 (j := 11) (L' := [.ref 50, .int x1, .int x2, .int x3, pu]) (S' := [.int (100000 : Int32), .int x2]) (h' := hpS s) rfl ?_
      refine Ex.i2 hq rfl (fun c => ?_) (fun c => ?_)
      · have k := k.1 c
        refine Ex.fg (L := [pu, pu, .int x2, pu, pu]) ⟨Or.inr ⟨rfl, rfl⟩, ⟨Or.inr ⟨rfl, rfl⟩, ⟨Or.inl rfl, ⟨Or.inr ⟨rfl, rfl⟩, ⟨Or.inl rfl, trivial⟩⟩⟩⟩⟩ ?_
        exact hX42 x2 s k
      · have k := k.2 c
        refine Ex.seg hq 5 (j := 17) (L' := [.ref 50, .int x1, .int x2, .int x3, pu]) (S' := [.int x3, .ref 8, .ref 8]) (h' := hpS s) rfl ?_
        refine Ex.cl hq rfl rfl ?_
        refine Rn.mono (q_123 (d := d + 62) x3 s k) ?_
        rintro _ _ ⟨r2, s1, rfl, rfl, k⟩
        show Ex sc (d + 63) 27 18 [.ref 50, .int x1, .int x2, .int x3, pu] [.int r2, .ref 8] (hpS s1) _
        refine Ex.cl hq rfl rfl ?_
        refine Rn.mono (q_119 (d := d + 62) r2 s1 k) ?_
        rintro _ _ ⟨r4, s3, rfl, rfl, k⟩
        show Ex sc (d + 63) 27 19 [.ref 50, .int x1, .int x2, .int x3, pu] [.int r4] (hpS s3) _
        refine Ex.seg hq 4 (j := 23) (L' := [.ref 50, .int x1, .int x2, .int x3, .int r4]) (S' := [.int x1, .int x3, .ref 50]) (h' := hpS s3) rfl ?_
        refine Ex.cl hq rfl rfl ?_
        refine Rn.mono (q_32 (d := d + 59) x3 x1 s3 k) ?_
        rintro _ _ ⟨r6, s5, rfl, hzr6, rfl, k⟩
        show Ex sc (d + 63) 27 24 [.ref 50, .int x1, .int x2, .int x3, .int r4] [.int r6] (hpS s5) _
        refine Ex.i1 hq rfl (fun c => ?_) (fun c => ?_)
        · have k := k.1 c
          refine Ex.seg hq 2 (j := 4) (L' := [.ref 50, .int x1, .int x2, .int (x3 + (1 : Int32)), .int r4]) (S' := []) (h' := hpS s5) rfl ?_
          refine Ex.fg (L := [.ref 50, .int x1, .int x2, .int (x3 + (1 : Int32)), pu]) ⟨Or.inl rfl, ⟨Or.inl rfl, ⟨Or.inl rfl, ⟨Or.inl rfl, ⟨Or.inr ⟨rfl, rfl⟩, trivial⟩⟩⟩⟩⟩ ?_
          exact ih x1 x2 (x3 + (1 : Int32)) s5 k hX42
        · have k := k.2 c
          refine Ex.seg hq 12 (j := 37) (L' := [.ref 50, .int x1, .int x2, .int x3, .int r4]) (S' := [.int ((100000 : Int32) - x2), .int (x1 - r4), .int (x3 + (1 : Int32)), .int (1 : Int32), .ref 50, .int x2]) (h' := hpS s5) rfl ?_
          refine Ex.cl hq rfl rfl ?_
          refine Rn.mono (q_28 (d := d + 0) (1 : Int32) (x3 + (1 : Int32)) (x1 - r4) ((100000 : Int32) - x2) s5 k) ?_
          rintro _ _ ⟨r8, s7, rfl, rfl, k⟩
          show Ex sc (d + 63) 27 38 [.ref 50, .int x1, .int x2, .int x3, .int r4] [.int r8, .int x2] (hpS s7) _
          refine Ex.seg hq 4 (j := 4) (L' := [.ref 50, .int x1, .int (x2 + r8), .int (x3 + (1 : Int32)), .int r4]) (S' := []) (h' := hpS s7) rfl ?_
          refine Ex.fg (L := [.ref 50, .int x1, .int (x2 + r8), .int (x3 + (1 : Int32)), pu]) ⟨Or.inl rfl, ⟨Or.inl rfl, ⟨Or.inl rfl, ⟨Or.inl rfl, ⟨Or.inr ⟨rfl, rfl⟩, trivial⟩⟩⟩⟩⟩ ?_
          exact ih x1 (x2 + r8) (x3 + (1 : Int32)) s7 k hX42
/-- RowAuditor$Fitter.countFitting(I)I -/
def w_27 (p1 : Int32) (s : ST) (K : Int32 → ST → Prop) : Prop := (∃ m, w_27_L4 m p1 (0 : Int32) (0 : Int32) s (fun y2 s9 => K y2 s9) K)
theorem q_27 {d : Nat} {K : Int32 → ST → Prop} (p1 : Int32) (s : ST) (k : w_27 p1 s K) : Rn sc (d + 63) 27 [.ref 50, .int p1] (hpS s) (kI K) := by
  have hq : prog[27]? = some pm27 := rfl
  refine Rn.of (L := [.ref 50, .int p1, pu, pu, pu]) hq rfl rfl ?_
  unfold w_27 at k
  refine Ex.seg hq 4 (j := 4) (L' := [.ref 50, .int p1, .int (0 : Int32), .int (0 : Int32), pu]) (S' := []) (h' := hpS s) rfl ?_
  obtain ⟨m, k⟩ := k
  refine q_27_L4 (d := d) m p1 (0 : Int32) (0 : Int32) s k ?_
  · intro y2 s9 k
    refine Ex.seg hq 1 (j := 43) (L' := [pu, pu, .int y2, pu, pu]) (S' := [.int y2]) (h' := hpS s9) rfl ?_
    exact Ex.rt hq rfl rfl ⟨y2, s9, rfl, rfl, k⟩
end WP
