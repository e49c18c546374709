/-! ===== weakest preconditions, printed by wip/whole/genwp.py ===== -/
section WP
variable {sc : Nat × (Nat → Int32)}
def w_99_52 : Nat → Int32 → Int32 → Int32 → Int32 → Int32 → Int32 → ST → (Int32 → ST → Prop) → (Int32 → ST → Prop) → (Int32 → ST → Prop) → Prop
  | 0, _, _, _, _, _, _, _, _, _, _ => False
  | n + 1, x5, x6, x7, x8, x10, x11, s, X110, X72, K => (((s.1 801) ≤ x11 → X110 x10 s) ∧ (¬ ((s.1 801) ≤ x11) → (((100000 : Int32) ≤ x10 → X110 x10 s) ∧ (¬ ((100000 : Int32) ≤ x10) → w_123 x11 s (fun r18 s17 => w_9 r18 (3 : Int32) s17 (fun r20 s19 => ((r20 ≤ x8 → w_98 r18 s19 (fun r22 s21 => ((r22 = 0 → w_99_52 n x5 x6 x7 x8 x10 (x11 + (1 : Int32)) s21 X110 X72 K) ∧ (¬ (r22 = 0) → w_119 r18 s21 (fun r24 s23 => ((x7 < (if 0 ≤ (r24 - x6) then (r24 - x6) else 0 - (r24 - x6)) → w_99_52 n x5 x6 x7 x8 x10 (x11 + (1 : Int32)) s23 X110 X72 K) ∧ (¬ (x7 < (if 0 ≤ (r24 - x6) then (r24 - x6) else 0 - (r24 - x6))) → w_9 r18 (1 : Int32) s23 (fun r26 s25 => w_100 r26 x5 s25 (fun r28 s27 => w_16 r18 s27 (fun r30 s29 => w_100 r30 x5 s29 (fun r32 s31 => w_101 r28 r32 s31 (fun r34 s33 => w_99_52 n x5 x6 x7 x8 (if (x10 + r34) < (100000 : Int32) then (x10 + r34) else (100000 : Int32)) (x11 + (1 : Int32)) s33 X110 X72 K)))))))))))) ∧ (¬ (r20 ≤ x8) → X72 x10 s19))))))))
theorem q_99_52 {d : Nat} {X110 : Int32 → ST → Prop} {X72 : Int32 → ST → Prop} {K : Int32 → ST → Prop} : ∀ (n : Nat) (x5 : Int32) (x6 : Int32) (x7 : Int32) (x8 : Int32) (x10 : Int32) (x11 : Int32) (s : ST), w_99_52 n x5 x6 x7 x8 x10 x11 s X110 X72 K → (∀ (y10 : Int32) (s : ST), X110 y10 s → Ex sc (d + 3) 99 110 [pu, pu, pu, pu, pu, pu, pu, pu, pu, pu, .int y10, pu, pu, pu] [] (hpS s) (kI K)) → (∀ (y10 : Int32) (s : ST), X72 y10 s → Ex sc (d + 3) 99 72 [pu, pu, pu, pu, pu, pu, pu, pu, pu, pu, .int y10, pu, pu, pu] [] (hpS s) (kI K)) → Ex sc (d + 3) 99 52 [.ref 46, pu, pu, pu, pu, .int x5, .int x6, .int x7, .int x8, pu, .int x10, .int x11, pu, pu] [] (hpS s) (kI K) := by
  have hq : prog[99]? = some pm99 := rfl
  intro n
  induction n with
  | zero =>
    intro x5 x6 x7 x8 x10 x11 s k
    exact k.elim
  | succ n ih =>
    intro x5 x6 x7 x8 x10 x11 s k hX110 hX72
    rw [w_99_52] at k
    refine Ex.seg hq 4 (j := 56) (L' := [.ref 46, pu, pu, pu, pu, .int x5, .int x6, .int x7, .int x8, pu, .int x10, .int x11, pu, pu]) (S' := [.int (s.1 801), .int x11]) (h' := hpS s) rfl ?_
    refine Ex.i2 hq rfl (fun c => ?_) (fun c => ?_)
    · have k := k.1 c
      refine Ex.fg (L := [pu, pu, pu, pu, pu, pu, pu, pu, pu, pu, .int x10, pu, pu, pu]) ⟨Or.inr ⟨rfl, rfl⟩, ⟨Or.inl rfl, ⟨Or.inl rfl, ⟨Or.inl rfl, ⟨Or.inl rfl, ⟨Or.inr ⟨rfl, rfl⟩, ⟨Or.inr ⟨rfl, rfl⟩, ⟨Or.inr ⟨rfl, rfl⟩, ⟨Or.inr ⟨rfl, rfl⟩, ⟨Or.inl rfl, ⟨Or.inl rfl, ⟨Or.inr ⟨rfl, rfl⟩, ⟨Or.inl rfl, ⟨Or.inl rfl, trivial⟩⟩⟩⟩⟩⟩⟩⟩⟩⟩⟩⟩⟩⟩ ?_
      exact hX110 x10 s k
    · have k := k.2 c
      refine Ex.seg hq 2 (j := 59) (L' := [.ref 46, pu, pu, pu, pu, .int x5, .int x6, .int x7, .int x8, pu, .int x10, .int x11, pu, pu]) (S' := [.int (100000 : Int32), .int x10]) (h' := hpS s) rfl ?_
      refine Ex.i2 hq rfl (fun c => ?_) (fun c => ?_)
      · have k := k.1 c
        refine Ex.fg (L := [pu, pu, pu, pu, pu, pu, pu, pu, pu, pu, .int x10, pu, pu, pu]) ⟨Or.inr ⟨rfl, rfl⟩, ⟨Or.inl rfl, ⟨Or.inl rfl, ⟨Or.inl rfl, ⟨Or.inl rfl, ⟨Or.inr ⟨rfl, rfl⟩, ⟨Or.inr ⟨rfl, rfl⟩, ⟨Or.inr ⟨rfl, rfl⟩, ⟨Or.inr ⟨rfl, rfl⟩, ⟨Or.inl rfl, ⟨Or.inl rfl, ⟨Or.inr ⟨rfl, rfl⟩, ⟨Or.inl rfl, ⟨Or.inl rfl, trivial⟩⟩⟩⟩⟩⟩⟩⟩⟩⟩⟩⟩⟩⟩ ?_
        exact hX110 x10 s k
      · have k := k.2 c
        refine Ex.seg hq 3 (j := 63) (L' := [.ref 46, pu, pu, pu, pu, .int x5, .int x6, .int x7, .int x8, pu, .int x10, .int x11, pu, pu]) (S' := [.int x11, .ref 8]) (h' := hpS s) rfl ?_
        refine Ex.cl hq rfl rfl ?_
        refine Rn.mono (q_123 (d := d + 2) x11 s k) ?_
        rintro _ _ ⟨r18, s17, rfl, rfl, k⟩
        show Ex sc (d + 3) 99 64 [.ref 46, pu, pu, pu, pu, .int x5, .int x6, .int x7, .int x8, pu, .int x10, .int x11, pu, pu] [.int r18] (hpS s17) _
        refine Ex.seg hq 5 (j := 69) (L' := [.ref 46, pu, pu, pu, pu, .int x5, .int x6, .int x7, .int x8, pu, .int x10, .int x11, .int r18, pu]) (S' := [.int (3 : Int32), .int r18, .ref 1]) (h' := hpS s17) rfl ?_
        refine Ex.cl hq rfl rfl ?_
        refine Rn.mono (q_9 (d := d + 2) r18 (3 : Int32) s17 k) ?_
        rintro _ _ ⟨r20, s19, rfl, rfl, k⟩
        show Ex sc (d + 3) 99 70 [.ref 46, pu, pu, pu, pu, .int x5, .int x6, .int x7, .int x8, pu, .int x10, .int x11, .int r18, pu] [.int r20] (hpS s19) _
        refine Ex.seg hq 1 (j := 71) (L' := [.ref 46, pu, pu, pu, pu, .int x5, .int x6, .int x7, .int x8, pu, .int x10, .int x11, .int r18, pu]) (S' := [.int x8, .int r20]) (h' := hpS s19) rfl ?_
        refine Ex.i2 hq rfl (fun c => ?_) (fun c => ?_)
        · have k := k.1 c
          refine Ex.seg hq 2 (j := 75) (L' := [.ref 46, pu, pu, pu, pu, .int x5, .int x6, .int x7, .int x8, pu, .int x10, .int x11, .int r18, pu]) (S' := [.int r18, .ref 46]) (h' := hpS s19) rfl ?_
          refine Ex.cl hq rfl rfl ?_
          refine Rn.mono (q_98 (d := d + 1) r18 s19 k) ?_
          rintro _ _ ⟨r22, s21, rfl, hzr22, rfl, k⟩
          show Ex sc (d + 3) 99 76 [.ref 46, pu, pu, pu, pu, .int x5, .int x6, .int x7, .int x8, pu, .int x10, .int x11, .int r18, pu] [.int r22] (hpS s21) _
          refine Ex.i1 hq rfl (fun c => ?_) (fun c => ?_)
          · have k := k.1 c
            refine Ex.seg hq 2 (j := 52) (L' := [.ref 46, pu, pu, pu, pu, .int x5, .int x6, .int x7, .int x8, pu, .int x10, .int (x11 + (1 : Int32)), .int r18, pu]) (S' := []) (h' := hpS s21) rfl ?_
            refine Ex.fg (L := [.ref 46, pu, pu, pu, pu, .int x5, .int x6, .int x7, .int x8, pu, .int x10, .int (x11 + (1 : Int32)), pu, pu]) ⟨Or.inl rfl, ⟨Or.inl rfl, ⟨Or.inl rfl, ⟨Or.inl rfl, ⟨Or.inl rfl, ⟨Or.inl rfl, ⟨Or.inl rfl, ⟨Or.inl rfl, ⟨Or.inl rfl, ⟨Or.inl rfl, ⟨Or.inl rfl, ⟨Or.inl rfl, ⟨Or.inr ⟨rfl, rfl⟩, ⟨Or.inl rfl, trivial⟩⟩⟩⟩⟩⟩⟩⟩⟩⟩⟩⟩⟩⟩ ?_
            exact ih x5 x6 x7 x8 x10 (x11 + (1 : Int32)) s21 k hX110 hX72
          · have k := k.2 c
            refine Ex.seg hq 3 (j := 80) (L' := [.ref 46, pu, pu, pu, pu, .int x5, .int x6, .int x7, .int x8, pu, .int x10, .int x11, .int r18, pu]) (S' := [.int r18, .ref 8]) (h' := hpS s21) rfl ?_
            refine Ex.cl hq rfl rfl ?_
            refine Rn.mono (q_119 (d := d + 2) r18 s21 k) ?_
            rintro _ _ ⟨r24, s23, rfl, rfl, k⟩
            show Ex sc (d + 3) 99 81 [.ref 46, pu, pu, pu, pu, .int x5, .int x6, .int x7, .int x8, pu, .int x10, .int x11, .int r18, pu] [.int r24] (hpS s23) _
            refine Ex.seg hq 4 (j := 85) (L' := [.ref 46, pu, pu, pu, pu, .int x5, .int x6, .int x7, .int x8, pu, .int x10, .int x11, .int r18, pu]) (S' := [.int x7, .int (if 0 ≤ (r24 - x6) then (r24 - x6) else 0 - (r24 - x6))]) (h' := hpS s23) rfl ?_
            refine Ex.i2 hq rfl (fun c => ?_) (fun c => ?_)
            · have k := k.1 c
              refine Ex.seg hq 2 (j := 52) (L' := [.ref 46, pu, pu, pu, pu, .int x5, .int x6, .int x7, .int x8, pu, .int x10, .int (x11 + (1 : Int32)), .int r18, pu]) (S' := []) (h' := hpS s23) rfl ?_
              refine Ex.fg (L := [.ref 46, pu, pu, pu, pu, .int x5, .int x6, .int x7, .int x8, pu, .int x10, .int (x11 + (1 : Int32)), pu, pu]) ⟨Or.inl rfl, ⟨Or.inl rfl, ⟨Or.inl rfl, ⟨Or.inl rfl, ⟨Or.inl rfl, ⟨Or.inl rfl, ⟨Or.inl rfl, ⟨Or.inl rfl, ⟨Or.inl rfl, ⟨Or.inl rfl, ⟨Or.inl rfl, ⟨Or.inl rfl, ⟨Or.inr ⟨rfl, rfl⟩, ⟨Or.inl rfl, trivial⟩⟩⟩⟩⟩⟩⟩⟩⟩⟩⟩⟩⟩⟩ ?_
              exact ih x5 x6 x7 x8 x10 (x11 + (1 : Int32)) s23 k hX110 hX72
            · have k := k.2 c
              refine Ex.seg hq 4 (j := 90) (L' := [.ref 46, pu, pu, pu, pu, .int x5, .int x6, .int x7, .int x8, pu, .int x10, .int x11, .int r18, pu]) (S' := [.int (1 : Int32), .int r18, .ref 1]) (h' := hpS s23) rfl ?_
              refine Ex.cl hq rfl rfl ?_
              refine Rn.mono (q_9 (d := d + 2) r18 (1 : Int32) s23 k) ?_
              rintro _ _ ⟨r26, s25, rfl, rfl, k⟩
              show Ex sc (d + 3) 99 91 [.ref 46, pu, pu, pu, pu, .int x5, .int x6, .int x7, .int x8, pu, .int x10, .int x11, .int r18, pu] [.int r26] (hpS s25) _
              refine Ex.seg hq 1 (j := 92) (L' := [.ref 46, pu, pu, pu, pu, .int x5, .int x6, .int x7, .int x8, pu, .int x10, .int x11, .int r18, pu]) (S' := [.int x5, .int r26]) (h' := hpS s25) rfl ?_
              refine Ex.cl hq rfl rfl ?_
              refine Rn.mono (q_100 (d := d + 2) r26 x5 s25 k) ?_
              rintro _ _ ⟨r28, s27, rfl, rfl, k⟩
              show Ex sc (d + 3) 99 93 [.ref 46, pu, pu, pu, pu, .int x5, .int x6, .int x7, .int x8, pu, .int x10, .int x11, .int r18, pu] [.int r28] (hpS s27) _
              refine Ex.seg hq 8 (j := 101) (L' := [.ref 46, pu, pu, pu, pu, .int x5, .int x6, .int x7, .int x8, pu, .int x10, .int x11, .int r18, .int r28]) (S' := [.int r18, .ref 1, .int r28, .ref 46, .int x10, .int (100000 : Int32)]) (h' := hpS s27) rfl ?_
              refine Ex.cl hq rfl rfl ?_
              refine Rn.mono (q_16 (d := d + 1) r18 s27 k) ?_
              rintro _ _ ⟨r30, s29, rfl, rfl, k⟩
              show Ex sc (d + 3) 99 102 [.ref 46, pu, pu, pu, pu, .int x5, .int x6, .int x7, .int x8, pu, .int x10, .int x11, .int r18, .int r28] [.int r30, .int r28, .ref 46, .int x10, .int (100000 : Int32)] (hpS s29) _
              refine Ex.seg hq 1 (j := 103) (L' := [.ref 46, pu, pu, pu, pu, .int x5, .int x6, .int x7, .int x8, pu, .int x10, .int x11, .int r18, .int r28]) (S' := [.int x5, .int r30, .int r28, .ref 46, .int x10, .int (100000 : Int32)]) (h' := hpS s29) rfl ?_
              refine Ex.cl hq rfl rfl ?_
              refine Rn.mono (q_100 (d := d + 2) r30 x5 s29 k) ?_
              rintro _ _ ⟨r32, s31, rfl, rfl, k⟩
              show Ex sc (d + 3) 99 104 [.ref 46, pu, pu, pu, pu, .int x5, .int x6, .int x7, .int x8, pu, .int x10, .int x11, .int r18, .int r28] [.int r32, .int r28, .ref 46, .int x10, .int (100000 : Int32)] (hpS s31) _
              refine Ex.cl hq rfl rfl ?_
              refine Rn.mono (q_101 (d := d + 0) r28 r32 s31 k) ?_
              rintro _ _ ⟨r34, s33, rfl, rfl, k⟩
              show Ex sc (d + 3) 99 105 [.ref 46, pu, pu, pu, pu, .int x5, .int x6, .int x7, .int x8, pu, .int x10, .int x11, .int r18, .int r28] [.int r34, .int x10, .int (100000 : Int32)] (hpS s33) _
              refine Ex.seg hq 5 (j := 52) (L' := [.ref 46, pu, pu, pu, pu, .int x5, .int x6, .int x7, .int x8, pu, .int (if (x10 + r34) < (100000 : Int32) then (x10 + r34) else (100000 : Int32)), .int (x11 + (1 : Int32)), .int r18, .int r28]) (S' := []) (h' := hpS s33) rfl ?_
              refine Ex.fg (L := [.ref 46, pu, pu, pu, pu, .int x5, .int x6, .int x7, .int x8, pu, .int (if (x10 + r34) < (100000 : Int32) then (x10 + r34) else (100000 : Int32)), .int (x11 + (1 : Int32)), pu, pu]) ⟨Or.inl rfl, ⟨Or.inl rfl, ⟨Or.inl rfl, ⟨Or.inl rfl, ⟨Or.inl rfl, ⟨Or.inl rfl, ⟨Or.inl rfl, ⟨Or.inl rfl, ⟨Or.inl rfl, ⟨Or.inl rfl, ⟨Or.inl rfl, ⟨Or.inl rfl, ⟨Or.inr ⟨rfl, rfl⟩, ⟨Or.inr ⟨rfl, rfl⟩, trivial⟩⟩⟩⟩⟩⟩⟩⟩⟩⟩⟩⟩⟩⟩ ?_
              exact ih x5 x6 x7 x8 (if (x10 + r34) < (100000 : Int32) then (x10 + r34) else (100000 : Int32)) (x11 + (1 : Int32)) s33 k hX110 hX72
        · have k := k.2 c
          refine Ex.fg (L := [pu, pu, pu, pu, pu, pu, pu, pu, pu, pu, .int x10, pu, pu, pu]) ⟨Or.inr ⟨rfl, rfl⟩, ⟨Or.inl rfl, ⟨Or.inl rfl, ⟨Or.inl rfl, ⟨Or.inl rfl, ⟨Or.inr ⟨rfl, rfl⟩, ⟨Or.inr ⟨rfl, rfl⟩, ⟨Or.inr ⟨rfl, rfl⟩, ⟨Or.inr ⟨rfl, rfl⟩, ⟨Or.inl rfl, ⟨Or.inl rfl, ⟨Or.inr ⟨rfl, rfl⟩, ⟨Or.inr ⟨rfl, rfl⟩, ⟨Or.inl rfl, trivial⟩⟩⟩⟩⟩⟩⟩⟩⟩⟩⟩⟩⟩⟩ ?_
          exact hX72 x10 s19 k
/-- RowAuditor$Rounder.roundsFrom(III)I -/
def w_99 (p0 : Int32) (p1 : Int32) (p2 : Int32) (s : ST) (K : Int32 → ST → Prop) : Prop := w_123 p0 s (fun r2 s1 => w_9 r2 (1 : Int32) s1 (fun r4 s3 => w_119 r2 s3 (fun r6 s5 => (¬ (100 : Int32) = 0 ∧ w_9 r2 (3 : Int32) s5 (fun r8 s7 => w_16 r2 s7 (fun r10 s9 => w_100 r10 r4 s9 (fun r12 s11 => w_106 s11 (fun s13 => w_105 r12 ((1 : Int32) <<< (r12 &&& 31)) (1 : Int32) s13 (fun s15 => (∃ m, w_99_52 m r4 r6 ((r6 * p2) / (100 : Int32)) (r8 + p1) (0 : Int32) (p0 + (1 : Int32)) s15 (fun y10 s35 => K y10 s35) (fun y10 s36 => K y10 s36) K))))))))))
theorem q_99 {d : Nat} {K : Int32 → ST → Prop} (p0 : Int32) (p1 : Int32) (p2 : Int32) (s : ST) (k : w_99 p0 p1 p2 s K) : Rn sc (d + 3) 99 [.ref 46, .int p0, .int p1, .int p2] (hpS s) (kI K) := by
  have hq : prog[99]? = some pm99 := rfl
  refine Rn.of (L := [.ref 46, .int p0, .int p1, .int p2, pu, pu, pu, pu, pu, pu, pu, pu, pu, pu]) hq rfl rfl ?_
  unfold w_99 at k
  refine Ex.seg hq 3 (j := 3) (L' := [.ref 46, .int p0, .int p1, .int p2, pu, pu, pu, pu, pu, pu, pu, pu, pu, pu]) (S' := [.int p0, .ref 8]) (h' := hpS s) rfl ?_
  refine Ex.cl hq rfl rfl ?_
  refine Rn.mono (q_123 (d := d + 2) p0 s k) ?_
  rintro _ _ ⟨r2, s1, rfl, rfl, k⟩
  show Ex sc (d + 3) 99 4 [.ref 46, .int p0, .int p1, .int p2, pu, pu, pu, pu, pu, pu, pu, pu, pu, pu] [.int r2] (hpS s1) _
  refine Ex.seg hq 5 (j := 9) (L' := [.ref 46, .int p0, .int p1, .int p2, .int r2, pu, pu, pu, pu, pu, pu, pu, pu, pu]) (S' := [.int (1 : Int32), .int r2, .ref 1]) (h' := hpS s1) rfl ?_
  refine Ex.cl hq rfl rfl ?_
  refine Rn.mono (q_9 (d := d + 2) r2 (1 : Int32) s1 k) ?_
  rintro _ _ ⟨r4, s3, rfl, rfl, k⟩
  show Ex sc (d + 3) 99 10 [.ref 46, .int p0, .int p1, .int p2, .int r2, pu, pu, pu, pu, pu, pu, pu, pu, pu] [.int r4] (hpS s3) _
  refine Ex.seg hq 4 (j := 14) (L' := [.ref 46, .int p0, .int p1, .int p2, .int r2, .int r4, pu, pu, pu, pu, pu, pu, pu, pu]) (S' := [.int r2, .ref 8]) (h' := hpS s3) rfl ?_
  refine Ex.cl hq rfl rfl ?_
  refine Rn.mono (q_119 (d := d + 2) r2 s3 k) ?_
  rintro _ _ ⟨r6, s5, rfl, rfl, k⟩
  show Ex sc (d + 3) 99 15 [.ref 46, .int p0, .int p1, .int p2, .int r2, .int r4, pu, pu, pu, pu, pu, pu, pu, pu] [.int r6] (hpS s5) _
  refine Ex.seg hq 5 (j := 20) (L' := [.ref 46, .int p0, .int p1, .int p2, .int r2, .int r4, .int r6, pu, pu, pu, pu, pu, pu, pu]) (S' := [.int (100 : Int32), .int (r6 * p2)]) (h' := hpS s5) rfl ?_
  obtain ⟨hz, k⟩ := k
  refine Ex.dv hq rfl hz ?_
  refine Ex.seg hq 5 (j := 26) (L' := [.ref 46, .int p0, .int p1, .int p2, .int r2, .int r4, .int r6, .int ((r6 * p2) / (100 : Int32)), pu, pu, pu, pu, pu, pu]) (S' := [.int (3 : Int32), .int r2, .ref 1]) (h' := hpS s5) rfl ?_
  refine Ex.cl hq rfl rfl ?_
  refine Rn.mono (q_9 (d := d + 2) r2 (3 : Int32) s5 k) ?_
  rintro _ _ ⟨r8, s7, rfl, rfl, k⟩
  show Ex sc (d + 3) 99 27 [.ref 46, .int p0, .int p1, .int p2, .int r2, .int r4, .int r6, .int ((r6 * p2) / (100 : Int32)), pu, pu, pu, pu, pu, pu] [.int r8] (hpS s7) _
  refine Ex.seg hq 6 (j := 33) (L' := [.ref 46, .int p0, .int p1, .int p2, .int r2, .int r4, .int r6, .int ((r6 * p2) / (100 : Int32)), .int (r8 + p1), pu, pu, pu, pu, pu]) (S' := [.int r2, .ref 1]) (h' := hpS s7) rfl ?_
  refine Ex.cl hq rfl rfl ?_
  refine Rn.mono (q_16 (d := d + 1) r2 s7 k) ?_
  rintro _ _ ⟨r10, s9, rfl, rfl, k⟩
  show Ex sc (d + 3) 99 34 [.ref 46, .int p0, .int p1, .int p2, .int r2, .int r4, .int r6, .int ((r6 * p2) / (100 : Int32)), .int (r8 + p1), pu, pu, pu, pu, pu] [.int r10] (hpS s9) _
  refine Ex.seg hq 1 (j := 35) (L' := [.ref 46, .int p0, .int p1, .int p2, .int r2, .int r4, .int r6, .int ((r6 * p2) / (100 : Int32)), .int (r8 + p1), pu, pu, pu, pu, pu]) (S' := [.int r4, .int r10]) (h' := hpS s9) rfl ?_
  refine Ex.cl hq rfl rfl ?_
  refine Rn.mono (q_100 (d := d + 2) r10 r4 s9 k) ?_
  rintro _ _ ⟨r12, s11, rfl, rfl, k⟩
  show Ex sc (d + 3) 99 36 [.ref 46, .int p0, .int p1, .int p2, .int r2, .int r4, .int r6, .int ((r6 * p2) / (100 : Int32)), .int (r8 + p1), pu, pu, pu, pu, pu] [.int r12] (hpS s11) _
  refine Ex.seg hq 2 (j := 38) (L' := [.ref 46, .int p0, .int p1, .int p2, .int r2, .int r4, .int r6, .int ((r6 * p2) / (100 : Int32)), .int (r8 + p1), .int r12, pu, pu, pu, pu]) (S' := [.ref 46]) (h' := hpS s11) rfl ?_
  refine Ex.cl hq rfl rfl ?_
  refine Rn.mono (q_106 (d := d + 0) s11 k) ?_
  rintro _ _ ⟨s13, rfl, rfl, k⟩
  show Ex sc (d + 3) 99 39 [.ref 46, .int p0, .int p1, .int p2, .int r2, .int r4, .int r6, .int ((r6 * p2) / (100 : Int32)), .int (r8 + p1), .int r12, pu, pu, pu, pu] [] (hpS s13) _
  refine Ex.seg hq 6 (j := 45) (L' := [.ref 46, .int p0, .int p1, .int p2, .int r2, .int r4, .int r6, .int ((r6 * p2) / (100 : Int32)), .int (r8 + p1), .int r12, pu, pu, pu, pu]) (S' := [.int (1 : Int32), .int ((1 : Int32) <<< (r12 &&& 31)), .int r12, .ref 46]) (h' := hpS s13) rfl ?_
  refine Ex.cl hq rfl rfl ?_
  refine Rn.mono (q_105 (d := d + 1) r12 ((1 : Int32) <<< (r12 &&& 31)) (1 : Int32) s13 k) ?_
  rintro _ _ ⟨s15, rfl, rfl, k⟩
  show Ex sc (d + 3) 99 46 [.ref 46, .int p0, .int p1, .int p2, .int r2, .int r4, .int r6, .int ((r6 * p2) / (100 : Int32)), .int (r8 + p1), .int r12, pu, pu, pu, pu] [] (hpS s15) _
  refine Ex.seg hq 6 (j := 52) (L' := [.ref 46, .int p0, .int p1, .int p2, .int r2, .int r4, .int r6, .int ((r6 * p2) / (100 : Int32)), .int (r8 + p1), .int r12, .int (0 : Int32), .int (p0 + (1 : Int32)), pu, pu]) (S' := []) (h' := hpS s15) rfl ?_
  obtain ⟨m, k⟩ := k
  refine Ex.fg (L := [.ref 46, pu, pu, pu, pu, .int r4, .int r6, .int ((r6 * p2) / (100 : Int32)), .int (r8 + p1), pu, .int (0 : Int32), .int (p0 + (1 : Int32)), pu, pu]) ⟨Or.inl rfl, ⟨Or.inr ⟨rfl, rfl⟩, ⟨Or.inr ⟨rfl, rfl⟩, ⟨Or.inr ⟨rfl, rfl⟩, ⟨Or.inr ⟨rfl, rfl⟩, ⟨Or.inl rfl, ⟨Or.inl rfl, ⟨Or.inl rfl, ⟨Or.inl rfl, ⟨Or.inr ⟨rfl, rfl⟩, ⟨Or.inl rfl, ⟨Or.inl rfl, ⟨Or.inl rfl, ⟨Or.inl rfl, trivial⟩⟩⟩⟩⟩⟩⟩⟩⟩⟩⟩⟩⟩⟩ ?_
  refine q_99_52 (d := d) m r4 r6 ((r6 * p2) / (100 : Int32)) (r8 + p1) (0 : Int32) (p0 + (1 : Int32)) s15 k ?_ ?_
  · intro y10 s35 k
    refine Ex.seg hq 1 (j := 111) (L' := [pu, pu, pu, pu, pu, pu, pu, pu, pu, pu, .int y10, pu, pu, pu]) (S' := [.int y10]) (h' := hpS s35) rfl ?_
    exact Ex.rt hq rfl rfl ⟨y10, s35, rfl, rfl, k⟩
  · intro y10 s36 k
    refine Ex.seg hq 2 (j := 111) (L' := [pu, pu, pu, pu, pu, pu, pu, pu, pu, pu, .int y10, pu, pu, pu]) (S' := [.int y10]) (h' := hpS s36) rfl ?_
    exact Ex.rt hq rfl rfl ⟨y10, s36, rfl, rfl, k⟩
def w_111_10 : Nat → Int32 → ST → (ST → Prop) → (ST → Prop) → Prop
  | 0, _, _, _, _ => False
  | n + 1, x2, s, X23, K => (((s.1 102) ≤ x2 → X23  s) ∧ (¬ ((s.1 102) ≤ x2) → w_8 x2 s (fun r4 s3 => w_113 r4 s3 (fun s5 => w_111_10 n (x2 + (1 : Int32)) s5 X23 K))))
theorem q_111_10 {d : Nat} {X23 : ST → Prop} {K : ST → Prop} : ∀ (n : Nat) (x2 : Int32) (s : ST), w_111_10 n x2 s X23 K → (∀ (s : ST), X23  s → Ex sc (d + 4) 111 23 [.ref 8, pu, pu, pu] [] (hpS s) (kV K)) → Ex sc (d + 4) 111 10 [.ref 8, pu, .int x2, pu] [] (hpS s) (kV K) := by
  have hq : prog[111]? = some pm111 := rfl
  intro n
  induction n with
  | zero =>
    intro x2 s k
    exact k.elim
  | succ n ih =>
    intro x2 s k hX23
    rw [w_111_10] at k
    refine Ex.seg hq 4 (j := 14) (L' := [.ref 8, pu, .int x2, pu]) (S' := [.int (s.1 102), .int x2]) (h' := hpS s) rfl ?_
    refine Ex.i2 hq rfl (fun c => ?_) (fun c => ?_)
    · have k := k.1 c
      refine Ex.fg (L := [.ref 8, pu, pu, pu]) ⟨Or.inl rfl, ⟨Or.inl rfl, ⟨Or.inr ⟨rfl, rfl⟩, ⟨Or.inl rfl, trivial⟩⟩⟩⟩ ?_
      exact hX23  s k
    · have k := k.2 c
      refine Ex.seg hq 4 (j := 19) (L' := [.ref 8, pu, .int x2, pu]) (S' := [.int x2, .ref 1, .ref 8]) (h' := hpS s) rfl ?_
      refine Ex.cl hq rfl rfl ?_
      refine Rn.mono (q_8 (d := d + 3) x2 s k) ?_
      rintro _ _ ⟨r4, s3, rfl, rfl, k⟩
      show Ex sc (d + 4) 111 20 [.ref 8, pu, .int x2, pu] [.int r4, .ref 8] (hpS s3) _
      refine Ex.cl hq rfl rfl ?_
      refine Rn.mono (q_113 (d := d + 2) r4 s3 k) ?_
      rintro _ _ ⟨s5, rfl, rfl, k⟩
      show Ex sc (d + 4) 111 21 [.ref 8, pu, .int x2, pu] [] (hpS s5) _
      refine Ex.seg hq 2 (j := 10) (L' := [.ref 8, pu, .int (x2 + (1 : Int32)), pu]) (S' := []) (h' := hpS s5) rfl ?_
      exact ih (x2 + (1 : Int32)) s5 k hX23
def w_111_27 : Nat → Int32 → Int32 → ST → (ST → Prop) → (ST → Prop) → Prop
  | 0, _, _, _, _, _ => False
  | n + 1, x2, x3, s, X50, K => (((s.1 801) < x3 → X50  s) ∧ (¬ ((s.1 801) < x3) → ((x3 = (s.1 801) → w_115 x2 x3 s (fun s8 => w_111_27 n x3 (x3 + (1 : Int32)) s8 X50 K)) ∧ (¬ (x3 = (s.1 801)) → w_114 x3 s (fun r11 s10 => w_114 x2 s10 (fun r13 s12 => ((r11 = r13 → w_111_27 n x2 (x3 + (1 : Int32)) s12 X50 K) ∧ (¬ (r11 = r13) → w_115 x2 x3 s12 (fun s14 => w_111_27 n x3 (x3 + (1 : Int32)) s14 X50 K)))))))))
theorem q_111_27 {d : Nat} {X50 : ST → Prop} {K : ST → Prop} : ∀ (n : Nat) (x2 : Int32) (x3 : Int32) (s : ST), w_111_27 n x2 x3 s X50 K → (∀ (s : ST), X50  s → Ex sc (d + 4) 111 50 [pu, pu, pu, pu] [] (hpS s) (kV K)) → Ex sc (d + 4) 111 27 [.ref 8, pu, .int x2, .int x3] [] (hpS s) (kV K) := by
  have hq : prog[111]? = some pm111 := rfl
  intro n
  induction n with
  | zero =>
    intro x2 x3 s k
    exact k.elim
  | succ n ih =>
    intro x2 x3 s k hX50
    rw [w_111_27] at k
    refine Ex.seg hq 3 (j := 30) (L' := [.ref 8, pu, .int x2, .int x3]) (S' := [.int (s.1 801), .int x3]) (h' := hpS s) rfl ?_
    refine Ex.i2 hq rfl (fun c => ?_) (fun c => ?_)
    · have k := k.1 c
      refine Ex.fg (L := [pu, pu, pu, pu]) ⟨Or.inr ⟨rfl, rfl⟩, ⟨Or.inl rfl, ⟨Or.inr ⟨rfl, rfl⟩, ⟨Or.inr ⟨rfl, rfl⟩, trivial⟩⟩⟩⟩ ?_
      exact hX50  s k
    · have k := k.2 c
      refine Ex.seg hq 3 (j := 34) (L' := [.ref 8, pu, .int x2, .int x3]) (S' := [.int (s.1 801), .int x3]) (h' := hpS s) rfl ?_
      refine Ex.i2 hq rfl (fun c => ?_) (fun c => ?_)
      · have k := k.1 c
        refine Ex.seg hq 3 (j := 45) (L' := [.ref 8, pu, .int x2, .int x3]) (S' := [.int x3, .int x2, .ref 8]) (h' := hpS s) rfl ?_
        refine Ex.cl hq rfl rfl ?_
        refine Rn.mono (q_115 (d := d + 0) x2 x3 s k) ?_
        rintro _ _ ⟨s8, rfl, rfl, k⟩
        show Ex sc (d + 4) 111 46 [.ref 8, pu, .int x2, .int x3] [] (hpS s8) _
        refine Ex.seg hq 4 (j := 27) (L' := [.ref 8, pu, .int x3, .int (x3 + (1 : Int32))]) (S' := []) (h' := hpS s8) rfl ?_
        exact ih x3 (x3 + (1 : Int32)) s8 k hX50
      · have k := k.2 c
        refine Ex.seg hq 2 (j := 37) (L' := [.ref 8, pu, .int x2, .int x3]) (S' := [.int x3, .ref 8]) (h' := hpS s) rfl ?_
        refine Ex.cl hq rfl rfl ?_
        refine Rn.mono (q_114 (d := d + 2) x3 s k) ?_
        rintro _ _ ⟨r11, s10, rfl, rfl, k⟩
        show Ex sc (d + 4) 111 38 [.ref 8, pu, .int x2, .int x3] [.int r11] (hpS s10) _
        refine Ex.seg hq 2 (j := 40) (L' := [.ref 8, pu, .int x2, .int x3]) (S' := [.int x2, .ref 8, .int r11]) (h' := hpS s10) rfl ?_
        refine Ex.cl hq rfl rfl ?_
        refine Rn.mono (q_114 (d := d + 2) x2 s10 k) ?_
        rintro _ _ ⟨r13, s12, rfl, rfl, k⟩
        show Ex sc (d + 4) 111 41 [.ref 8, pu, .int x2, .int x3] [.int r13, .int r11] (hpS s12) _
        refine Ex.i2 hq rfl (fun c => ?_) (fun c => ?_)
        · have k := k.1 c
          refine Ex.seg hq 2 (j := 27) (L' := [.ref 8, pu, .int x2, .int (x3 + (1 : Int32))]) (S' := []) (h' := hpS s12) rfl ?_
          exact ih x2 (x3 + (1 : Int32)) s12 k hX50
        · have k := k.2 c
          refine Ex.seg hq 3 (j := 45) (L' := [.ref 8, pu, .int x2, .int x3]) (S' := [.int x3, .int x2, .ref 8]) (h' := hpS s12) rfl ?_
          refine Ex.cl hq rfl rfl ?_
          refine Rn.mono (q_115 (d := d + 0) x2 x3 s12 k) ?_
          rintro _ _ ⟨s14, rfl, rfl, k⟩
          show Ex sc (d + 4) 111 46 [.ref 8, pu, .int x2, .int x3] [] (hpS s14) _
          refine Ex.seg hq 4 (j := 27) (L' := [.ref 8, pu, .int x3, .int (x3 + (1 : Int32))]) (S' := []) (h' := hpS s14) rfl ?_
          exact ih x3 (x3 + (1 : Int32)) s14 k hX50
/-- RowAuditor$View.asOf(I)V -/
def w_111 (p0 : Int32) (s : ST) (K : ST → Prop) : Prop := w_112 (sI s 800 p0) (fun s1 => (∃ m, w_111_10 m (0 : Int32) (sI s1 801 (0 : Int32)) (fun s7 => (∃ m, w_111_27 m (0 : Int32) (1 : Int32) s7 (fun s16 => K s16) K)) K))
theorem q_111 {d : Nat} {K : ST → Prop} (p0 : Int32) (s : ST) (k : w_111 p0 s K) : Rn sc (d + 4) 111 [.ref 8, .int p0] (hpS s) (kV K) := by
  have hq : prog[111]? = some pm111 := rfl
  refine Rn.of (L := [.ref 8, .int p0, pu, pu]) hq rfl rfl ?_
  unfold w_111 at k
  refine Ex.seg hq 4 (j := 4) (L' := [.ref 8, .int p0, pu, pu]) (S' := [.ref 8]) (h' := hpS (sI s 800 p0)) rfl ?_
  refine Ex.cl hq rfl rfl ?_
  refine Rn.mono (q_112 (d := d + 2) (sI s 800 p0) k) ?_
  rintro _ _ ⟨s1, rfl, rfl, k⟩
  show Ex sc (d + 4) 111 5 [.ref 8, .int p0, pu, pu] [] (hpS s1) _
  refine Ex.seg hq 5 (j := 10) (L' := [.ref 8, .int p0, .int (0 : Int32), pu]) (S' := []) (h' := hpS (sI s1 801 (0 : Int32))) rfl ?_
  obtain ⟨m, k⟩ := k
  refine Ex.fg (L := [.ref 8, pu, .int (0 : Int32), pu]) ⟨Or.inl rfl, ⟨Or.inr ⟨rfl, rfl⟩, ⟨Or.inl rfl, ⟨Or.inl rfl, trivial⟩⟩⟩⟩ ?_
  refine q_111_10 (d := d) m (0 : Int32) (sI s1 801 (0 : Int32)) k ?_
  · intro s7 k
    refine Ex.seg hq 4 (j := 27) (L' := [.ref 8, pu, .int (0 : Int32), .int (1 : Int32)]) (S' := []) (h' := hpS s7) rfl ?_
    obtain ⟨m, k⟩ := k
    refine q_111_27 (d := d) m (0 : Int32) (1 : Int32) s7 k ?_
    · intro s16 k
      exact Ex.rt hq rfl rfl ⟨s16, rfl, rfl, k⟩
/-- RowAuditor.mend(II)Z -/
def w_131 (p0 : Int32) (p1 : Int32) (s : ST) (K : Int32 → ST → Prop) : Prop := w_2 p0 s (fun r2 s1 => ((r2 = 0 → K (0 : Int32) s1) ∧ (¬ (r2 = 0) → w_181 p1 (0 : Int32) (1000000 : Int32) s1 (fun r4 s3 => ((r4 = 0 → K (0 : Int32) s3) ∧ (¬ (r4 = 0) → (((s3.1 103) < (100 : Int32) → w_111 (s3.1 100) s3 (fun s5 => w_118 p0 s5 (fun r8 s7 => ((¬ r8 = 0 → w_11 p0 p1 s7 (fun s9 => K (1 : Int32) s9)) ∧ (¬ (¬ r8 = 0) → K (0 : Int32) s7))))) ∧ (¬ ((s3.1 103) < (100 : Int32)) → K (0 : Int32) s3))))))))
theorem q_131 {d : Nat} {K : Int32 → ST → Prop} (p0 : Int32) (p1 : Int32) (s : ST) (k : w_131 p0 p1 s K) : Rn sc (d + 5) 131 [.ref 0, .int p0, .int p1] (hpS s) (kZ K) := by
  have hq : prog[131]? = some pm131 := rfl
  refine Rn.of (L := [.ref 0, .int p0, .int p1]) hq rfl rfl ?_
  unfold w_131 at k
  refine Ex.seg hq 3 (j := 3) (L' := [.ref 0, .int p0, .int p1]) (S' := [.int p0, .ref 1]) (h' := hpS s) rfl ?_
  refine Ex.cl hq rfl rfl ?_
  refine Rn.mono (q_2 (d := d + 4) p0 s k) ?_
  rintro _ _ ⟨r2, s1, rfl, hzr2, rfl, k⟩
  show Ex sc (d + 5) 131 4 [.ref 0, .int p0, .int p1] [.int r2] (hpS s1) _
  refine Ex.i1 hq rfl (fun c => ?_) (fun c => ?_)
  · have k := k.1 c
    refine Ex.seg hq 1 (j := 16) (L' := [.ref 0, .int p0, .int p1]) (S' := [.int (0 : Int32)]) (h' := hpS s1) rfl ?_
    exact Ex.zr hq rfl rfl (Or.inl rfl) ⟨(0 : Int32), s1, rfl, (Or.inl rfl), rfl, k⟩
  · have k := k.2 c
    refine Ex.seg hq 3 (j := 8) (L' := [.ref 0, .int p0, .int p1]) (S' := [.int (1000000 : Int32), .int (0 : Int32), .int p1]) (h' := hpS s1) rfl ?_
    refine Ex.cl hq rfl rfl ?_
    refine Rn.mono (q_181 (d := d + 4) p1 (0 : Int32) (1000000 : Int32) s1 k) ?_
    rintro _ _ ⟨r4, s3, rfl, hzr4, rfl, k⟩
    show Ex sc (d + 5) 131 9 [.ref 0, .int p0, .int p1] [.int r4] (hpS s3) _
    refine Ex.i1 hq rfl (fun c => ?_) (fun c => ?_)
    · have k := k.1 c
      refine Ex.seg hq 1 (j := 16) (L' := [.ref 0, .int p0, .int p1]) (S' := [.int (0 : Int32)]) (h' := hpS s3) rfl ?_
      exact Ex.zr hq rfl rfl (Or.inl rfl) ⟨(0 : Int32), s3, rfl, (Or.inl rfl), rfl, k⟩
    · have k := k.2 c
      refine Ex.seg hq 4 (j := 14) (L' := [.ref 0, .int p0, .int p1]) (S' := [.int (100 : Int32), .int (s3.1 103)]) (h' := hpS s3) rfl ?_
      refine Ex.i2 hq rfl (fun c => ?_) (fun c => ?_)
      · have k := k.1 c
        refine Ex.seg hq 5 (j := 22) (L' := [.ref 0, .int p0, .int p1]) (S' := [.int (s3.1 100), .ref 8]) (h' := hpS s3) rfl ?_
        refine Ex.cl hq rfl rfl ?_
        refine Rn.mono (q_111 (d := d + 0) (s3.1 100) s3 k) ?_
        rintro _ _ ⟨s5, rfl, rfl, k⟩
        show Ex sc (d + 5) 131 23 [.ref 0, .int p0, .int p1] [] (hpS s5) _
        refine Ex.seg hq 3 (j := 26) (L' := [.ref 0, .int p0, .int p1]) (S' := [.int p0, .ref 8]) (h' := hpS s5) rfl ?_
        refine Ex.cl hq rfl rfl ?_
        refine Rn.mono (q_118 (d := d + 4) p0 s5 k) ?_
        rintro _ _ ⟨r8, s7, rfl, hzr8, rfl, k⟩
        show Ex sc (d + 5) 131 27 [.ref 0, .int p0, .int p1] [.int r8] (hpS s7) _
        refine Ex.i1 hq rfl (fun c => ?_) (fun c => ?_)
        · have k := k.1 c
          refine Ex.seg hq 4 (j := 34) (L' := [.ref 0, .int p0, .int p1]) (S' := [.int p1, .int p0, .ref 1]) (h' := hpS s7) rfl ?_
          refine Ex.cl hq rfl rfl ?_
          refine Rn.mono (q_11 (d := d + 4) p0 p1 s7 k) ?_
          rintro _ _ ⟨s9, rfl, rfl, k⟩
          show Ex sc (d + 5) 131 35 [.ref 0, .int p0, .int p1] [] (hpS s9) _
          refine Ex.seg hq 1 (j := 36) (L' := [.ref 0, .int p0, .int p1]) (S' := [.int (1 : Int32)]) (h' := hpS s9) rfl ?_
          exact Ex.zr hq rfl rfl (Or.inr rfl) ⟨(1 : Int32), s9, rfl, (Or.inr rfl), rfl, k⟩
        · have k := k.2 c
          refine Ex.seg hq 1 (j := 29) (L' := [.ref 0, .int p0, .int p1]) (S' := [.int (0 : Int32)]) (h' := hpS s7) rfl ?_
          exact Ex.zr hq rfl rfl (Or.inl rfl) ⟨(0 : Int32), s7, rfl, (Or.inl rfl), rfl, k⟩
      · have k := k.2 c
        refine Ex.seg hq 1 (j := 16) (L' := [.ref 0, .int p0, .int p1]) (S' := [.int (0 : Int32)]) (h' := hpS s3) rfl ?_
        exact Ex.zr hq rfl rfl (Or.inl rfl) ⟨(0 : Int32), s3, rfl, (Or.inl rfl), rfl, k⟩
/-- RowAuditor.known(III)I -/
def w_132 (p0 : Int32) (p1 : Int32) (p2 : Int32) (s : ST) (K : Int32 → ST → Prop) : Prop := w_182 p1 s (fun r2 s1 => ((r2 = 0 → K (-1 : Int32) s1) ∧ (¬ (r2 = 0) → w_181 p2 (0 : Int32) (1 : Int32) s1 (fun r4 s3 => ((¬ r4 = 0 → w_111 p1 s3 (fun s5 => w_118 p0 s5 (fun r8 s7 => ((¬ r8 = 0 → ((¬ p2 = 0 → w_120 p0 s7 (fun r10 s9 => K r10 s9)) ∧ (¬ (¬ p2 = 0) → w_119 p0 s7 (fun r12 s11 => K r12 s11)))) ∧ (¬ (¬ r8 = 0) → K (-1 : Int32) s7))))) ∧ (¬ (¬ r4 = 0) → K (-1 : Int32) s3))))))
theorem q_132 {d : Nat} {K : Int32 → ST → Prop} (p0 : Int32) (p1 : Int32) (p2 : Int32) (s : ST) (k : w_132 p0 p1 p2 s K) : Rn sc (d + 5) 132 [.ref 0, .int p0, .int p1, .int p2] (hpS s) (kI K) := by
  have hq : prog[132]? = some pm132 := rfl
  refine Rn.of (L := [.ref 0, .int p0, .int p1, .int p2]) hq rfl rfl ?_
  unfold w_132 at k
  refine Ex.seg hq 1 (j := 1) (L' := [.ref 0, .int p0, .int p1, .int p2]) (S' := [.int p1]) (h' := hpS s) rfl ?_
  refine Ex.cl hq rfl rfl ?_
  refine Rn.mono (q_182 (d := d + 3) p1 s k) ?_
  rintro _ _ ⟨r2, s1, rfl, hzr2, rfl, k⟩
  show Ex sc (d + 5) 132 2 [.ref 0, .int p0, .int p1, .int p2] [.int r2] (hpS s1) _
  refine Ex.i1 hq rfl (fun c => ?_) (fun c => ?_)
  · have k := k.1 c
    refine Ex.seg hq 1 (j := 9) (L' := [.ref 0, .int p0, .int p1, .int p2]) (S' := [.int (-1 : Int32)]) (h' := hpS s1) rfl ?_
    exact Ex.rt hq rfl rfl ⟨(-1 : Int32), s1, rfl, rfl, k⟩
  · have k := k.2 c
    refine Ex.seg hq 3 (j := 6) (L' := [.ref 0, .int p0, .int p1, .int p2]) (S' := [.int (1 : Int32), .int (0 : Int32), .int p2]) (h' := hpS s1) rfl ?_
    refine Ex.cl hq rfl rfl ?_
    refine Rn.mono (q_181 (d := d + 4) p2 (0 : Int32) (1 : Int32) s1 k) ?_
    rintro _ _ ⟨r4, s3, rfl, hzr4, rfl, k⟩
    show Ex sc (d + 5) 132 7 [.ref 0, .int p0, .int p1, .int p2] [.int r4] (hpS s3) _
    refine Ex.i1 hq rfl (fun c => ?_) (fun c => ?_)
    · have k := k.1 c
      refine Ex.seg hq 3 (j := 13) (L' := [.ref 0, .int p0, .int p1, .int p2]) (S' := [.int p1, .ref 8]) (h' := hpS s3) rfl ?_
      refine Ex.cl hq rfl rfl ?_
      refine Rn.mono (q_111 (d := d + 0) p1 s3 k) ?_
      rintro _ _ ⟨s5, rfl, rfl, k⟩
      show Ex sc (d + 5) 132 14 [.ref 0, .int p0, .int p1, .int p2] [] (hpS s5) _
      refine Ex.seg hq 3 (j := 17) (L' := [.ref 0, .int p0, .int p1, .int p2]) (S' := [.int p0, .ref 8]) (h' := hpS s5) rfl ?_
      refine Ex.cl hq rfl rfl ?_
      refine Rn.mono (q_118 (d := d + 4) p0 s5 k) ?_
      rintro _ _ ⟨r8, s7, rfl, hzr8, rfl, k⟩
      show Ex sc (d + 5) 132 18 [.ref 0, .int p0, .int p1, .int p2] [.int r8] (hpS s7) _
      refine Ex.i1 hq rfl (fun c => ?_) (fun c => ?_)
      · have k := k.1 c
        refine Ex.seg hq 1 (j := 22) (L' := [.ref 0, .int p0, .int p1, .int p2]) (S' := [.int p2]) (h' := hpS s7) rfl ?_
        refine Ex.i1 hq rfl (fun c => ?_) (fun c => ?_)
        · have k := k.1 c
          refine Ex.seg hq 3 (j := 31) (L' := [.ref 0, .int p0, .int p1, .int p2]) (S' := [.int p0, .ref 8]) (h' := hpS s7) rfl ?_
          refine Ex.cl hq rfl rfl ?_
          refine Rn.mono (q_120 (d := d + 4) p0 s7 k) ?_
          rintro _ _ ⟨r10, s9, rfl, rfl, k⟩
          show Ex sc (d + 5) 132 32 [.ref 0, .int p0, .int p1, .int p2] [.int r10] (hpS s9) _
          exact Ex.rt hq rfl rfl ⟨r10, s9, rfl, rfl, k⟩
        · have k := k.2 c
          refine Ex.seg hq 3 (j := 26) (L' := [.ref 0, .int p0, .int p1, .int p2]) (S' := [.int p0, .ref 8]) (h' := hpS s7) rfl ?_
          refine Ex.cl hq rfl rfl ?_
          refine Rn.mono (q_119 (d := d + 4) p0 s7 k) ?_
          rintro _ _ ⟨r12, s11, rfl, rfl, k⟩
          show Ex sc (d + 5) 132 27 [.ref 0, .int p0, .int p1, .int p2] [.int r12] (hpS s11) _
          refine Ex.seg hq 1 (j := 32) (L' := [.ref 0, .int p0, .int p1, .int p2]) (S' := [.int r12]) (h' := hpS s11) rfl ?_
          exact Ex.rt hq rfl rfl ⟨r12, s11, rfl, rfl, k⟩
      · have k := k.2 c
        refine Ex.seg hq 1 (j := 20) (L' := [.ref 0, .int p0, .int p1, .int p2]) (S' := [.int (-1 : Int32)]) (h' := hpS s7) rfl ?_
        exact Ex.rt hq rfl rfl ⟨(-1 : Int32), s7, rfl, rfl, k⟩
    · have k := k.2 c
      refine Ex.seg hq 1 (j := 9) (L' := [.ref 0, .int p0, .int p1, .int p2]) (S' := [.int (-1 : Int32)]) (h' := hpS s3) rfl ?_
      exact Ex.rt hq rfl rfl ⟨(-1 : Int32), s3, rfl, rfl, k⟩
def w_133_24 : Nat → Int32 → Int32 → Int32 → Int32 → ST → (Int32 → ST → Prop) → (Int32 → ST → Prop) → (Int32 → ST → Prop) → Prop
  | 0, _, _, _, _, _, _, _, _ => False
  | n + 1, x1, x2, x4, x5, s, X57, X41, K => (((s.1 801) ≤ x5 → X57 x4 s) ∧ (¬ ((s.1 801) ≤ x5) → w_123 x5 s (fun r12 s11 => w_9 r12 (3 : Int32) s11 (fun r14 s13 => ((r14 ≤ x2 → w_119 r12 s13 (fun r16 s15 => w_17 r12 x1 s15 (fun r18 s17 => w_133_24 n x1 x2 (x4 + (r16 * r18)) (x5 + (1 : Int32)) s17 X57 X41 K))) ∧ (¬ (r14 ≤ x2) → X41 x4 s13))))))
theorem q_133_24 {d : Nat} {X57 : Int32 → ST → Prop} {X41 : Int32 → ST → Prop} {K : Int32 → ST → Prop} : ∀ (n : Nat) (x1 : Int32) (x2 : Int32) (x4 : Int32) (x5 : Int32) (s : ST), w_133_24 n x1 x2 x4 x5 s X57 X41 K → (∀ (y4 : Int32) (s : ST), X57 y4 s → Ex sc (d + 5) 133 57 [pu, pu, pu, pu, .int y4, pu, pu] [] (hpS s) (kI K)) → (∀ (y4 : Int32) (s : ST), X41 y4 s → Ex sc (d + 5) 133 41 [pu, pu, pu, pu, .int y4, pu, pu] [] (hpS s) (kI K)) → Ex sc (d + 5) 133 24 [.ref 0, .int x1, .int x2, pu, .int x4, .int x5, pu] [] (hpS s) (kI K) := by
  have hq : prog[133]? = some pm133 := rfl
  intro n
  induction n with
  | zero =>
    intro x1 x2 x4 x5 s k
    exact k.elim
  | succ n ih =>
    intro x1 x2 x4 x5 s k hX57 hX41
    rw [w_133_24] at k
    refine Ex.seg hq 4 (j := 28) (L' := [.ref 0, .int x1, .int x2, pu, .int x4, .int x5, pu]) (S' := [.int (s.1 801), .int x5]) (h' := hpS s) rfl ?_
    refine Ex.i2 hq rfl (fun c => ?_) (fun c => ?_)
    · have k := k.1 c
      refine Ex.fg (L := [pu, pu, pu, pu, .int x4, pu, pu]) ⟨Or.inr ⟨rfl, rfl⟩, ⟨Or.inr ⟨rfl, rfl⟩, ⟨Or.inr ⟨rfl, rfl⟩, ⟨Or.inl rfl, ⟨Or.inl rfl, ⟨Or.inr ⟨rfl, rfl⟩, ⟨Or.inl rfl, trivial⟩⟩⟩⟩⟩⟩⟩ ?_
      exact hX57 x4 s k
    · have k := k.2 c
      refine Ex.seg hq 3 (j := 32) (L' := [.ref 0, .int x1, .int x2, pu, .int x4, .int x5, pu]) (S' := [.int x5, .ref 8]) (h' := hpS s) rfl ?_
      refine Ex.cl hq rfl rfl ?_
      refine Rn.mono (q_123 (d := d + 4) x5 s k) ?_
      rintro _ _ ⟨r12, s11, rfl, rfl, k⟩
      show Ex sc (d + 5) 133 33 [.ref 0, .int x1, .int x2, pu, .int x4, .int x5, pu] [.int r12] (hpS s11) _
      refine Ex.seg hq 5 (j := 38) (L' := [.ref 0, .int x1, .int x2, pu, .int x4, .int x5, .int r12]) (S' := [.int (3 : Int32), .int r12, .ref 1]) (h' := hpS s11) rfl ?_
      refine Ex.cl hq rfl rfl ?_
      refine Rn.mono (q_9 (d := d + 4) r12 (3 : Int32) s11 k) ?_
      rintro _ _ ⟨r14, s13, rfl, rfl, k⟩
      show Ex sc (d + 5) 133 39 [.ref 0, .int x1, .int x2, pu, .int x4, .int x5, .int r12] [.int r14] (hpS s13) _
      refine Ex.seg hq 1 (j := 40) (L' := [.ref 0, .int x1, .int x2, pu, .int x4, .int x5, .int r12]) (S' := [.int x2, .int r14]) (h' := hpS s13) rfl ?_
      refine Ex.i2 hq rfl (fun c => ?_) (fun c => ?_)
      · have k := k.1 c
        refine Ex.seg hq 4 (j := 46) (L' := [.ref 0, .int x1, .int x2, pu, .int x4, .int x5, .int r12]) (S' := [.int r12, .ref 8, .int x4]) (h' := hpS s13) rfl ?_
        refine Ex.cl hq rfl rfl ?_
        refine Rn.mono (q_119 (d := d + 4) r12 s13 k) ?_
        rintro _ _ ⟨r16, s15, rfl, rfl, k⟩
        show Ex sc (d + 5) 133 47 [.ref 0, .int x1, .int x2, pu, .int x4, .int x5, .int r12] [.int r16, .int x4] (hpS s15) _
        refine Ex.seg hq 4 (j := 51) (L' := [.ref 0, .int x1, .int x2, pu, .int x4, .int x5, .int r12]) (S' := [.int x1, .int r12, .ref 1, .int r16, .int x4]) (h' := hpS s15) rfl ?_
        refine Ex.cl hq rfl rfl ?_
        refine Rn.mono (q_17 (d := d + 2) r12 x1 s15 k) ?_
        rintro _ _ ⟨r18, s17, rfl, rfl, k⟩
        show Ex sc (d + 5) 133 52 [.ref 0, .int x1, .int x2, pu, .int x4, .int x5, .int r12] [.int r18, .int r16, .int x4] (hpS s17) _
        refine Ex.seg hq 5 (j := 24) (L' := [.ref 0, .int x1, .int x2, pu, .int (x4 + (r16 * r18)), .int (x5 + (1 : Int32)), .int r12]) (S' := []) (h' := hpS s17) rfl ?_
        refine Ex.fg (L := [.ref 0, .int x1, .int x2, pu, .int (x4 + (r16 * r18)), .int (x5 + (1 : Int32)), pu]) ⟨Or.inl rfl, ⟨Or.inl rfl, ⟨Or.inl rfl, ⟨Or.inl rfl, ⟨Or.inl rfl, ⟨Or.inl rfl, ⟨Or.inr ⟨rfl, rfl⟩, trivial⟩⟩⟩⟩⟩⟩⟩ ?_
        exact ih x1 x2 (x4 + (r16 * r18)) (x5 + (1 : Int32)) s17 k hX57 hX41
      · have k := k.2 c
        refine Ex.fg (L := [pu, pu, pu, pu, .int x4, pu, pu]) ⟨Or.inr ⟨rfl, rfl⟩, ⟨Or.inr ⟨rfl, rfl⟩, ⟨Or.inr ⟨rfl, rfl⟩, ⟨Or.inl rfl, ⟨Or.inl rfl, ⟨Or.inr ⟨rfl, rfl⟩, ⟨Or.inr ⟨rfl, rfl⟩, trivial⟩⟩⟩⟩⟩⟩⟩ ?_
        exact hX41 x4 s13 k
/-- RowAuditor.holds(III)I -/
def w_133 (p0 : Int32) (p1 : Int32) (p2 : Int32) (s : ST) (K : Int32 → ST → Prop) : Prop := w_1 p0 s (fun r2 s1 => ((r2 = 0 → K (-1000000000 : Int32) s1) ∧ (¬ (r2 = 0) → w_182 p1 s1 (fun r4 s3 => ((r4 = 0 → K (-1000000000 : Int32) s3) ∧ (¬ (r4 = 0) → w_182 p2 s3 (fun r6 s5 => ((¬ r6 = 0 → w_111 p2 s5 (fun s7 => w_4 p0 s7 (fun r10 s9 => (∃ m, w_133_24 m p0 p1 r10 (0 : Int32) s9 (fun y4 s19 => K y4 s19) (fun y4 s20 => K y4 s20) K)))) ∧ (¬ (¬ r6 = 0) → K (-1000000000 : Int32) s5)))))))))
theorem q_133 {d : Nat} {K : Int32 → ST → Prop} (p0 : Int32) (p1 : Int32) (p2 : Int32) (s : ST) (k : w_133 p0 p1 p2 s K) : Rn sc (d + 5) 133 [.ref 0, .int p0, .int p1, .int p2] (hpS s) (kI K) := by
  have hq : prog[133]? = some pm133 := rfl
  refine Rn.of (L := [.ref 0, .int p0, .int p1, .int p2, pu, pu, pu]) hq rfl rfl ?_
  unfold w_133 at k
  refine Ex.seg hq 3 (j := 3) (L' := [.ref 0, .int p0, .int p1, .int p2, pu, pu, pu]) (S' := [.int p0, .ref 1]) (h' := hpS s) rfl ?_
  refine Ex.cl hq rfl rfl ?_
  refine Rn.mono (q_1 (d := d + 4) p0 s k) ?_
  rintro _ _ ⟨r2, s1, rfl, hzr2, rfl, k⟩
  show Ex sc (d + 5) 133 4 [.ref 0, .int p0, .int p1, .int p2, pu, pu, pu] [.int r2] (hpS s1) _
  refine Ex.i1 hq rfl (fun c => ?_) (fun c => ?_)
  · have k := k.1 c
    refine Ex.seg hq 1 (j := 12) (L' := [.ref 0, .int p0, .int p1, .int p2, pu, pu, pu]) (S' := [.int (-1000000000 : Int32)]) (h' := hpS s1) rfl ?_
    exact Ex.rt hq rfl rfl ⟨(-1000000000 : Int32), s1, rfl, rfl, k⟩
  · have k := k.2 c
    refine Ex.seg hq 1 (j := 6) (L' := [.ref 0, .int p0, .int p1, .int p2, pu, pu, pu]) (S' := [.int p1]) (h' := hpS s1) rfl ?_
    refine Ex.cl hq rfl rfl ?_
    refine Rn.mono (q_182 (d := d + 3) p1 s1 k) ?_
    rintro _ _ ⟨r4, s3, rfl, hzr4, rfl, k⟩
    show Ex sc (d + 5) 133 7 [.ref 0, .int p0, .int p1, .int p2, pu, pu, pu] [.int r4] (hpS s3) _
    refine Ex.i1 hq rfl (fun c => ?_) (fun c => ?_)
    · have k := k.1 c
      refine Ex.seg hq 1 (j := 12) (L' := [.ref 0, .int p0, .int p1, .int p2, pu, pu, pu]) (S' := [.int (-1000000000 : Int32)]) (h' := hpS s3) rfl ?_
      exact Ex.rt hq rfl rfl ⟨(-1000000000 : Int32), s3, rfl, rfl, k⟩
    · have k := k.2 c
      refine Ex.seg hq 1 (j := 9) (L' := [.ref 0, .int p0, .int p1, .int p2, pu, pu, pu]) (S' := [.int p2]) (h' := hpS s3) rfl ?_
      refine Ex.cl hq rfl rfl ?_
      refine Rn.mono (q_182 (d := d + 3) p2 s3 k) ?_
      rintro _ _ ⟨r6, s5, rfl, hzr6, rfl, k⟩
      show Ex sc (d + 5) 133 10 [.ref 0, .int p0, .int p1, .int p2, pu, pu, pu] [.int r6] (hpS s5) _
      refine Ex.i1 hq rfl (fun c => ?_) (fun c => ?_)
      · have k := k.1 c
        refine Ex.seg hq 3 (j := 16) (L' := [.ref 0, .int p0, .int p1, .int p2, pu, pu, pu]) (S' := [.int p2, .ref 8]) (h' := hpS s5) rfl ?_
        refine Ex.cl hq rfl rfl ?_
        refine Rn.mono (q_111 (d := d + 0) p2 s5 k) ?_
        rintro _ _ ⟨s7, rfl, rfl, k⟩
        show Ex sc (d + 5) 133 17 [.ref 0, .int p0, .int p1, .int p2, pu, pu, pu] [] (hpS s7) _
        refine Ex.seg hq 3 (j := 20) (L' := [.ref 0, .int p0, .int p1, .int p2, pu, pu, pu]) (S' := [.int p0, .ref 1]) (h' := hpS s7) rfl ?_
        refine Ex.cl hq rfl rfl ?_
        refine Rn.mono (q_4 (d := d + 4) p0 s7 k) ?_
        rintro _ _ ⟨r10, s9, rfl, rfl, k⟩
        show Ex sc (d + 5) 133 21 [.ref 0, .int p0, .int p1, .int p2, pu, pu, pu] [.int r10] (hpS s9) _
        refine Ex.seg hq 3 (j := 24) (L' := [.ref 0, .int p0, .int p1, .int p2, .int r10, .int (0 : Int32), pu]) (S' := []) (h' := hpS s9) rfl ?_
        obtain ⟨m, k⟩ := k
        refine Ex.fg (L := [.ref 0, .int p0, .int p1, pu, .int r10, .int (0 : Int32), pu]) ⟨Or.inl rfl, ⟨Or.inl rfl, ⟨Or.inl rfl, ⟨Or.inr ⟨rfl, rfl⟩, ⟨Or.inl rfl, ⟨Or.inl rfl, ⟨Or.inl rfl, trivial⟩⟩⟩⟩⟩⟩⟩ ?_
        refine q_133_24 (d := d) m p0 p1 r10 (0 : Int32) s9 k ?_ ?_
        · intro y4 s19 k
          refine Ex.seg hq 1 (j := 58) (L' := [pu, pu, pu, pu, .int y4, pu, pu]) (S' := [.int y4]) (h' := hpS s19) rfl ?_
          exact Ex.rt hq rfl rfl ⟨y4, s19, rfl, rfl, k⟩
        · intro y4 s20 k
          refine Ex.seg hq 2 (j := 58) (L' := [pu, pu, pu, pu, .int y4, pu, pu]) (S' := [.int y4]) (h' := hpS s20) rfl ?_
          exact Ex.rt hq rfl rfl ⟨y4, s20, rfl, rfl, k⟩
      · have k := k.2 c
        refine Ex.seg hq 1 (j := 12) (L' := [.ref 0, .int p0, .int p1, .int p2, pu, pu, pu]) (S' := [.int (-1000000000 : Int32)]) (h' := hpS s5) rfl ?_
        exact Ex.rt hq rfl rfl ⟨(-1000000000 : Int32), s5, rfl, rfl, k⟩
def w_143_25 : Nat → Int32 → Int32 → Int32 → Int32 → ST → (Int32 → Int32 → Int32 → ST → Prop) → (ST → Prop) → (Int32 → ST → Prop) → Prop
  | 0, _, _, _, _, _, _, _, _ => False
  | n + 1, x1, x2, x3, x4, s, X57, X43, K => ((x2 ≤ x4 → X57 x1 x2 x3 s) ∧ (¬ (x2 ≤ x4) → (((200 : Int32) ≤ x4 → X57 x1 x2 x3 s) ∧ (¬ ((200 : Int32) ≤ x4) → (pin x4 200 = true ∧ w_118 ((s.2.1 27) (x4).toNatClampNeg) s (fun r8 s7 => ((r8 = 0 → X43  s7) ∧ (¬ (r8 = 0) → w_144 x4 s7 (fun r10 s9 => ((r10 = 0 → (pin x4 200 = true ∧ w_119 ((s9.2.1 27) (x4).toNatClampNeg) s9 (fun r12 s11 => w_143_25 n x1 x2 (x3 + r12) (x4 + (1 : Int32)) s11 X57 X43 K))) ∧ (¬ (r10 = 0) → X43  s9)))))))))))
theorem q_143_25 {d : Nat} {X57 : Int32 → Int32 → Int32 → ST → Prop} {X43 : ST → Prop} {K : Int32 → ST → Prop} : ∀ (n : Nat) (x1 : Int32) (x2 : Int32) (x3 : Int32) (x4 : Int32) (s : ST), w_143_25 n x1 x2 x3 x4 s X57 X43 K → (∀ (y1 : Int32) (y2 : Int32) (y3 : Int32) (s : ST), X57 y1 y2 y3 s → Ex sc (d + 5) 143 57 [.ref 0, .int y1, .int y2, .int y3, pu] [] (hpS s) (kI K)) → (∀ (s : ST), X43  s → Ex sc (d + 5) 143 43 [pu, pu, pu, pu, pu] [] (hpS s) (kI K)) → Ex sc (d + 5) 143 25 [.ref 0, .int x1, .int x2, .int x3, .int x4] [] (hpS s) (kI K) := by
  have hq : prog[143]? = some pm143 := rfl
  intro n
  induction n with
  | zero =>
    intro x1 x2 x3 x4 s k
    exact k.elim
  | succ n ih =>
    intro x1 x2 x3 x4 s k hX57 hX43
    rw [w_143_25] at k
    refine Ex.seg hq 2 (j := 27) (L' := [.ref 0, .int x1, .int x2, .int x3, .int x4]) (S' := [.int x2, .int x4]) (h' := hpS s) rfl ?_
    refine Ex.i2 hq rfl (fun c => ?_) (fun c => ?_)
    · have k := k.1 c
      refine Ex.fg (L := [.ref 0, .int x1, .int x2, .int x3, pu]) ⟨Or.inl rfl, ⟨Or.inl rfl, ⟨Or.inl rfl, ⟨Or.inl rfl, ⟨Or.inr ⟨rfl, rfl⟩, trivial⟩⟩⟩⟩⟩ ?_
      exact hX57 x1 x2 x3 s k
    · have k := k.2 c
      refine Ex.seg hq 2 (j := 30) (L' := [.ref 0, .int x1, .int x2, .int x3, .int x4]) (S' := [.int (200 : Int32), .int x4]) (h' := hpS s) rfl ?_
      refine Ex.i2 hq rfl (fun c => ?_) (fun c => ?_)
      · have k := k.1 c
        refine Ex.fg (L := [.ref 0, .int x1, .int x2, .int x3, pu]) ⟨Or.inl rfl, ⟨Or.inl rfl, ⟨Or.inl rfl, ⟨Or.inl rfl, ⟨Or.inr ⟨rfl, rfl⟩, trivial⟩⟩⟩⟩⟩ ?_
        exact hX57 x1 x2 x3 s k
      · have k := k.2 c
        refine Ex.seg hq 5 (j := 36) (L' := [.ref 0, .int x1, .int x2, .int x3, .int x4]) (S' := [.int x4, .ref 27, .ref 8]) (h' := hpS s) rfl ?_
        obtain ⟨hin, k⟩ := k
        refine Ex.ial hq rfl rfl hin ?_
        refine Ex.cl hq rfl rfl ?_
        refine Rn.mono (q_118 (d := d + 4) ((s.2.1 27) (x4).toNatClampNeg) s k) ?_
        rintro _ _ ⟨r8, s7, rfl, hzr8, rfl, k⟩
        show Ex sc (d + 5) 143 38 [.ref 0, .int x1, .int x2, .int x3, .int x4] [.int r8] (hpS s7) _
        refine Ex.i1 hq rfl (fun c => ?_) (fun c => ?_)
        · have k := k.1 c
          refine Ex.fg (L := [pu, pu, pu, pu, pu]) ⟨Or.inr ⟨rfl, rfl⟩, ⟨Or.inr ⟨rfl, rfl⟩, ⟨Or.inr ⟨rfl, rfl⟩, ⟨Or.inr ⟨rfl, rfl⟩, ⟨Or.inr ⟨rfl, rfl⟩, trivial⟩⟩⟩⟩⟩ ?_
          exact hX43  s7 k
        · have k := k.2 c
          refine Ex.seg hq 2 (j := 41) (L' := [.ref 0, .int x1, .int x2, .int x3, .int x4]) (S' := [.int x4, .ref 0]) (h' := hpS s7) rfl ?_
          refine Ex.cl hq rfl rfl ?_
          refine Rn.mono (q_144 (d := d + 4) x4 s7 k) ?_
          rintro _ _ ⟨r10, s9, rfl, hzr10, rfl, k⟩
          show Ex sc (d + 5) 143 42 [.ref 0, .int x1, .int x2, .int x3, .int x4] [.int r10] (hpS s9) _
          refine Ex.i1 hq rfl (fun c => ?_) (fun c => ?_)
          · have k := k.1 c
            refine Ex.seg hq 6 (j := 51) (L' := [.ref 0, .int x1, .int x2, .int x3, .int x4]) (S' := [.int x4, .ref 27, .ref 8, .int x3]) (h' := hpS s9) rfl ?_
            obtain ⟨hin, k⟩ := k
            refine Ex.ial hq rfl rfl hin ?_
            refine Ex.cl hq rfl rfl ?_
            refine Rn.mono (q_119 (d := d + 4) ((s9.2.1 27) (x4).toNatClampNeg) s9 k) ?_
            rintro _ _ ⟨r12, s11, rfl, rfl, k⟩
            show Ex sc (d + 5) 143 53 [.ref 0, .int x1, .int x2, .int x3, .int x4] [.int r12, .int x3] (hpS s11) _
            refine Ex.seg hq 4 (j := 25) (L' := [.ref 0, .int x1, .int x2, .int (x3 + r12), .int (x4 + (1 : Int32))]) (S' := []) (h' := hpS s11) rfl ?_
            exact ih x1 x2 (x3 + r12) (x4 + (1 : Int32)) s11 k hX57 hX43
          · have k := k.2 c
            refine Ex.fg (L := [pu, pu, pu, pu, pu]) ⟨Or.inr ⟨rfl, rfl⟩, ⟨Or.inr ⟨rfl, rfl⟩, ⟨Or.inr ⟨rfl, rfl⟩, ⟨Or.inr ⟨rfl, rfl⟩, ⟨Or.inr ⟨rfl, rfl⟩, trivial⟩⟩⟩⟩⟩ ?_
            exact hX43  s9 k
/-- RowAuditor.parted(II)I -/
def w_143 (p0 : Int32) (p1 : Int32) (s : ST) (K : Int32 → ST → Prop) : Prop := w_181 p0 (0 : Int32) (12000000 : Int32) s (fun r2 s1 => ((r2 = 0 → K (-1 : Int32) s1) ∧ (¬ (r2 = 0) → w_136 p1 (12 : Int32) s1 (fun r4 s3 => ((¬ r4 = 0 → w_111 (s3.1 100) (sI s3 7 (0 : Int32)) (fun s5 => (∃ m, w_143_25 m p0 p1 (0 : Int32) (0 : Int32) s5 (fun y1 y2 y3 s13 => ((y1 ≤ y3 → w_145 (y3 - y1) y2 s13 (fun r15 s14 => K r15 s14)) ∧ (¬ (y1 ≤ y3) → K (-2 : Int32) s13))) (fun s16 => K (-3 : Int32) s16) K))) ∧ (¬ (¬ r4 = 0) → K (-1 : Int32) s3))))))
theorem q_143 {d : Nat} {K : Int32 → ST → Prop} (p0 : Int32) (p1 : Int32) (s : ST) (k : w_143 p0 p1 s K) : Rn sc (d + 5) 143 [.ref 0, .int p0, .int p1] (hpS s) (kI K) := by
  have hq : prog[143]? = some pm143 := rfl
  refine Rn.of (L := [.ref 0, .int p0, .int p1, pu, pu]) hq rfl rfl ?_
  unfold w_143 at k
  refine Ex.seg hq 3 (j := 3) (L' := [.ref 0, .int p0, .int p1, pu, pu]) (S' := [.int (12000000 : Int32), .int (0 : Int32), .int p0]) (h' := hpS s) rfl ?_
  refine Ex.cl hq rfl rfl ?_
  refine Rn.mono (q_181 (d := d + 4) p0 (0 : Int32) (12000000 : Int32) s k) ?_
  rintro _ _ ⟨r2, s1, rfl, hzr2, rfl, k⟩
  show Ex sc (d + 5) 143 4 [.ref 0, .int p0, .int p1, pu, pu] [.int r2] (hpS s1) _
  refine Ex.i1 hq rfl (fun c => ?_) (fun c => ?_)
  · have k := k.1 c
    refine Ex.seg hq 1 (j := 11) (L' := [.ref 0, .int p0, .int p1, pu, pu]) (S' := [.int (-1 : Int32)]) (h' := hpS s1) rfl ?_
    exact Ex.rt hq rfl rfl ⟨(-1 : Int32), s1, rfl, rfl, k⟩
  · have k := k.2 c
    refine Ex.seg hq 3 (j := 8) (L' := [.ref 0, .int p0, .int p1, pu, pu]) (S' := [.int (12 : Int32), .int p1, .ref 0]) (h' := hpS s1) rfl ?_
    refine Ex.cl hq rfl rfl ?_
    refine Rn.mono (q_136 (d := d + 3) p1 (12 : Int32) s1 k) ?_
    rintro _ _ ⟨r4, s3, rfl, hzr4, rfl, k⟩
    show Ex sc (d + 5) 143 9 [.ref 0, .int p0, .int p1, pu, pu] [.int r4] (hpS s3) _
    refine Ex.i1 hq rfl (fun c => ?_) (fun c => ?_)
    · have k := k.1 c
      refine Ex.seg hq 8 (j := 20) (L' := [.ref 0, .int p0, .int p1, pu, pu]) (S' := [.int (s3.1 100), .ref 8]) (h' := hpS (sI s3 7 (0 : Int32))) rfl ?_
      refine Ex.cl hq rfl rfl ?_
      refine Rn.mono (q_111 (d := d + 0) (s3.1 100) (sI s3 7 (0 : Int32)) k) ?_
      rintro _ _ ⟨s5, rfl, rfl, k⟩
      show Ex sc (d + 5) 143 21 [.ref 0, .int p0, .int p1, pu, pu] [] (hpS s5) _
      refine Ex.seg hq 4 (j := 25) (L' := [.ref 0, .int p0, .int p1, .int (0 : Int32), .int (0 : Int32)]) (S' := []) (h' := hpS s5) rfl ?_
      obtain ⟨m, k⟩ := k
      refine q_143_25 (d := d) m p0 p1 (0 : Int32) (0 : Int32) s5 k ?_ ?_
      · intro y1 y2 y3 s13 k
        refine Ex.seg hq 2 (j := 59) (L' := [.ref 0, .int y1, .int y2, .int y3, pu]) (S' := [.int y1, .int y3]) (h' := hpS s13) rfl ?_
        refine Ex.i2 hq rfl (fun c => ?_) (fun c => ?_)
        · have k := k.1 c
          refine Ex.seg hq 5 (j := 67) (L' := [.ref 0, .int y1, .int y2, .int y3, pu]) (S' := [.int y2, .int (y3 - y1), .ref 0]) (h' := hpS s13) rfl ?_
          refine Ex.cl hq rfl rfl ?_
          refine Rn.mono (q_145 (d := d + 2) (y3 - y1) y2 s13 k) ?_
          rintro _ _ ⟨r15, s14, rfl, rfl, k⟩
          show Ex sc (d + 5) 143 68 [.ref 0, .int y1, .int y2, .int y3, pu] [.int r15] (hpS s14) _
          exact Ex.rt hq rfl rfl ⟨r15, s14, rfl, rfl, k⟩
        · have k := k.2 c
          refine Ex.seg hq 2 (j := 68) (L' := [.ref 0, .int y1, .int y2, .int y3, pu]) (S' := [.int (-2 : Int32)]) (h' := hpS s13) rfl ?_
          exact Ex.rt hq rfl rfl ⟨(-2 : Int32), s13, rfl, rfl, k⟩
      · intro s16 k
        refine Ex.seg hq 1 (j := 44) (L' := [pu, pu, pu, pu, pu]) (S' := [.int (-3 : Int32)]) (h' := hpS s16) rfl ?_
        exact Ex.rt hq rfl rfl ⟨(-3 : Int32), s16, rfl, rfl, k⟩
    · have k := k.2 c
      refine Ex.seg hq 1 (j := 11) (L' := [.ref 0, .int p0, .int p1, pu, pu]) (S' := [.int (-1 : Int32)]) (h' := hpS s3) rfl ?_
      exact Ex.rt hq rfl rfl ⟨(-1 : Int32), s3, rfl, rfl, k⟩
def w_161_21 : Nat → Int32 → Int32 → Int32 → ST → (Int32 → ST → Prop) → (Int32 → ST → Prop) → Prop
  | 0, _, _, _, _, _, _ => False
  | n + 1, x2, x3, x4, s, X70, K => (((s.1 801) ≤ x4 → X70 x3 s) ∧ (¬ ((s.1 801) ≤ x4) → w_123 x4 s (fun r10 s9 => w_15 r10 s9 (fun r12 s11 => w_162 r12 (1 : Int32) s11 (fun r14 s13 => ((r14 = (-1 : Int32) → w_161_21 n x2 x3 (x4 + (1 : Int32)) s13 X70 K) ∧ (¬ (r14 = (-1 : Int32)) → (pin r14 36 = true ∧ (((((s13.2.1 28) (r14).toNatClampNeg) &&& x2) = 0 → w_161_21 n x2 x3 (x4 + (1 : Int32)) s13 X70 K) ∧ (¬ ((((s13.2.1 28) (r14).toNatClampNeg) &&& x2) = 0) → w_9 r10 (0 : Int32) s13 (fun r16 s15 => ((¬ r16 = (1 : Int32) → w_119 r10 s15 (fun r18 s17 => w_161_21 n x2 (x3 + (-r18)) (x4 + (1 : Int32)) s17 X70 K)) ∧ (¬ (¬ r16 = (1 : Int32)) → w_119 r10 s15 (fun r20 s19 => w_161_21 n x2 (x3 + r20) (x4 + (1 : Int32)) s19 X70 K))))))))))))))
theorem q_161_21 {d : Nat} {X70 : Int32 → ST → Prop} {K : Int32 → ST → Prop} : ∀ (n : Nat) (x2 : Int32) (x3 : Int32) (x4 : Int32) (s : ST), w_161_21 n x2 x3 x4 s X70 K → (∀ (y3 : Int32) (s : ST), X70 y3 s → Ex sc (d + 5) 161 70 [pu, pu, pu, .int y3, pu, pu, pu] [] (hpS s) (kI K)) → Ex sc (d + 5) 161 21 [.ref 0, pu, .int x2, .int x3, .int x4, pu, pu] [] (hpS s) (kI K) := by
  have hq : prog[161]? = some pm161 := rfl
  intro n
  induction n with
  | zero =>
    intro x2 x3 x4 s k
    exact k.elim
  | succ n ih =>
    intro x2 x3 x4 s k hX70
    rw [w_161_21] at k
    refine Ex.seg hq 4 (j := 25) (L' := [.ref 0, pu, .int x2, .int x3, .int x4, pu, pu]) (S' := [.int (s.1 801), .int x4]) (h' := hpS s) rfl ?_
    refine Ex.i2 hq rfl (fun c => ?_) (fun c => ?_)
    · have k := k.1 c
      refine Ex.fg (L := [pu, pu, pu, .int x3, pu, pu, pu]) ⟨Or.inr ⟨rfl, rfl⟩, ⟨Or.inl rfl, ⟨Or.inr ⟨rfl, rfl⟩, ⟨Or.inl rfl, ⟨Or.inr ⟨rfl, rfl⟩, ⟨Or.inl rfl, ⟨Or.inl rfl, trivial⟩⟩⟩⟩⟩⟩⟩ ?_
      exact hX70 x3 s k
    · have k := k.2 c
      refine Ex.seg hq 3 (j := 29) (L' := [.ref 0, pu, .int x2, .int x3, .int x4, pu, pu]) (S' := [.int x4, .ref 8]) (h' := hpS s) rfl ?_
      refine Ex.cl hq rfl rfl ?_
      refine Rn.mono (q_123 (d := d + 4) x4 s k) ?_
      rintro _ _ ⟨r10, s9, rfl, rfl, k⟩
      show Ex sc (d + 5) 161 30 [.ref 0, pu, .int x2, .int x3, .int x4, pu, pu] [.int r10] (hpS s9) _
      refine Ex.seg hq 4 (j := 34) (L' := [.ref 0, pu, .int x2, .int x3, .int x4, .int r10, pu]) (S' := [.int r10, .ref 1]) (h' := hpS s9) rfl ?_
      refine Ex.cl hq rfl rfl ?_
      refine Rn.mono (q_15 (d := d + 3) r10 s9 k) ?_
      rintro _ _ ⟨r12, s11, rfl, rfl, k⟩
      show Ex sc (d + 5) 161 35 [.ref 0, pu, .int x2, .int x3, .int x4, .int r10, pu] [.int r12] (hpS s11) _
      refine Ex.seg hq 1 (j := 36) (L' := [.ref 0, pu, .int x2, .int x3, .int x4, .int r10, pu]) (S' := [.int (1 : Int32), .int r12]) (h' := hpS s11) rfl ?_
      refine Ex.cl hq rfl rfl ?_
      refine Rn.mono (q_162 (d := d + 2) r12 (1 : Int32) s11 k) ?_
      rintro _ _ ⟨r14, s13, rfl, rfl, k⟩
      show Ex sc (d + 5) 161 37 [.ref 0, pu, .int x2, .int x3, .int x4, .int r10, pu] [.int r14] (hpS s13) _
      refine Ex.seg hq 3 (j := 40) (L' := [.ref 0, pu, .int x2, .int x3, .int x4, .int r10, .int r14]) (S' := [.int (-1 : Int32), .int r14]) (h' := hpS s13) rfl ?_
      refine Ex.i2 hq rfl (fun c => ?_) (fun c => ?_)
      · have k := k.1 c
        refine Ex.seg hq 2 (j := 21) (L' := [.ref 0, pu, .int x2, .int x3, .int (x4 + (1 : Int32)), .int r10, .int r14]) (S' := []) (h' := hpS s13) rfl ?_
        refine Ex.fg (L := [.ref 0, pu, .int x2, .int x3, .int (x4 + (1 : Int32)), pu, pu]) ⟨Or.inl rfl, ⟨Or.inl rfl, ⟨Or.inl rfl, ⟨Or.inl rfl, ⟨Or.inl rfl, ⟨Or.inr ⟨rfl, rfl⟩, ⟨Or.inr ⟨rfl, rfl⟩, trivial⟩⟩⟩⟩⟩⟩⟩ ?_
        exact ih x2 x3 (x4 + (1 : Int32)) s13 k hX70
      · have k := k.2 c
        refine Ex.seg hq 3 (j := 44) (L' := [.ref 0, pu, .int x2, .int x3, .int x4, .int r10, .int r14]) (S' := [.int r14, .ref 28]) (h' := hpS s13) rfl ?_
        obtain ⟨hin, k⟩ := k
        refine Ex.ial hq rfl rfl hin ?_
        refine Ex.seg hq 2 (j := 47) (L' := [.ref 0, pu, .int x2, .int x3, .int x4, .int r10, .int r14]) (S' := [.int (((s13.2.1 28) (r14).toNatClampNeg) &&& x2)]) (h' := hpS s13) rfl ?_
        refine Ex.i1 hq rfl (fun c => ?_) (fun c => ?_)
        · have k := k.1 c
          refine Ex.seg hq 2 (j := 21) (L' := [.ref 0, pu, .int x2, .int x3, .int (x4 + (1 : Int32)), .int r10, .int r14]) (S' := []) (h' := hpS s13) rfl ?_
          refine Ex.fg (L := [.ref 0, pu, .int x2, .int x3, .int (x4 + (1 : Int32)), pu, pu]) ⟨Or.inl rfl, ⟨Or.inl rfl, ⟨Or.inl rfl, ⟨Or.inl rfl, ⟨Or.inl rfl, ⟨Or.inr ⟨rfl, rfl⟩, ⟨Or.inr ⟨rfl, rfl⟩, trivial⟩⟩⟩⟩⟩⟩⟩ ?_
          exact ih x2 x3 (x4 + (1 : Int32)) s13 k hX70
        · have k := k.2 c
          refine Ex.seg hq 5 (j := 53) (L' := [.ref 0, pu, .int x2, .int x3, .int x4, .int r10, .int r14]) (S' := [.int (0 : Int32), .int r10, .ref 1, .int x3]) (h' := hpS s13) rfl ?_
          refine Ex.cl hq rfl rfl ?_
          refine Rn.mono (q_9 (d := d + 4) r10 (0 : Int32) s13 k) ?_
          rintro _ _ ⟨r16, s15, rfl, rfl, k⟩
          show Ex sc (d + 5) 161 54 [.ref 0, pu, .int x2, .int x3, .int x4, .int r10, .int r14] [.int r16, .int x3] (hpS s15) _
          refine Ex.seg hq 1 (j := 55) (L' := [.ref 0, pu, .int x2, .int x3, .int x4, .int r10, .int r14]) (S' := [.int (1 : Int32), .int r16, .int x3]) (h' := hpS s15) rfl ?_
          refine Ex.i2 hq rfl (fun c => ?_) (fun c => ?_)
          · have k := k.1 c
            refine Ex.seg hq 3 (j := 64) (L' := [.ref 0, pu, .int x2, .int x3, .int x4, .int r10, .int r14]) (S' := [.int r10, .ref 8, .int x3]) (h' := hpS s15) rfl ?_
            refine Ex.cl hq rfl rfl ?_
            refine Rn.mono (q_119 (d := d + 4) r10 s15 k) ?_
            rintro _ _ ⟨r18, s17, rfl, rfl, k⟩
            show Ex sc (d + 5) 161 65 [.ref 0, pu, .int x2, .int x3, .int x4, .int r10, .int r14] [.int r18, .int x3] (hpS s17) _
            refine Ex.seg hq 5 (j := 21) (L' := [.ref 0, pu, .int x2, .int (x3 + (-r18)), .int (x4 + (1 : Int32)), .int r10, .int r14]) (S' := []) (h' := hpS s17) rfl ?_
            refine Ex.fg (L := [.ref 0, pu, .int x2, .int (x3 + (-r18)), .int (x4 + (1 : Int32)), pu, pu]) ⟨Or.inl rfl, ⟨Or.inl rfl, ⟨Or.inl rfl, ⟨Or.inl rfl, ⟨Or.inl rfl, ⟨Or.inr ⟨rfl, rfl⟩, ⟨Or.inr ⟨rfl, rfl⟩, trivial⟩⟩⟩⟩⟩⟩⟩ ?_
            exact ih x2 (x3 + (-r18)) (x4 + (1 : Int32)) s17 k hX70
          · have k := k.2 c
            refine Ex.seg hq 3 (j := 59) (L' := [.ref 0, pu, .int x2, .int x3, .int x4, .int r10, .int r14]) (S' := [.int r10, .ref 8, .int x3]) (h' := hpS s15) rfl ?_
            refine Ex.cl hq rfl rfl ?_
            refine Rn.mono (q_119 (d := d + 4) r10 s15 k) ?_
            rintro _ _ ⟨r20, s19, rfl, rfl, k⟩
            show Ex sc (d + 5) 161 60 [.ref 0, pu, .int x2, .int x3, .int x4, .int r10, .int r14] [.int r20, .int x3] (hpS s19) _
            refine Ex.seg hq 5 (j := 21) (L' := [.ref 0, pu, .int x2, .int (x3 + r20), .int (x4 + (1 : Int32)), .int r10, .int r14]) (S' := []) (h' := hpS s19) rfl ?_
            refine Ex.fg (L := [.ref 0, pu, .int x2, .int (x3 + r20), .int (x4 + (1 : Int32)), pu, pu]) ⟨Or.inl rfl, ⟨Or.inl rfl, ⟨Or.inl rfl, ⟨Or.inl rfl, ⟨Or.inl rfl, ⟨Or.inr ⟨rfl, rfl⟩, ⟨Or.inr ⟨rfl, rfl⟩, trivial⟩⟩⟩⟩⟩⟩⟩ ?_
            exact ih x2 (x3 + r20) (x4 + (1 : Int32)) s19 k hX70
/-- RowAuditor.grown(I)I -/
def w_161 (p0 : Int32) (s : ST) (K : Int32 → ST → Prop) : Prop := w_183 p0 s (fun r2 s1 => ((¬ r2 = 0 → w_162 p0 (0 : Int32) s1 (fun r4 s3 => w_163 r4 s3 (fun r6 s5 => w_111 (s5.1 100) s5 (fun s7 => (∃ m, w_161_21 m r6 (0 : Int32) (0 : Int32) s7 (fun y3 s21 => K y3 s21) K))))) ∧ (¬ (¬ r2 = 0) → K (-1000000000 : Int32) s1)))
theorem q_161 {d : Nat} {K : Int32 → ST → Prop} (p0 : Int32) (s : ST) (k : w_161 p0 s K) : Rn sc (d + 5) 161 [.ref 0, .int p0] (hpS s) (kI K) := by
  have hq : prog[161]? = some pm161 := rfl
  refine Rn.of (L := [.ref 0, .int p0, pu, pu, pu, pu, pu]) hq rfl rfl ?_
  unfold w_161 at k
  refine Ex.seg hq 1 (j := 1) (L' := [.ref 0, .int p0, pu, pu, pu, pu, pu]) (S' := [.int p0]) (h' := hpS s) rfl ?_
  refine Ex.cl hq rfl rfl ?_
  refine Rn.mono (q_183 (d := d + 3) p0 s k) ?_
  rintro _ _ ⟨r2, s1, rfl, hzr2, rfl, k⟩
  show Ex sc (d + 5) 161 2 [.ref 0, .int p0, pu, pu, pu, pu, pu] [.int r2] (hpS s1) _
  refine Ex.i1 hq rfl (fun c => ?_) (fun c => ?_)
  · have k := k.1 c
    refine Ex.seg hq 3 (j := 8) (L' := [.ref 0, .int p0, pu, pu, pu, pu, pu]) (S' := [.int (0 : Int32), .int p0, .ref 0]) (h' := hpS s1) rfl ?_
    refine Ex.cl hq rfl rfl ?_
    refine Rn.mono (q_162 (d := d + 2) p0 (0 : Int32) s1 k) ?_
    rintro _ _ ⟨r4, s3, rfl, rfl, k⟩
    show Ex sc (d + 5) 161 9 [.ref 0, .int p0, pu, pu, pu, pu, pu] [.int r4, .ref 0] (hpS s3) _
    refine Ex.cl hq rfl rfl ?_
    refine Rn.mono (q_163 (d := d + 3) r4 s3 k) ?_
    rintro _ _ ⟨r6, s5, rfl, rfl, k⟩
    show Ex sc (d + 5) 161 10 [.ref 0, .int p0, pu, pu, pu, pu, pu] [.int r6] (hpS s5) _
    refine Ex.seg hq 6 (j := 16) (L' := [.ref 0, .int p0, .int r6, pu, pu, pu, pu]) (S' := [.int (s5.1 100), .ref 8]) (h' := hpS s5) rfl ?_
    refine Ex.cl hq rfl rfl ?_
    refine Rn.mono (q_111 (d := d + 0) (s5.1 100) s5 k) ?_
    rintro _ _ ⟨s7, rfl, rfl, k⟩
    show Ex sc (d + 5) 161 17 [.ref 0, .int p0, .int r6, pu, pu, pu, pu] [] (hpS s7) _
    refine Ex.seg hq 4 (j := 21) (L' := [.ref 0, .int p0, .int r6, .int (0 : Int32), .int (0 : Int32), pu, pu]) (S' := []) (h' := hpS s7) rfl ?_
    obtain ⟨m, k⟩ := k
    refine Ex.fg (L := [.ref 0, pu, .int r6, .int (0 : Int32), .int (0 : Int32), pu, pu]) ⟨Or.inl rfl, ⟨Or.inr ⟨rfl, rfl⟩, ⟨Or.inl rfl, ⟨Or.inl rfl, ⟨Or.inl rfl, ⟨Or.inl rfl, ⟨Or.inl rfl, trivial⟩⟩⟩⟩⟩⟩⟩ ?_
    refine q_161_21 (d := d) m r6 (0 : Int32) (0 : Int32) s7 k ?_
    · intro y3 s21 k
      refine Ex.seg hq 1 (j := 71) (L' := [pu, pu, pu, .int y3, pu, pu, pu]) (S' := [.int y3]) (h' := hpS s21) rfl ?_
      exact Ex.rt hq rfl rfl ⟨y3, s21, rfl, rfl, k⟩
  · have k := k.2 c
    refine Ex.seg hq 1 (j := 4) (L' := [.ref 0, .int p0, pu, pu, pu, pu, pu]) (S' := [.int (-1000000000 : Int32)]) (h' := hpS s1) rfl ?_
    exact Ex.rt hq rfl rfl ⟨(-1000000000 : Int32), s1, rfl, rfl, k⟩
/-- RowAuditor.asked(I)I -/
def w_170 (p0 : Int32) (s : ST) (K : Int32 → ST → Prop) : Prop := w_171 p0 s (fun r2 s1 => ((¬ r2 = 0 → (pin p0 60 = true ∧ ((¬ ((s1.2.1 32) (p0).toNatClampNeg) = (-1 : Int32) → w_111 (s1.1 100) s1 (fun s3 => (pin p0 60 = true ∧ w_118 ((s3.2.1 30) (p0).toNatClampNeg) s3 (fun r6 s5 => ((r6 = 0 → K (2 : Int32) s5) ∧ (¬ (r6 = 0) → (pin p0 60 = true ∧ w_119 ((s5.2.1 30) (p0).toNatClampNeg) s5 (fun r8 s7 => (pin p0 60 = true ∧ ((¬ r8 = ((s7.2.1 32) (p0).toNatClampNeg) → K (2 : Int32) s7) ∧ (¬ (¬ r8 = ((s7.2.1 32) (p0).toNatClampNeg)) → K (3 : Int32) s7))))))))))) ∧ (¬ (¬ ((s1.2.1 32) (p0).toNatClampNeg) = (-1 : Int32)) → (pin p0 60 = true ∧ (((s1.1 100) ≤ ((s1.2.1 31) (p0).toNatClampNeg) → K (0 : Int32) s1) ∧ (¬ ((s1.1 100) ≤ ((s1.2.1 31) (p0).toNatClampNeg)) → K (1 : Int32) s1))))))) ∧ (¬ (¬ r2 = 0) → K (-1 : Int32) s1)))
theorem q_170 {d : Nat} {K : Int32 → ST → Prop} (p0 : Int32) (s : ST) (k : w_170 p0 s K) : Rn sc (d + 5) 170 [.ref 0, .int p0] (hpS s) (kI K) := by
  have hq : prog[170]? = some pm170 := rfl
  refine Rn.of (L := [.ref 0, .int p0]) hq rfl rfl ?_
  unfold w_170 at k
  refine Ex.seg hq 2 (j := 2) (L' := [.ref 0, .int p0]) (S' := [.int p0, .ref 0]) (h' := hpS s) rfl ?_
  refine Ex.cl hq rfl rfl ?_
  refine Rn.mono (q_171 (d := d + 3) p0 s k) ?_
  rintro _ _ ⟨r2, s1, rfl, hzr2, rfl, k⟩
  show Ex sc (d + 5) 170 3 [.ref 0, .int p0] [.int r2] (hpS s1) _
  refine Ex.i1 hq rfl (fun c => ?_) (fun c => ?_)
  · have k := k.1 c
    refine Ex.seg hq 3 (j := 9) (L' := [.ref 0, .int p0]) (S' := [.int p0, .ref 32]) (h' := hpS s1) rfl ?_
    obtain ⟨hin, k⟩ := k
    refine Ex.ial hq rfl rfl hin ?_
    refine Ex.seg hq 1 (j := 11) (L' := [.ref 0, .int p0]) (S' := [.int (-1 : Int32), .int ((s1.2.1 32) (p0).toNatClampNeg)]) (h' := hpS s1) rfl ?_
    refine Ex.i2 hq rfl (fun c => ?_) (fun c => ?_)
    · have k := k.1 c
      refine Ex.seg hq 5 (j := 29) (L' := [.ref 0, .int p0]) (S' := [.int (s1.1 100), .ref 8]) (h' := hpS s1) rfl ?_
      refine Ex.cl hq rfl rfl ?_
      refine Rn.mono (q_111 (d := d + 0) (s1.1 100) s1 k) ?_
      rintro _ _ ⟨s3, rfl, rfl, k⟩
      show Ex sc (d + 5) 170 30 [.ref 0, .int p0] [] (hpS s3) _
      refine Ex.seg hq 5 (j := 35) (L' := [.ref 0, .int p0]) (S' := [.int p0, .ref 30, .ref 8]) (h' := hpS s3) rfl ?_
      obtain ⟨hin, k⟩ := k
      refine Ex.ial hq rfl rfl hin ?_
      refine Ex.cl hq rfl rfl ?_
      refine Rn.mono (q_118 (d := d + 4) ((s3.2.1 30) (p0).toNatClampNeg) s3 k) ?_
      rintro _ _ ⟨r6, s5, rfl, hzr6, rfl, k⟩
      show Ex sc (d + 5) 170 37 [.ref 0, .int p0] [.int r6] (hpS s5) _
      refine Ex.i1 hq rfl (fun c => ?_) (fun c => ?_)
      · have k := k.1 c
        refine Ex.seg hq 1 (j := 53) (L' := [.ref 0, .int p0]) (S' := [.int (2 : Int32)]) (h' := hpS s5) rfl ?_
        exact Ex.rt hq rfl rfl ⟨(2 : Int32), s5, rfl, rfl, k⟩
      · have k := k.2 c
        refine Ex.seg hq 5 (j := 43) (L' := [.ref 0, .int p0]) (S' := [.int p0, .ref 30, .ref 8]) (h' := hpS s5) rfl ?_
        obtain ⟨hin, k⟩ := k
        refine Ex.ial hq rfl rfl hin ?_
        refine Ex.cl hq rfl rfl ?_
        refine Rn.mono (q_119 (d := d + 4) ((s5.2.1 30) (p0).toNatClampNeg) s5 k) ?_
        rintro _ _ ⟨r8, s7, rfl, rfl, k⟩
        show Ex sc (d + 5) 170 45 [.ref 0, .int p0] [.int r8] (hpS s7) _
        refine Ex.seg hq 3 (j := 48) (L' := [.ref 0, .int p0]) (S' := [.int p0, .ref 32, .int r8]) (h' := hpS s7) rfl ?_
        obtain ⟨hin, k⟩ := k
        refine Ex.ial hq rfl rfl hin ?_
        refine Ex.i2 hq rfl (fun c => ?_) (fun c => ?_)
        · have k := k.1 c
          refine Ex.seg hq 1 (j := 53) (L' := [.ref 0, .int p0]) (S' := [.int (2 : Int32)]) (h' := hpS s7) rfl ?_
          exact Ex.rt hq rfl rfl ⟨(2 : Int32), s7, rfl, rfl, k⟩
        · have k := k.2 c
          refine Ex.seg hq 2 (j := 53) (L' := [.ref 0, .int p0]) (S' := [.int (3 : Int32)]) (h' := hpS s7) rfl ?_
          exact Ex.rt hq rfl rfl ⟨(3 : Int32), s7, rfl, rfl, k⟩
    · have k := k.2 c
      refine Ex.seg hq 3 (j := 15) (L' := [.ref 0, .int p0]) (S' := [.int p0, .ref 31]) (h' := hpS s1) rfl ?_
      obtain ⟨hin, k⟩ := k
      refine Ex.ial hq rfl rfl hin ?_
      refine Ex.seg hq 3 (j := 19) (L' := [.ref 0, .int p0]) (S' := [.int (s1.1 100), .int ((s1.2.1 31) (p0).toNatClampNeg)]) (h' := hpS s1) rfl ?_
      refine Ex.i2 hq rfl (fun c => ?_) (fun c => ?_)
      · have k := k.1 c
        refine Ex.seg hq 1 (j := 23) (L' := [.ref 0, .int p0]) (S' := [.int (0 : Int32)]) (h' := hpS s1) rfl ?_
        exact Ex.rt hq rfl rfl ⟨(0 : Int32), s1, rfl, rfl, k⟩
      · have k := k.2 c
        refine Ex.seg hq 2 (j := 23) (L' := [.ref 0, .int p0]) (S' := [.int (1 : Int32)]) (h' := hpS s1) rfl ?_
        exact Ex.rt hq rfl rfl ⟨(1 : Int32), s1, rfl, rfl, k⟩
  · have k := k.2 c
    refine Ex.seg hq 1 (j := 5) (L' := [.ref 0, .int p0]) (S' := [.int (-1 : Int32)]) (h' := hpS s1) rfl ?_
    exact Ex.rt hq rfl rfl ⟨(-1 : Int32), s1, rfl, rfl, k⟩
def w_30_2 : Nat → Int32 → Int32 → ST → (ST → Prop) → (Int32 → ST → Prop) → (Int32 → ST → Prop) → Prop
  | 0, _, _, _, _, _, _ => False
  | n + 1, x1, x2, s, X24, X20, K => (((s.1 102) ≤ x2 → X24  s) ∧ (¬ ((s.1 102) ≤ x2) → w_118 x2 s (fun r2 s1 => ((r2 = 0 → w_30_2 n x1 (x2 + (1 : Int32)) s1 X24 X20 K) ∧ (¬ (r2 = 0) → w_120 x2 s1 (fun r4 s3 => w_32 r4 x1 s3 (fun r6 s5 => ((r6 = 0 → w_30_2 n x1 (x2 + (1 : Int32)) s5 X24 X20 K) ∧ (¬ (r6 = 0) → X20 x2 s5)))))))))
theorem q_30_2 {d : Nat} {X24 : ST → Prop} {X20 : Int32 → ST → Prop} {K : Int32 → ST → Prop} : ∀ (n : Nat) (x1 : Int32) (x2 : Int32) (s : ST), w_30_2 n x1 x2 s X24 X20 K → (∀ (s : ST), X24  s → Ex sc (d + 4) 30 24 [pu, pu, pu] [] (hpS s) (kI K)) → (∀ (y2 : Int32) (s : ST), X20 y2 s → Ex sc (d + 4) 30 20 [pu, pu, .int y2] [] (hpS s) (kI K)) → Ex sc (d + 4) 30 2 [.ref 50, .int x1, .int x2] [] (hpS s) (kI K) := by
  have hq : prog[30]? = some pm30 := rfl
  intro n
  induction n with
  | zero =>
    intro x1 x2 s k
    exact k.elim
  | succ n ih =>
    intro x1 x2 s k hX24 hX20
    rw [w_30_2] at k
    refine Ex.seg hq 4 (j := 6) (L' := [.ref 50, .int x1, .int x2]) (S' := [.int (s.1 102), .int x2]) (h' := hpS s) rfl ?_
    refine Ex.i2 hq rfl (fun c => ?_) (fun c => ?_)
    · have k := k.1 c
      refine Ex.fg (L := [pu, pu, pu]) ⟨Or.inr ⟨rfl, rfl⟩, ⟨Or.inr ⟨rfl, rfl⟩, ⟨Or.inr ⟨rfl, rfl⟩, trivial⟩⟩⟩ ?_
      exact hX24  s k
    · have k := k.2 c
      refine Ex.seg hq 3 (j := 10) (L' := [.ref 50, .int x1, .int x2]) (S' := [.int x2, .ref 8]) (h' := hpS s) rfl ?_
      refine Ex.cl hq rfl rfl ?_
      refine Rn.mono (q_118 (d := d + 3) x2 s k) ?_
      rintro _ _ ⟨r2, s1, rfl, hzr2, rfl, k⟩
      show Ex sc (d + 4) 30 11 [.ref 50, .int x1, .int x2] [.int r2] (hpS s1) _
      refine Ex.i1 hq rfl (fun c => ?_) (fun c => ?_)
      · have k := k.1 c
        refine Ex.seg hq 2 (j := 2) (L' := [.ref 50, .int x1, .int (x2 + (1 : Int32))]) (S' := []) (h' := hpS s1) rfl ?_
        exact ih x1 (x2 + (1 : Int32)) s1 k hX24 hX20
      · have k := k.2 c
        refine Ex.seg hq 4 (j := 16) (L' := [.ref 50, .int x1, .int x2]) (S' := [.int x2, .ref 8, .ref 50]) (h' := hpS s1) rfl ?_
        refine Ex.cl hq rfl rfl ?_
        refine Rn.mono (q_120 (d := d + 3) x2 s1 k) ?_
        rintro _ _ ⟨r4, s3, rfl, rfl, k⟩
        show Ex sc (d + 4) 30 17 [.ref 50, .int x1, .int x2] [.int r4, .ref 50] (hpS s3) _
        refine Ex.seg hq 1 (j := 18) (L' := [.ref 50, .int x1, .int x2]) (S' := [.int x1, .int r4, .ref 50]) (h' := hpS s3) rfl ?_
        refine Ex.cl hq rfl rfl ?_
        refine Rn.mono (q_32 (d := d + 0) r4 x1 s3 k) ?_
        rintro _ _ ⟨r6, s5, rfl, hzr6, rfl, k⟩
        show Ex sc (d + 4) 30 19 [.ref 50, .int x1, .int x2] [.int r6] (hpS s5) _
        refine Ex.i1 hq rfl (fun c => ?_) (fun c => ?_)
        · have k := k.1 c
          refine Ex.seg hq 2 (j := 2) (L' := [.ref 50, .int x1, .int (x2 + (1 : Int32))]) (S' := []) (h' := hpS s5) rfl ?_
          exact ih x1 (x2 + (1 : Int32)) s5 k hX24 hX20
        · have k := k.2 c
          refine Ex.fg (L := [pu, pu, .int x2]) ⟨Or.inr ⟨rfl, rfl⟩, ⟨Or.inr ⟨rfl, rfl⟩, ⟨Or.inl rfl, trivial⟩⟩⟩ ?_
          exact hX20 x2 s5 k
/-- RowAuditor$Fitter.leastFirst(I)I -/
def w_30 (p0 : Int32) (s : ST) (K : Int32 → ST → Prop) : Prop := (∃ m, w_30_2 m p0 (0 : Int32) s (fun s7 => K (-1 : Int32) s7) (fun y2 s8 => K y2 s8) K)
theorem q_30 {d : Nat} {K : Int32 → ST → Prop} (p0 : Int32) (s : ST) (k : w_30 p0 s K) : Rn sc (d + 4) 30 [.ref 50, .int p0] (hpS s) (kI K) := by
  have hq : prog[30]? = some pm30 := rfl
  refine Rn.of (L := [.ref 50, .int p0, pu]) hq rfl rfl ?_
  unfold w_30 at k
  refine Ex.seg hq 2 (j := 2) (L' := [.ref 50, .int p0, .int (0 : Int32)]) (S' := []) (h' := hpS s) rfl ?_
  obtain ⟨m, k⟩ := k
  refine q_30_2 (d := d) m p0 (0 : Int32) s k ?_ ?_
  · intro s7 k
    refine Ex.seg hq 1 (j := 25) (L' := [pu, pu, pu]) (S' := [.int (-1 : Int32)]) (h' := hpS s7) rfl ?_
    exact Ex.rt hq rfl rfl ⟨(-1 : Int32), s7, rfl, rfl, k⟩
  · intro y2 s8 k
    refine Ex.seg hq 1 (j := 21) (L' := [pu, pu, .int y2]) (S' := [.int y2]) (h' := hpS s8) rfl ?_
    exact Ex.rt hq rfl rfl ⟨y2, s8, rfl, rfl, k⟩
def w_97_4 : Nat → Int32 → Int32 → Int32 → Int32 → ST → (Int32 → ST → Prop) → (Int32 → ST → Prop) → Prop
  | 0, _, _, _, _, _, _, _ => False
  | n + 1, x1, x2, x3, x4, s, X31, K => (((s.1 801) ≤ x4 → X31 x3 s) ∧ (¬ ((s.1 801) ≤ x4) → (((100000 : Int32) ≤ x3 → X31 x3 s) ∧ (¬ ((100000 : Int32) ≤ x3) → w_123 x4 s (fun r2 s1 => w_98 r2 s1 (fun r4 s3 => ((r4 = 0 → w_97_4 n x1 x2 x3 (x4 + (1 : Int32)) s3 X31 K) ∧ (¬ (r4 = 0) → w_99 x4 x1 x2 s3 (fun r6 s5 => w_97_4 n x1 x2 (if (x3 + r6) < (100000 : Int32) then (x3 + r6) else (100000 : Int32)) (x4 + (1 : Int32)) s5 X31 K)))))))))
theorem q_97_4 {d : Nat} {X31 : Int32 → ST → Prop} {K : Int32 → ST → Prop} : ∀ (n : Nat) (x1 : Int32) (x2 : Int32) (x3 : Int32) (x4 : Int32) (s : ST), w_97_4 n x1 x2 x3 x4 s X31 K → (∀ (y3 : Int32) (s : ST), X31 y3 s → Ex sc (d + 4) 97 31 [pu, pu, pu, .int y3, pu] [] (hpS s) (kI K)) → Ex sc (d + 4) 97 4 [.ref 46, .int x1, .int x2, .int x3, .int x4] [] (hpS s) (kI K) := by
  have hq : prog[97]? = some pm97 := rfl
  intro n
  induction n with
  | zero =>
    intro x1 x2 x3 x4 s k
    exact k.elim
  | succ n ih =>
    intro x1 x2 x3 x4 s k hX31
    rw [w_97_4] at k
    refine Ex.seg hq 4 (j := 8) (L' := [.ref 46, .int x1, .int x2, .int x3, .int x4]) (S' := [.int (s.1 801), .int x4]) (h' := hpS s) rfl ?_
    refine Ex.i2 hq rfl (fun c => ?_) (fun c => ?_)
    · have k := k.1 c
      refine Ex.fg (L := [pu, pu, pu, .int x3, pu]) ⟨Or.inr ⟨rfl, rfl⟩, ⟨Or.inr ⟨rfl, rfl⟩, ⟨Or.inr ⟨rfl, rfl⟩, ⟨Or.inl rfl, ⟨Or.inr ⟨rfl, rfl⟩, trivial⟩⟩⟩⟩⟩ ?_
      exact hX31 x3 s k
    · have k := k.2 c
      refine Ex.seg hq 2 (j := 11) (L' := [.ref 46, .int x1, .int x2, .int x3, .int x4]) (S' := [.int (100000 : Int32), .int x3]) (h' := hpS s) rfl ?_
      refine Ex.i2 hq rfl (fun c => ?_) (fun c => ?_)
      · have k := k.1 c
        refine Ex.fg (L := [pu, pu, pu, .int x3, pu]) ⟨Or.inr ⟨rfl, rfl⟩, ⟨Or.inr ⟨rfl, rfl⟩, ⟨Or.inr ⟨rfl, rfl⟩, ⟨Or.inl rfl, ⟨Or.inr ⟨rfl, rfl⟩, trivial⟩⟩⟩⟩⟩ ?_
        exact hX31 x3 s k
      · have k := k.2 c
        refine Ex.seg hq 4 (j := 16) (L' := [.ref 46, .int x1, .int x2, .int x3, .int x4]) (S' := [.int x4, .ref 8, .ref 46]) (h' := hpS s) rfl ?_
        refine Ex.cl hq rfl rfl ?_
        refine Rn.mono (q_123 (d := d + 3) x4 s k) ?_
        rintro _ _ ⟨r2, s1, rfl, rfl, k⟩
        show Ex sc (d + 4) 97 17 [.ref 46, .int x1, .int x2, .int x3, .int x4] [.int r2, .ref 46] (hpS s1) _
        refine Ex.cl hq rfl rfl ?_
        refine Rn.mono (q_98 (d := d + 2) r2 s1 k) ?_
        rintro _ _ ⟨r4, s3, rfl, hzr4, rfl, k⟩
        show Ex sc (d + 4) 97 18 [.ref 46, .int x1, .int x2, .int x3, .int x4] [.int r4] (hpS s3) _
        refine Ex.i1 hq rfl (fun c => ?_) (fun c => ?_)
        · have k := k.1 c
          refine Ex.seg hq 2 (j := 4) (L' := [.ref 46, .int x1, .int x2, .int x3, .int (x4 + (1 : Int32))]) (S' := []) (h' := hpS s3) rfl ?_
          exact ih x1 x2 x3 (x4 + (1 : Int32)) s3 k hX31
        · have k := k.2 c
          refine Ex.seg hq 6 (j := 25) (L' := [.ref 46, .int x1, .int x2, .int x3, .int x4]) (S' := [.int x2, .int x1, .int x4, .ref 46, .int x3, .int (100000 : Int32)]) (h' := hpS s3) rfl ?_
          refine Ex.cl hq rfl rfl ?_
          refine Rn.mono (q_99 (d := d + 0) x4 x1 x2 s3 k) ?_
          rintro _ _ ⟨r6, s5, rfl, rfl, k⟩
          show Ex sc (d + 4) 97 26 [.ref 46, .int x1, .int x2, .int x3, .int x4] [.int r6, .int x3, .int (100000 : Int32)] (hpS s5) _
          refine Ex.seg hq 5 (j := 4) (L' := [.ref 46, .int x1, .int x2, .int (if (x3 + r6) < (100000 : Int32) then (x3 + r6) else (100000 : Int32)), .int (x4 + (1 : Int32))]) (S' := []) (h' := hpS s5) rfl ?_
          exact ih x1 x2 (if (x3 + r6) < (100000 : Int32) then (x3 + r6) else (100000 : Int32)) (x4 + (1 : Int32)) s5 k hX31
/-- RowAuditor$Rounder.countRounds(II)I -/
def w_97 (p0 : Int32) (p1 : Int32) (s : ST) (K : Int32 → ST → Prop) : Prop := (∃ m, w_97_4 m p0 p1 (0 : Int32) (0 : Int32) s (fun y3 s7 => K y3 s7) K)
theorem q_97 {d : Nat} {K : Int32 → ST → Prop} (p0 : Int32) (p1 : Int32) (s : ST) (k : w_97 p0 p1 s K) : Rn sc (d + 4) 97 [.ref 46, .int p0, .int p1] (hpS s) (kI K) := by
  have hq : prog[97]? = some pm97 := rfl
  refine Rn.of (L := [.ref 46, .int p0, .int p1, pu, pu]) hq rfl rfl ?_
  unfold w_97 at k
  refine Ex.seg hq 4 (j := 4) (L' := [.ref 46, .int p0, .int p1, .int (0 : Int32), .int (0 : Int32)]) (S' := []) (h' := hpS s) rfl ?_
  obtain ⟨m, k⟩ := k
  refine q_97_4 (d := d) m p0 p1 (0 : Int32) (0 : Int32) s k ?_
  · intro y3 s7 k
    refine Ex.seg hq 1 (j := 32) (L' := [pu, pu, pu, .int y3, pu]) (S' := [.int y3]) (h' := hpS s7) rfl ?_
    exact Ex.rt hq rfl rfl ⟨y3, s7, rfl, rfl, k⟩
end WP
