/-! ===== weakest preconditions, printed by wip/whole/genwp.py ===== -/
section WP
variable {sc : Nat × (Nat → Int32)}
/-- RowAuditor.rounds(II)I -/
def w_148 (p0 : Int32) (p1 : Int32) (s : ST) (K : Int32 → ST → Prop) : Prop := w_182 p0 s (fun r2 s1 => ((r2 = 0 → K (-1 : Int32) s1) ∧ (¬ (r2 = 0) → w_181 p1 (0 : Int32) (100 : Int32) s1 (fun r4 s3 => ((¬ r4 = 0 → w_111 (s3.1 100) s3 (fun s5 => w_97 p0 p1 s5 (fun r8 s7 => K r8 s7))) ∧ (¬ (¬ r4 = 0) → K (-1 : Int32) s3))))))
theorem q_148 {d : Nat} {K : Int32 → ST → Prop} (p0 : Int32) (p1 : Int32) (s : ST) (k : w_148 p0 p1 s K) : Rn sc (d + 5) 148 [.ref 0, .int p0, .int p1] (hpS s) (kI K) := by
  have hq : prog[148]? = some pm148 := rfl
  refine Rn.of (L := [.ref 0, .int p0, .int p1]) hq rfl rfl ?_
  unfold w_148 at k
  refine Ex.seg hq 1 (j := 1) (L' := [.ref 0, .int p0, .int p1]) (S' := [.int p0]) (h' := hpS s) rfl ?_
  refine Ex.cl hq rfl rfl ?_
  refine Rn.mono (q_182 (d := d + 3) p0 s k) ?_
  rintro _ _ ⟨r2, s1, rfl, hzr2, rfl, k⟩
  show Ex sc (d + 5) 148 2 [.ref 0, .int p0, .int p1] [.int r2] (hpS s1) _
  refine Ex.i1 hq rfl (fun c => ?_) (fun c => ?_)
  · have k := k.1 c
    refine Ex.seg hq 1 (j := 9) (L' := [.ref 0, .int p0, .int p1]) (S' := [.int (-1 : Int32)]) (h' := hpS s1) rfl ?_
    exact Ex.rt hq rfl rfl ⟨(-1 : Int32), s1, rfl, rfl, k⟩
  · have k := k.2 c
    refine Ex.seg hq 3 (j := 6) (L' := [.ref 0, .int p0, .int p1]) (S' := [.int (100 : Int32), .int (0 : Int32), .int p1]) (h' := hpS s1) rfl ?_
    refine Ex.cl hq rfl rfl ?_
    refine Rn.mono (q_181 (d := d + 4) p1 (0 : Int32) (100 : Int32) s1 k) ?_
    rintro _ _ ⟨r4, s3, rfl, hzr4, rfl, k⟩
    show Ex sc (d + 5) 148 7 [.ref 0, .int p0, .int p1] [.int r4] (hpS s3) _
    refine Ex.i1 hq rfl (fun c => ?_) (fun c => ?_)
    · have k := k.1 c
      refine Ex.seg hq 5 (j := 15) (L' := [.ref 0, .int p0, .int p1]) (S' := [.int (s3.1 100), .ref 8]) (h' := hpS s3) rfl ?_
      refine Ex.cl hq rfl rfl ?_
      refine Rn.mono (q_111 (d := d + 0) (s3.1 100) s3 k) ?_
      rintro _ _ ⟨s5, rfl, rfl, k⟩
      show Ex sc (d + 5) 148 16 [.ref 0, .int p0, .int p1] [] (hpS s5) _
      refine Ex.seg hq 4 (j := 20) (L' := [.ref 0, .int p0, .int p1]) (S' := [.int p1, .int p0, .ref 46]) (h' := hpS s5) rfl ?_
      refine Ex.cl hq rfl rfl ?_
      refine Rn.mono (q_97 (d := d + 0) p0 p1 s5 k) ?_
      rintro _ _ ⟨r8, s7, rfl, rfl, k⟩
      show Ex sc (d + 5) 148 21 [.ref 0, .int p0, .int p1] [.int r8] (hpS s7) _
      exact Ex.rt hq rfl rfl ⟨r8, s7, rfl, rfl, k⟩
    · have k := k.2 c
      refine Ex.seg hq 1 (j := 9) (L' := [.ref 0, .int p0, .int p1]) (S' := [.int (-1 : Int32)]) (h' := hpS s3) rfl ?_
      exact Ex.rt hq rfl rfl ⟨(-1 : Int32), s3, rfl, rfl, k⟩
def w_29_18 : Nat → Int32 → Int32 → Int32 → Int32 → ST → (Int32 → ST → Prop) → (Int32 → ST → Prop) → Prop
  | 0, _, _, _, _, _, _, _ => False
  | n + 1, x2, x3, x4, x5, s, X42, K => ((x2 < x5 → X42 x3 s) ∧ (¬ (x2 < x5) → ((x3 = (-1 : Int32) → X42 x3 s) ∧ (¬ (x3 = (-1 : Int32)) → w_119 x3 s (fun r6 s5 => w_120 x3 s5 (fun r8 s7 => w_31 x5 r8 (x4 - r6) s7 (fun r10 s9 => w_29_18 n x2 r10 (x4 - r6) (x5 + (1 : Int32)) s9 X42 K)))))))
theorem q_29_18 {d : Nat} {X42 : Int32 → ST → Prop} {K : Int32 → ST → Prop} : ∀ (n : Nat) (x2 : Int32) (x3 : Int32) (x4 : Int32) (x5 : Int32) (s : ST), w_29_18 n x2 x3 x4 x5 s X42 K → (∀ (y3 : Int32) (s : ST), X42 y3 s → Ex sc (d + 5) 29 42 [pu, pu, pu, .int y3, pu, pu] [] (hpS s) (kI K)) → Ex sc (d + 5) 29 18 [.ref 50, pu, .int x2, .int x3, .int x4, .int x5] [] (hpS s) (kI K) := by
  have hq : prog[29]? = some pm29 := rfl
  intro n
  induction n with
  | zero =>
    intro x2 x3 x4 x5 s k
    exact k.elim
  | succ n ih =>
    intro x2 x3 x4 x5 s k hX42
    rw [w_29_18] at k
    refine Ex.seg hq 2 (j := 20) (L' := [.ref 50, pu, .int x2, .int x3, .int x4, .int x5]) (S' := [.int x2, .int x5]) (h' := hpS s) rfl ?_
    refine Ex.i2 hq rfl (fun c => ?_) (fun c => ?_)
    · have k := k.1 c
      refine Ex.fg (L := [pu, pu, pu, .int x3, pu, pu]) ⟨Or.inr ⟨rfl, rfl⟩, ⟨Or.inl rfl, ⟨Or.inr ⟨rfl, rfl⟩, ⟨Or.inl rfl, ⟨Or.inr ⟨rfl, rfl⟩, ⟨Or.inr ⟨rfl, rfl⟩, trivial⟩⟩⟩⟩⟩⟩ ?_
      exact hX42 x3 s k
    · have k := k.2 c
      refine Ex.seg hq 2 (j := 23) (L' := [.ref 50, pu, .int x2, .int x3, .int x4, .int x5]) (S' := [.int (-1 : Int32), .int x3]) (h' := hpS s) rfl ?_
      refine Ex.i2 hq rfl (fun c => ?_) (fun c => ?_)
      · have k := k.1 c
        refine Ex.fg (L := [pu, pu, pu, .int x3, pu, pu]) ⟨Or.inr ⟨rfl, rfl⟩, ⟨Or.inl rfl, ⟨Or.inr ⟨rfl, rfl⟩, ⟨Or.inl rfl, ⟨Or.inr ⟨rfl, rfl⟩, ⟨Or.inr ⟨rfl, rfl⟩, trivial⟩⟩⟩⟩⟩⟩ ?_
        exact hX42 x3 s k
      · have k := k.2 c
        refine Ex.seg hq 4 (j := 28) (L' := [.ref 50, pu, .int x2, .int x3, .int x4, .int x5]) (S' := [.int x3, .ref 8, .int x4]) (h' := hpS s) rfl ?_
        refine Ex.cl hq rfl rfl ?_
        refine Rn.mono (q_119 (d := d + 4) x3 s k) ?_
        rintro _ _ ⟨r6, s5, rfl, rfl, k⟩
        show Ex sc (d + 5) 29 29 [.ref 50, pu, .int x2, .int x3, .int x4, .int x5] [.int r6, .int x4] (hpS s5) _
        refine Ex.seg hq 7 (j := 36) (L' := [.ref 50, pu, .int x2, .int x3, .int (x4 - r6), .int x5]) (S' := [.int x3, .ref 8, .int x5, .ref 50]) (h' := hpS s5) rfl ?_
        refine Ex.cl hq rfl rfl ?_
        refine Rn.mono (q_120 (d := d + 4) x3 s5 k) ?_
        rintro _ _ ⟨r8, s7, rfl, rfl, k⟩
        show Ex sc (d + 5) 29 37 [.ref 50, pu, .int x2, .int x3, .int (x4 - r6), .int x5] [.int r8, .int x5, .ref 50] (hpS s7) _
        refine Ex.seg hq 1 (j := 38) (L' := [.ref 50, pu, .int x2, .int x3, .int (x4 - r6), .int x5]) (S' := [.int (x4 - r6), .int r8, .int x5, .ref 50]) (h' := hpS s7) rfl ?_
        refine Ex.cl hq rfl rfl ?_
        refine Rn.mono (q_31 (d := d + 1) x5 r8 (x4 - r6) s7 k) ?_
        rintro _ _ ⟨r10, s9, rfl, rfl, k⟩
        show Ex sc (d + 5) 29 39 [.ref 50, pu, .int x2, .int x3, .int (x4 - r6), .int x5] [.int r10] (hpS s9) _
        refine Ex.seg hq 3 (j := 18) (L' := [.ref 50, pu, .int x2, .int r10, .int (x4 - r6), .int (x5 + (1 : Int32))]) (S' := []) (h' := hpS s9) rfl ?_
        exact ih x2 r10 (x4 - r6) (x5 + (1 : Int32)) s9 k hX42
/-- RowAuditor$Fitter.firstFitting(II)I -/
def w_29 (p0 : Int32) (p1 : Int32) (s : ST) (K : Int32 → ST → Prop) : Prop := w_181 p1 (0 : Int32) ((s.1 5007) - (1 : Int32)) s (fun r2 s1 => ((¬ r2 = 0 → w_30 p0 s1 (fun r4 s3 => (∃ m, w_29_18 m p1 r4 p0 (1 : Int32) s3 (fun y3 s11 => K y3 s11) K))) ∧ (¬ (¬ r2 = 0) → K (-1 : Int32) s1)))
theorem q_29 {d : Nat} {K : Int32 → ST → Prop} (p0 : Int32) (p1 : Int32) (s : ST) (k : w_29 p0 p1 s K) : Rn sc (d + 5) 29 [.ref 50, .int p0, .int p1] (hpS s) (kI K) := by
  have hq : prog[29]? = some pm29 := rfl
  refine Rn.of (L := [.ref 50, .int p0, .int p1, pu, pu, pu]) hq rfl rfl ?_
  unfold w_29 at k
  refine Ex.seg hq 6 (j := 6) (L' := [.ref 50, .int p0, .int p1, pu, pu, pu]) (S' := [.int ((s.1 5007) - (1 : Int32)), .int (0 : Int32), .int p1]) (h' := hpS s) rfl ?_
  refine Ex.cl hq rfl rfl ?_
  refine Rn.mono (q_181 (d := d + 4) p1 (0 : Int32) ((s.1 5007) - (1 : Int32)) s k) ?_
  rintro _ _ ⟨r2, s1, rfl, hzr2, rfl, k⟩
  show Ex sc (d + 5) 29 7 [.ref 50, .int p0, .int p1, pu, pu, pu] [.int r2] (hpS s1) _
  refine Ex.i1 hq rfl (fun c => ?_) (fun c => ?_)
  · have k := k.1 c
    refine Ex.seg hq 2 (j := 12) (L' := [.ref 50, .int p0, .int p1, pu, pu, pu]) (S' := [.int p0, .ref 50]) (h' := hpS s1) rfl ?_
    refine Ex.cl hq rfl rfl ?_
    refine Rn.mono (q_30 (d := d + 0) p0 s1 k) ?_
    rintro _ _ ⟨r4, s3, rfl, rfl, k⟩
    show Ex sc (d + 5) 29 13 [.ref 50, .int p0, .int p1, pu, pu, pu] [.int r4] (hpS s3) _
    refine Ex.seg hq 5 (j := 18) (L' := [.ref 50, .int p0, .int p1, .int r4, .int p0, .int (1 : Int32)]) (S' := []) (h' := hpS s3) rfl ?_
    obtain ⟨m, k⟩ := k
    refine Ex.fg (L := [.ref 50, pu, .int p1, .int r4, .int p0, .int (1 : Int32)]) ⟨Or.inl rfl, ⟨Or.inr ⟨rfl, rfl⟩, ⟨Or.inl rfl, ⟨Or.inl rfl, ⟨Or.inl rfl, ⟨Or.inl rfl, trivial⟩⟩⟩⟩⟩⟩ ?_
    refine q_29_18 (d := d) m p1 r4 p0 (1 : Int32) s3 k ?_
    · intro y3 s11 k
      refine Ex.seg hq 1 (j := 43) (L' := [pu, pu, pu, .int y3, pu, pu]) (S' := [.int y3]) (h' := hpS s11) rfl ?_
      exact Ex.rt hq rfl rfl ⟨y3, s11, rfl, rfl, k⟩
  · have k := k.2 c
    refine Ex.seg hq 1 (j := 9) (L' := [.ref 50, .int p0, .int p1, pu, pu, pu]) (S' := [.int (-1 : Int32)]) (h' := hpS s1) rfl ?_
    exact Ex.rt hq rfl rfl ⟨(-1 : Int32), s1, rfl, rfl, k⟩
end WP
