/-! ===== weakest preconditions, printed by wip/whole/genwp.py ===== -/
section WP
variable {sc : Nat × (Nat → Int32)}
def w_77_13 : Nat → Int32 → Int32 → ST → (Int32 → ST → Prop) → (Int32 → ST → Prop) → Prop
  | 0, _, _, _, _, _ => False
  | n + 1, x1, x2, s, X37, K => (((7 : Int32) ≤ x2 → X37 x1 s) ∧ (¬ ((7 : Int32) ≤ x2) → w_81 s (fun r6 s5 => w_79 r6 s5 (fun r8 s7 => ((r8 = 0 → X37 x1 s7) ∧ (¬ (r8 = 0) → w_81 s7 (fun r10 s9 => w_77_13 n ((((10 : Int32) * x1) + r10) - (48 : Int32)) (x2 + (1 : Int32)) (sI s9 3504 ((s9.1 3504) + (1 : Int32))) X37 K)))))))
theorem q_77_13 {d : Nat} {X37 : Int32 → ST → Prop} {K : Int32 → ST → Prop} : ∀ (n : Nat) (x1 : Int32) (x2 : Int32) (s : ST), w_77_13 n x1 x2 s X37 K → (∀ (y1 : Int32) (s : ST), X37 y1 s → Ex sc (d + 1) 77 37 [.ref 35, .int y1, pu] [] (hpS s) (kI K)) → Ex sc (d + 1) 77 13 [.ref 35, .int x1, .int x2] [] (hpS s) (kI K) := by
  have hq : prog[77]? = some pm77 := rfl
  intro n
  induction n with
  | zero =>
    intro x1 x2 s k
    exact k.elim
  | succ n ih =>
    intro x1 x2 s k hX37
    rw [w_77_13] at k
    refine Ex.seg hq 2 (j := 15) (L' := [.ref 35, .int x1, .int x2]) (S' := [.int (7 : Int32), .int x2]) (h' := hpS s) rfl ?_
    refine Ex.i2 hq rfl (fun c => ?_) (fun c => ?_)
    · have k := k.1 c
      refine Ex.fg (L := [.ref 35, .int x1, pu]) ⟨Or.inl rfl, ⟨Or.inl rfl, ⟨Or.inr ⟨rfl, rfl⟩, trivial⟩⟩⟩ ?_
      exact hX37 x1 s k
    · have k := k.2 c
      refine Ex.seg hq 1 (j := 17) (L' := [.ref 35, .int x1, .int x2]) (S' := [.ref 35]) (h' := hpS s) rfl ?_
      refine Ex.cl hq rfl rfl ?_
      refine Rn.mono (q_81 (d := d + 0) s k) ?_
      rintro _ _ ⟨r6, s5, rfl, rfl, k⟩
      show Ex sc (d + 1) 77 18 [.ref 35, .int x1, .int x2] [.int r6] (hpS s5) _
      refine Ex.cl hq rfl rfl ?_
      refine Rn.mono (q_79 (d := d + 0) r6 s5 k) ?_
      rintro _ _ ⟨r8, s7, rfl, hzr8, rfl, k⟩
      show Ex sc (d + 1) 77 19 [.ref 35, .int x1, .int x2] [.int r8] (hpS s7) _
      refine Ex.i1 hq rfl (fun c => ?_) (fun c => ?_)
      · have k := k.1 c
        refine Ex.fg (L := [.ref 35, .int x1, pu]) ⟨Or.inl rfl, ⟨Or.inl rfl, ⟨Or.inr ⟨rfl, rfl⟩, trivial⟩⟩⟩ ?_
        exact hX37 x1 s7 k
      · have k := k.2 c
        refine Ex.seg hq 4 (j := 24) (L' := [.ref 35, .int x1, .int x2]) (S' := [.ref 35, .int ((10 : Int32) * x1)]) (h' := hpS s7) rfl ?_
        refine Ex.cl hq rfl rfl ?_
        refine Rn.mono (q_81 (d := d + 0) s7 k) ?_
        rintro _ _ ⟨r10, s9, rfl, rfl, k⟩
        show Ex sc (d + 1) 77 25 [.ref 35, .int x1, .int x2] [.int r10, .int ((10 : Int32) * x1)] (hpS s9) _
        refine Ex.seg hq 12 (j := 13) (L' := [.ref 35, .int ((((10 : Int32) * x1) + r10) - (48 : Int32)), .int (x2 + (1 : Int32))]) (S' := []) (h' := hpS (sI s9 3504 ((s9.1 3504) + (1 : Int32)))) rfl ?_
        exact ih ((((10 : Int32) * x1) + r10) - (48 : Int32)) (x2 + (1 : Int32)) (sI s9 3504 ((s9.1 3504) + (1 : Int32))) k hX37
/-- RowAuditor$Parser.number()I -/
def w_77  (s : ST) (K : Int32 → ST → Prop) : Prop := w_81 s (fun r2 s1 => w_79 r2 s1 (fun r4 s3 => ((¬ r4 = 0 → (∃ m, w_77_13 m (0 : Int32) (0 : Int32) s3 (fun y1 s11 => w_81 s11 (fun r13 s12 => w_79 r13 s12 (fun r15 s14 => ((r15 = 0 → K y1 s14) ∧ (¬ (r15 = 0) → w_85 (2 : Int32) (s14.1 3504) s14 (fun s16 => K y1 s16)))))) K)) ∧ (¬ (¬ r4 = 0) → w_85 (1 : Int32) (s3.1 3504) s3 (fun s18 => (∃ m, w_77_13 m (0 : Int32) (0 : Int32) s18 (fun y1 s20 => w_81 s20 (fun r22 s21 => w_79 r22 s21 (fun r24 s23 => ((r24 = 0 → K y1 s23) ∧ (¬ (r24 = 0) → w_85 (2 : Int32) (s23.1 3504) s23 (fun s25 => K y1 s25)))))) K))))))
theorem q_77 {d : Nat} {K : Int32 → ST → Prop}  (s : ST) (k : w_77  s K) : Rn sc (d + 1) 77 [.ref 35] (hpS s) (kI K) := by
  have hq : prog[77]? = some pm77 := rfl
  refine Rn.of (L := [.ref 35, pu, pu]) hq rfl rfl ?_
  unfold w_77 at k
  refine Ex.seg hq 1 (j := 1) (L' := [.ref 35, pu, pu]) (S' := [.ref 35]) (h' := hpS s) rfl ?_
  refine Ex.cl hq rfl rfl ?_
  refine Rn.mono (q_81 (d := d + 0) s k) ?_
  rintro _ _ ⟨r2, s1, rfl, rfl, k⟩
  show Ex sc (d + 1) 77 2 [.ref 35, pu, pu] [.int r2] (hpS s1) _
  refine Ex.cl hq rfl rfl ?_
  refine Rn.mono (q_79 (d := d + 0) r2 s1 k) ?_
  rintro _ _ ⟨r4, s3, rfl, hzr4, rfl, k⟩
  show Ex sc (d + 1) 77 3 [.ref 35, pu, pu] [.int r4] (hpS s3) _
  refine Ex.i1 hq rfl (fun c => ?_) (fun c => ?_)
  · have k := k.1 c
    refine Ex.seg hq 4 (j := 13) (L' := [.ref 35, .int (0 : Int32), .int (0 : Int32)]) (S' := []) (h' := hpS s3) rfl ?_
    obtain ⟨m, k⟩ := k
    refine q_77_13 (d := d) m (0 : Int32) (0 : Int32) s3 k ?_
    · intro y1 s11 k
      refine Ex.seg hq 1 (j := 38) (L' := [.ref 35, .int y1, pu]) (S' := [.ref 35]) (h' := hpS s11) rfl ?_
      refine Ex.cl hq rfl rfl ?_
      refine Rn.mono (q_81 (d := d + 0) s11 k) ?_
      rintro _ _ ⟨r13, s12, rfl, rfl, k⟩
      show Ex sc (d + 1) 77 39 [.ref 35, .int y1, pu] [.int r13] (hpS s12) _
      refine Ex.cl hq rfl rfl ?_
      refine Rn.mono (q_79 (d := d + 0) r13 s12 k) ?_
      rintro _ _ ⟨r15, s14, rfl, hzr15, rfl, k⟩
      show Ex sc (d + 1) 77 40 [.ref 35, .int y1, pu] [.int r15] (hpS s14) _
      refine Ex.i1 hq rfl (fun c => ?_) (fun c => ?_)
      · have k := k.1 c
        refine Ex.seg hq 1 (j := 47) (L' := [.ref 35, .int y1, pu]) (S' := [.int y1]) (h' := hpS s14) rfl ?_
        exact Ex.rt hq rfl rfl ⟨y1, s14, rfl, rfl, k⟩
      · have k := k.2 c
        refine Ex.seg hq 4 (j := 45) (L' := [.ref 35, .int y1, pu]) (S' := [.int (s14.1 3504), .int (2 : Int32), .ref 35]) (h' := hpS s14) rfl ?_
        refine Ex.cl hq rfl rfl ?_
        refine Rn.mono (q_85 (d := d + 0) (2 : Int32) (s14.1 3504) s14 k) ?_
        rintro _ _ ⟨s16, rfl, rfl, k⟩
        show Ex sc (d + 1) 77 46 [.ref 35, .int y1, pu] [] (hpS s16) _
        refine Ex.seg hq 1 (j := 47) (L' := [.ref 35, .int y1, pu]) (S' := [.int y1]) (h' := hpS s16) rfl ?_
        exact Ex.rt hq rfl rfl ⟨y1, s16, rfl, rfl, k⟩
  · have k := k.2 c
    refine Ex.seg hq 4 (j := 8) (L' := [.ref 35, pu, pu]) (S' := [.int (s3.1 3504), .int (1 : Int32), .ref 35]) (h' := hpS s3) rfl ?_
    refine Ex.cl hq rfl rfl ?_
    refine Rn.mono (q_85 (d := d + 0) (1 : Int32) (s3.1 3504) s3 k) ?_
    rintro _ _ ⟨s18, rfl, rfl, k⟩
    show Ex sc (d + 1) 77 9 [.ref 35, pu, pu] [] (hpS s18) _
    refine Ex.seg hq 4 (j := 13) (L' := [.ref 35, .int (0 : Int32), .int (0 : Int32)]) (S' := []) (h' := hpS s18) rfl ?_
    obtain ⟨m, k⟩ := k
    refine q_77_13 (d := d) m (0 : Int32) (0 : Int32) s18 k ?_
    · intro y1 s20 k
      refine Ex.seg hq 1 (j := 38) (L' := [.ref 35, .int y1, pu]) (S' := [.ref 35]) (h' := hpS s20) rfl ?_
      refine Ex.cl hq rfl rfl ?_
      refine Rn.mono (q_81 (d := d + 0) s20 k) ?_
      rintro _ _ ⟨r22, s21, rfl, rfl, k⟩
      show Ex sc (d + 1) 77 39 [.ref 35, .int y1, pu] [.int r22] (hpS s21) _
      refine Ex.cl hq rfl rfl ?_
      refine Rn.mono (q_79 (d := d + 0) r22 s21 k) ?_
      rintro _ _ ⟨r24, s23, rfl, hzr24, rfl, k⟩
      show Ex sc (d + 1) 77 40 [.ref 35, .int y1, pu] [.int r24] (hpS s23) _
      refine Ex.i1 hq rfl (fun c => ?_) (fun c => ?_)
      · have k := k.1 c
        refine Ex.seg hq 1 (j := 47) (L' := [.ref 35, .int y1, pu]) (S' := [.int y1]) (h' := hpS s23) rfl ?_
        exact Ex.rt hq rfl rfl ⟨y1, s23, rfl, rfl, k⟩
      · have k := k.2 c
        refine Ex.seg hq 4 (j := 45) (L' := [.ref 35, .int y1, pu]) (S' := [.int (s23.1 3504), .int (2 : Int32), .ref 35]) (h' := hpS s23) rfl ?_
        refine Ex.cl hq rfl rfl ?_
        refine Rn.mono (q_85 (d := d + 0) (2 : Int32) (s23.1 3504) s23 k) ?_
        rintro _ _ ⟨s25, rfl, rfl, k⟩
        show Ex sc (d + 1) 77 46 [.ref 35, .int y1, pu] [] (hpS s25) _
        refine Ex.seg hq 1 (j := 47) (L' := [.ref 35, .int y1, pu]) (S' := [.int y1]) (h' := hpS s25) rfl ?_
        exact Ex.rt hq rfl rfl ⟨y1, s25, rfl, rfl, k⟩
/-- RowAuditor$Parser.numberUpTo(I)I -/
def w_78 (p0 : Int32) (s : ST) (K : Int32 → ST → Prop) : Prop := w_77 s (fun r2 s1 => ((r2 ≤ p0 → K r2 s1) ∧ (¬ (r2 ≤ p0) → w_85 (3 : Int32) (s.1 3504) s1 (fun s3 => K r2 s3))))
theorem q_78 {d : Nat} {K : Int32 → ST → Prop} (p0 : Int32) (s : ST) (k : w_78 p0 s K) : Rn sc (d + 2) 78 [.ref 35, .int p0] (hpS s) (kI K) := by
  have hq : prog[78]? = some pm78 := rfl
  refine Rn.of (L := [.ref 35, .int p0, pu, pu]) hq rfl rfl ?_
  unfold w_78 at k
  refine Ex.seg hq 4 (j := 4) (L' := [.ref 35, .int p0, .int (s.1 3504), pu]) (S' := [.ref 35]) (h' := hpS s) rfl ?_
  refine Ex.cl hq rfl rfl ?_
  refine Rn.mono (q_77 (d := d + 0) s k) ?_
  rintro _ _ ⟨r2, s1, rfl, rfl, k⟩
  show Ex sc (d + 2) 78 5 [.ref 35, .int p0, .int (s.1 3504), pu] [.int r2] (hpS s1) _
  refine Ex.seg hq 3 (j := 8) (L' := [.ref 35, .int p0, .int (s.1 3504), .int r2]) (S' := [.int p0, .int r2]) (h' := hpS s1) rfl ?_
  refine Ex.i2 hq rfl (fun c => ?_) (fun c => ?_)
  · have k := k.1 c
    refine Ex.seg hq 1 (j := 14) (L' := [.ref 35, .int p0, .int (s.1 3504), .int r2]) (S' := [.int r2]) (h' := hpS s1) rfl ?_
    exact Ex.rt hq rfl rfl ⟨r2, s1, rfl, rfl, k⟩
  · have k := k.2 c
    refine Ex.seg hq 3 (j := 12) (L' := [.ref 35, .int p0, .int (s.1 3504), .int r2]) (S' := [.int (s.1 3504), .int (3 : Int32), .ref 35]) (h' := hpS s1) rfl ?_
    refine Ex.cl hq rfl rfl ?_
    refine Rn.mono (q_85 (d := d + 1) (3 : Int32) (s.1 3504) s1 k) ?_
    rintro _ _ ⟨s3, rfl, rfl, k⟩
    show Ex sc (d + 2) 78 13 [.ref 35, .int p0, .int (s.1 3504), .int r2] [] (hpS s3) _
    refine Ex.seg hq 1 (j := 14) (L' := [.ref 35, .int p0, .int (s.1 3504), .int r2]) (S' := [.int r2]) (h' := hpS s3) rfl ?_
    exact Ex.rt hq rfl rfl ⟨r2, s3, rfl, rfl, k⟩
/-- RowAuditor$Parser.opens(I)Z -/
def w_80 (p0 : Int32) (s : ST) (K : Int32 → ST → Prop) : Prop := ((p0 < (6 : Int32) → K (1 : Int32) (sI s 3504 ((s.1 3504) + (1 : Int32)))) ∧ (¬ (p0 < (6 : Int32)) → w_85 (5 : Int32) (s.1 3504) s (fun s1 => K (0 : Int32) s1)))
theorem q_80 {d : Nat} {K : Int32 → ST → Prop} (p0 : Int32) (s : ST) (k : w_80 p0 s K) : Rn sc (d + 1) 80 [.ref 35, .int p0] (hpS s) (kZ K) := by
  have hq : prog[80]? = some pm80 := rfl
  refine Rn.of (L := [.ref 35, .int p0]) hq rfl rfl ?_
  unfold w_80 at k
  refine Ex.seg hq 2 (j := 2) (L' := [.ref 35, .int p0]) (S' := [.int (6 : Int32), .int p0]) (h' := hpS s) rfl ?_
  refine Ex.i2 hq rfl (fun c => ?_) (fun c => ?_)
  · have k := k.1 c
    refine Ex.seg hq 7 (j := 17) (L' := [.ref 35, .int p0]) (S' := [.int (1 : Int32)]) (h' := hpS (sI s 3504 ((s.1 3504) + (1 : Int32)))) rfl ?_
    exact Ex.zr hq rfl rfl (Or.inr rfl) ⟨(1 : Int32), (sI s 3504 ((s.1 3504) + (1 : Int32))), rfl, (Or.inr rfl), rfl, k⟩
  · have k := k.2 c
    refine Ex.seg hq 4 (j := 7) (L' := [.ref 35, .int p0]) (S' := [.int (s.1 3504), .int (5 : Int32), .ref 35]) (h' := hpS s) rfl ?_
    refine Ex.cl hq rfl rfl ?_
    refine Rn.mono (q_85 (d := d + 0) (5 : Int32) (s.1 3504) s k) ?_
    rintro _ _ ⟨s1, rfl, rfl, k⟩
    show Ex sc (d + 1) 80 8 [.ref 35, .int p0] [] (hpS s1) _
    refine Ex.seg hq 1 (j := 9) (L' := [.ref 35, .int p0]) (S' := [.int (0 : Int32)]) (h' := hpS s1) rfl ?_
    exact Ex.zr hq rfl rfl (Or.inl rfl) ⟨(0 : Int32), s1, rfl, (Or.inl rfl), rfl, k⟩
/-- RowAuditor$Parser.want(I)V -/
def w_83 (p0 : Int32) (s : ST) (K : ST → Prop) : Prop := w_81 s (fun r2 s1 => ((¬ r2 = p0 → w_85 (1 : Int32) (s1.1 3504) s1 (fun s3 => K s3)) ∧ (¬ (¬ r2 = p0) → K (sI s1 3504 ((s1.1 3504) + (1 : Int32))))))
theorem q_83 {d : Nat} {K : ST → Prop} (p0 : Int32) (s : ST) (k : w_83 p0 s K) : Rn sc (d + 1) 83 [.ref 35, .int p0] (hpS s) (kV K) := by
  have hq : prog[83]? = some pm83 := rfl
  refine Rn.of (L := [.ref 35, .int p0]) hq rfl rfl ?_
  unfold w_83 at k
  refine Ex.seg hq 1 (j := 1) (L' := [.ref 35, .int p0]) (S' := [.ref 35]) (h' := hpS s) rfl ?_
  refine Ex.cl hq rfl rfl ?_
  refine Rn.mono (q_81 (d := d + 0) s k) ?_
  rintro _ _ ⟨r2, s1, rfl, rfl, k⟩
  show Ex sc (d + 1) 83 2 [.ref 35, .int p0] [.int r2] (hpS s1) _
  refine Ex.seg hq 1 (j := 3) (L' := [.ref 35, .int p0]) (S' := [.int p0, .int r2]) (h' := hpS s1) rfl ?_
  refine Ex.i2 hq rfl (fun c => ?_) (fun c => ?_)
  · have k := k.1 c
    refine Ex.seg hq 4 (j := 15) (L' := [.ref 35, .int p0]) (S' := [.int (s1.1 3504), .int (1 : Int32), .ref 35]) (h' := hpS s1) rfl ?_
    refine Ex.cl hq rfl rfl ?_
    refine Rn.mono (q_85 (d := d + 0) (1 : Int32) (s1.1 3504) s1 k) ?_
    rintro _ _ ⟨s3, rfl, rfl, k⟩
    show Ex sc (d + 1) 83 16 [.ref 35, .int p0] [] (hpS s3) _
    exact Ex.rt hq rfl rfl ⟨s3, rfl, rfl, k⟩
  · have k := k.2 c
    refine Ex.seg hq 7 (j := 16) (L' := [.ref 35, .int p0]) (S' := []) (h' := hpS (sI s1 3504 ((s1.1 3504) + (1 : Int32)))) rfl ?_
    exact Ex.rt hq rfl rfl ⟨(sI s1 3504 ((s1.1 3504) + (1 : Int32))), rfl, rfl, k⟩
/-- RowAuditor$Parser.wantEnd()V -/
def w_84  (s : ST) (K : ST → Prop) : Prop := (((s.1 3502) ≤ (s.1 3504) → K s) ∧ (¬ ((s.1 3502) ≤ (s.1 3504)) → w_85 (1 : Int32) (s.1 3504) s (fun s1 => K s1)))
theorem q_84 {d : Nat} {K : ST → Prop}  (s : ST) (k : w_84  s K) : Rn sc (d + 1) 84 [.ref 35] (hpS s) (kV K) := by
  have hq : prog[84]? = some pm84 := rfl
  refine Rn.of (L := [.ref 35]) hq rfl rfl ?_
  unfold w_84 at k
  refine Ex.seg hq 4 (j := 4) (L' := [.ref 35]) (S' := [.int (s.1 3502), .int (s.1 3504)]) (h' := hpS s) rfl ?_
  refine Ex.i2 hq rfl (fun c => ?_) (fun c => ?_)
  · have k := k.1 c
    exact Ex.rt hq rfl rfl ⟨s, rfl, rfl, k⟩
  · have k := k.2 c
    refine Ex.seg hq 4 (j := 9) (L' := [.ref 35]) (S' := [.int (s.1 3504), .int (1 : Int32), .ref 35]) (h' := hpS s) rfl ?_
    refine Ex.cl hq rfl rfl ?_
    refine Rn.mono (q_85 (d := d + 0) (1 : Int32) (s.1 3504) s k) ?_
    rintro _ _ ⟨s1, rfl, rfl, k⟩
    show Ex sc (d + 1) 84 10 [.ref 35] [] (hpS s1) _
    exact Ex.rt hq rfl rfl ⟨s1, rfl, rfl, k⟩
/-- RowAuditor$Parser.aim(II)V -/
def w_87 (p0 : Int32) (p1 : Int32) (s : ST) (K : ST → Prop) : Prop := w_181 p0 (0 : Int32) ((Int32.ofNat 160) - (1 : Int32)) s (fun r2 s1 => ((r2 = 0 → K s1) ∧ (¬ (r2 = 0) → (pin p0 160 = true ∧ K (sA s1 36 (upd (s1.2.1 36) (p0).toNatClampNeg (((s1.1 3503) <<< ((4 : Int32) &&& 31)) ||| p1)))))))
theorem q_87 {d : Nat} {K : ST → Prop} (p0 : Int32) (p1 : Int32) (s : ST) (k : w_87 p0 p1 s K) : Rn sc (d + 1) 87 [.ref 35, .int p0, .int p1] (hpS s) (kV K) := by
  have hq : prog[87]? = some pm87 := rfl
  refine Rn.of (L := [.ref 35, .int p0, .int p1]) hq rfl rfl ?_
  unfold w_87 at k
  refine Ex.seg hq 7 (j := 7) (L' := [.ref 35, .int p0, .int p1]) (S' := [.int ((Int32.ofNat 160) - (1 : Int32)), .int (0 : Int32), .int p0]) (h' := hpS s) rfl ?_
  refine Ex.cl hq rfl rfl ?_
  refine Rn.mono (q_181 (d := d + 0) p0 (0 : Int32) ((Int32.ofNat 160) - (1 : Int32)) s k) ?_
  rintro _ _ ⟨r2, s1, rfl, hzr2, rfl, k⟩
  show Ex sc (d + 1) 87 8 [.ref 35, .int p0, .int p1] [.int r2] (hpS s1) _
  refine Ex.i1 hq rfl (fun c => ?_) (fun c => ?_)
  · have k := k.1 c
    exact Ex.rt hq rfl rfl ⟨s1, rfl, rfl, k⟩
  · have k := k.2 c
    refine Ex.seg hq 9 (j := 18) (L' := [.ref 35, .int p0, .int p1]) (S' := [.int (((s1.1 3503) <<< ((4 : Int32) &&& 31)) ||| p1), .int p0, .ref 36]) (h' := hpS s1) rfl ?_
    obtain ⟨hin, k⟩ := k
    refine Ex.ias hq rfl rfl hin (h' := hpS (sA s1 36 (upd (s1.2.1 36) (p0).toNatClampNeg (((s1.1 3503) <<< ((4 : Int32) &&& 31)) ||| p1)))) (hset_36 _ _) ?_
    exact Ex.rt hq rfl rfl ⟨(sA s1 36 (upd (s1.2.1 36) (p0).toNatClampNeg (((s1.1 3503) <<< ((4 : Int32) &&& 31)) ||| p1))), rfl, rfl, k⟩
def w_91_2 : Nat → Int32 → Int32 → ST → (ST → Prop) → (ST → Prop) → (Int32 → ST → Prop) → Prop
  | 0, _, _, _, _, _, _ => False
  | n + 1, x1, x2, s, X26, X22, K => (((9 : Int32) ≤ x2 → X26  s) ∧ (¬ ((9 : Int32) ≤ x2) → w_184 x2 x1 s (fun r2 s1 => ((r2 = 0 → w_91_2 n x1 (x2 + (1 : Int32)) s1 X26 X22 K) ∧ (¬ (r2 = 0) → (pin x2 9 = true ∧ ((((s1.2.1 26) (x2).toNatClampNeg) = (-1 : Int32) → w_91_2 n x1 (x2 + (1 : Int32)) s1 X26 X22 K) ∧ (¬ (((s1.2.1 26) (x2).toNatClampNeg) = (-1 : Int32)) → (pin x2 9 = true ∧ w_184 ((s1.2.1 26) (x2).toNatClampNeg) x1 s1 (fun r4 s3 => ((¬ r4 = 0 → w_91_2 n x1 (x2 + (1 : Int32)) s3 X26 X22 K) ∧ (¬ (¬ r4 = 0) → X22  s3))))))))))))
theorem q_91_2 {d : Nat} {X26 : ST → Prop} {X22 : ST → Prop} {K : Int32 → ST → Prop} : ∀ (n : Nat) (x1 : Int32) (x2 : Int32) (s : ST), w_91_2 n x1 x2 s X26 X22 K → (∀ (s : ST), X26  s → Ex sc (d + 1) 91 26 [pu, pu, pu] [] (hpS s) (kZ K)) → (∀ (s : ST), X22  s → Ex sc (d + 1) 91 22 [pu, pu, pu] [] (hpS s) (kZ K)) → Ex sc (d + 1) 91 2 [.ref 23, .int x1, .int x2] [] (hpS s) (kZ K) := by
  have hq : prog[91]? = some pm91 := rfl
  intro n
  induction n with
  | zero =>
    intro x1 x2 s k
    exact k.elim
  | succ n ih =>
    intro x1 x2 s k hX26 hX22
    rw [w_91_2] at k
    refine Ex.seg hq 2 (j := 4) (L' := [.ref 23, .int x1, .int x2]) (S' := [.int (9 : Int32), .int x2]) (h' := hpS s) rfl ?_
    refine Ex.i2 hq rfl (fun c => ?_) (fun c => ?_)
    · have k := k.1 c
      refine Ex.fg (L := [pu, pu, pu]) ⟨Or.inr ⟨rfl, rfl⟩, ⟨Or.inr ⟨rfl, rfl⟩, ⟨Or.inr ⟨rfl, rfl⟩, trivial⟩⟩⟩ ?_
      exact hX26  s k
    · have k := k.2 c
      refine Ex.seg hq 2 (j := 7) (L' := [.ref 23, .int x1, .int x2]) (S' := [.int x1, .int x2]) (h' := hpS s) rfl ?_
      refine Ex.cl hq rfl rfl ?_
      refine Rn.mono (q_184 (d := d + 0) x2 x1 s k) ?_
      rintro _ _ ⟨r2, s1, rfl, hzr2, rfl, k⟩
      show Ex sc (d + 1) 91 8 [.ref 23, .int x1, .int x2] [.int r2] (hpS s1) _
      refine Ex.i1 hq rfl (fun c => ?_) (fun c => ?_)
      · have k := k.1 c
        refine Ex.seg hq 2 (j := 2) (L' := [.ref 23, .int x1, .int (x2 + (1 : Int32))]) (S' := []) (h' := hpS s1) rfl ?_
        exact ih x1 (x2 + (1 : Int32)) s1 k hX26 hX22
      · have k := k.2 c
        refine Ex.seg hq 3 (j := 12) (L' := [.ref 23, .int x1, .int x2]) (S' := [.int x2, .ref 26]) (h' := hpS s1) rfl ?_
        obtain ⟨hin, k⟩ := k
        refine Ex.ial hq rfl rfl hin ?_
        refine Ex.seg hq 1 (j := 14) (L' := [.ref 23, .int x1, .int x2]) (S' := [.int (-1 : Int32), .int ((s1.2.1 26) (x2).toNatClampNeg)]) (h' := hpS s1) rfl ?_
        refine Ex.i2 hq rfl (fun c => ?_) (fun c => ?_)
        · have k := k.1 c
          refine Ex.seg hq 2 (j := 2) (L' := [.ref 23, .int x1, .int (x2 + (1 : Int32))]) (S' := []) (h' := hpS s1) rfl ?_
          exact ih x1 (x2 + (1 : Int32)) s1 k hX26 hX22
        · have k := k.2 c
          refine Ex.seg hq 3 (j := 18) (L' := [.ref 23, .int x1, .int x2]) (S' := [.int x2, .ref 26]) (h' := hpS s1) rfl ?_
          obtain ⟨hin, k⟩ := k
          refine Ex.ial hq rfl rfl hin ?_
          refine Ex.seg hq 1 (j := 20) (L' := [.ref 23, .int x1, .int x2]) (S' := [.int x1, .int ((s1.2.1 26) (x2).toNatClampNeg)]) (h' := hpS s1) rfl ?_
          refine Ex.cl hq rfl rfl ?_
          refine Rn.mono (q_184 (d := d + 0) ((s1.2.1 26) (x2).toNatClampNeg) x1 s1 k) ?_
          rintro _ _ ⟨r4, s3, rfl, hzr4, rfl, k⟩
          show Ex sc (d + 1) 91 21 [.ref 23, .int x1, .int x2] [.int r4] (hpS s3) _
          refine Ex.i1 hq rfl (fun c => ?_) (fun c => ?_)
          · have k := k.1 c
            refine Ex.seg hq 2 (j := 2) (L' := [.ref 23, .int x1, .int (x2 + (1 : Int32))]) (S' := []) (h' := hpS s3) rfl ?_
            exact ih x1 (x2 + (1 : Int32)) s3 k hX26 hX22
          · have k := k.2 c
            refine Ex.fg (L := [pu, pu, pu]) ⟨Or.inr ⟨rfl, rfl⟩, ⟨Or.inr ⟨rfl, rfl⟩, ⟨Or.inr ⟨rfl, rfl⟩, trivial⟩⟩⟩ ?_
            exact hX22  s3 k
/-- RowAuditor$Readings.wantsOutside(I)Z -/
def w_91 (p0 : Int32) (s : ST) (K : Int32 → ST → Prop) : Prop := (∃ m, w_91_2 m p0 (0 : Int32) s (fun s5 => K (0 : Int32) s5) (fun s6 => K (1 : Int32) s6) K)
theorem q_91 {d : Nat} {K : Int32 → ST → Prop} (p0 : Int32) (s : ST) (k : w_91 p0 s K) : Rn sc (d + 1) 91 [.ref 23, .int p0] (hpS s) (kZ K) := by
  have hq : prog[91]? = some pm91 := rfl
  refine Rn.of (L := [.ref 23, .int p0, pu]) hq rfl rfl ?_
  unfold w_91 at k
  refine Ex.seg hq 2 (j := 2) (L' := [.ref 23, .int p0, .int (0 : Int32)]) (S' := []) (h' := hpS s) rfl ?_
  obtain ⟨m, k⟩ := k
  refine q_91_2 (d := d) m p0 (0 : Int32) s k ?_ ?_
  · intro s5 k
    refine Ex.seg hq 1 (j := 27) (L' := [pu, pu, pu]) (S' := [.int (0 : Int32)]) (h' := hpS s5) rfl ?_
    exact Ex.zr hq rfl rfl (Or.inl rfl) ⟨(0 : Int32), s5, rfl, (Or.inl rfl), rfl, k⟩
  · intro s6 k
    refine Ex.seg hq 1 (j := 23) (L' := [pu, pu, pu]) (S' := [.int (1 : Int32)]) (h' := hpS s6) rfl ?_
    exact Ex.zr hq rfl rfl (Or.inr rfl) ⟨(1 : Int32), s6, rfl, (Or.inr rfl), rfl, k⟩
/-- RowAuditor$Rounder.setAt(II)I -/
def w_102 (p0 : Int32) (p1 : Int32) (s : ST) (K : Int32 → ST → Prop) : Prop := w_181 ((p0 * (163 : Int32)) + p1) (0 : Int32) ((Int32.ofNat 1467) - (1 : Int32)) s (fun r2 s1 => ((r2 = 0 → K (0 : Int32) s1) ∧ (¬ (r2 = 0) → (pin ((p0 * (163 : Int32)) + p1) 1467 = true ∧ K ((s1.2.1 48) (((p0 * (163 : Int32)) + p1)).toNatClampNeg) s1))))
theorem q_102 {d : Nat} {K : Int32 → ST → Prop} (p0 : Int32) (p1 : Int32) (s : ST) (k : w_102 p0 p1 s K) : Rn sc (d + 1) 102 [.ref 46, .int p0, .int p1] (hpS s) (kI K) := by
  have hq : prog[102]? = some pm102 := rfl
  refine Rn.of (L := [.ref 46, .int p0, .int p1, pu]) hq rfl rfl ?_
  unfold w_102 at k
  refine Ex.seg hq 13 (j := 13) (L' := [.ref 46, .int p0, .int p1, .int ((p0 * (163 : Int32)) + p1)]) (S' := [.int ((Int32.ofNat 1467) - (1 : Int32)), .int (0 : Int32), .int ((p0 * (163 : Int32)) + p1)]) (h' := hpS s) rfl ?_
  refine Ex.cl hq rfl rfl ?_
  refine Rn.mono (q_181 (d := d + 0) ((p0 * (163 : Int32)) + p1) (0 : Int32) ((Int32.ofNat 1467) - (1 : Int32)) s k) ?_
  rintro _ _ ⟨r2, s1, rfl, hzr2, rfl, k⟩
  show Ex sc (d + 1) 102 14 [.ref 46, .int p0, .int p1, .int ((p0 * (163 : Int32)) + p1)] [.int r2] (hpS s1) _
  refine Ex.i1 hq rfl (fun c => ?_) (fun c => ?_)
  · have k := k.1 c
    refine Ex.seg hq 1 (j := 21) (L' := [.ref 46, .int p0, .int p1, .int ((p0 * (163 : Int32)) + p1)]) (S' := [.int (0 : Int32)]) (h' := hpS s1) rfl ?_
    exact Ex.rt hq rfl rfl ⟨(0 : Int32), s1, rfl, rfl, k⟩
  · have k := k.2 c
    refine Ex.seg hq 3 (j := 18) (L' := [.ref 46, .int p0, .int p1, .int ((p0 * (163 : Int32)) + p1)]) (S' := [.int ((p0 * (163 : Int32)) + p1), .ref 48]) (h' := hpS s1) rfl ?_
    obtain ⟨hin, k⟩ := k
    refine Ex.ial hq rfl rfl hin ?_
    refine Ex.seg hq 1 (j := 21) (L' := [.ref 46, .int p0, .int p1, .int ((p0 * (163 : Int32)) + p1)]) (S' := [.int ((s1.2.1 48) (((p0 * (163 : Int32)) + p1)).toNatClampNeg)]) (h' := hpS s1) rfl ?_
    exact Ex.rt hq rfl rfl ⟨((s1.2.1 48) (((p0 * (163 : Int32)) + p1)).toNatClampNeg), s1, rfl, rfl, k⟩
/-- RowAuditor$Rounder.waysBy(II)I -/
def w_103 (p0 : Int32) (p1 : Int32) (s : ST) (K : Int32 → ST → Prop) : Prop := w_104 p0 p1 s (fun r2 s1 => w_181 r2 (0 : Int32) ((Int32.ofNat 2304) - (1 : Int32)) s1 (fun r4 s3 => ((r4 = 0 → K (0 : Int32) s3) ∧ (¬ (r4 = 0) → (pin r2 2304 = true ∧ K ((s3.2.1 47) (r2).toNatClampNeg) s3)))))
theorem q_103 {d : Nat} {K : Int32 → ST → Prop} (p0 : Int32) (p1 : Int32) (s : ST) (k : w_103 p0 p1 s K) : Rn sc (d + 1) 103 [.ref 46, .int p0, .int p1] (hpS s) (kI K) := by
  have hq : prog[103]? = some pm103 := rfl
  refine Rn.of (L := [.ref 46, .int p0, .int p1, pu]) hq rfl rfl ?_
  unfold w_103 at k
  refine Ex.seg hq 2 (j := 2) (L' := [.ref 46, .int p0, .int p1, pu]) (S' := [.int p1, .int p0]) (h' := hpS s) rfl ?_
  refine Ex.cl hq rfl rfl ?_
  refine Rn.mono (q_104 (d := d + 0) p0 p1 s k) ?_
  rintro _ _ ⟨r2, s1, rfl, rfl, k⟩
  show Ex sc (d + 1) 103 3 [.ref 46, .int p0, .int p1, pu] [.int r2] (hpS s1) _
  refine Ex.seg hq 8 (j := 11) (L' := [.ref 46, .int p0, .int p1, .int r2]) (S' := [.int ((Int32.ofNat 2304) - (1 : Int32)), .int (0 : Int32), .int r2]) (h' := hpS s1) rfl ?_
  refine Ex.cl hq rfl rfl ?_
  refine Rn.mono (q_181 (d := d + 0) r2 (0 : Int32) ((Int32.ofNat 2304) - (1 : Int32)) s1 k) ?_
  rintro _ _ ⟨r4, s3, rfl, hzr4, rfl, k⟩
  show Ex sc (d + 1) 103 12 [.ref 46, .int p0, .int p1, .int r2] [.int r4] (hpS s3) _
  refine Ex.i1 hq rfl (fun c => ?_) (fun c => ?_)
  · have k := k.1 c
    refine Ex.seg hq 1 (j := 19) (L' := [.ref 46, .int p0, .int p1, .int r2]) (S' := [.int (0 : Int32)]) (h' := hpS s3) rfl ?_
    exact Ex.rt hq rfl rfl ⟨(0 : Int32), s3, rfl, rfl, k⟩
  · have k := k.2 c
    refine Ex.seg hq 3 (j := 16) (L' := [.ref 46, .int p0, .int p1, .int r2]) (S' := [.int r2, .ref 47]) (h' := hpS s3) rfl ?_
    obtain ⟨hin, k⟩ := k
    refine Ex.ial hq rfl rfl hin ?_
    refine Ex.seg hq 1 (j := 19) (L' := [.ref 46, .int p0, .int p1, .int r2]) (S' := [.int ((s3.2.1 47) (r2).toNatClampNeg)]) (h' := hpS s3) rfl ?_
    exact Ex.rt hq rfl rfl ⟨((s3.2.1 47) (r2).toNatClampNeg), s3, rfl, rfl, k⟩
/-- RowAuditor$Rounder.addWays(III)V -/
def w_105 (p0 : Int32) (p1 : Int32) (p2 : Int32) (s : ST) (K : ST → Prop) : Prop := w_104 p0 p1 s (fun r2 s1 => w_181 p0 (0 : Int32) (8 : Int32) s1 (fun r4 s3 => ((r4 = 0 → K s3) ∧ (¬ (r4 = 0) → w_181 r2 (0 : Int32) ((Int32.ofNat 2304) - (1 : Int32)) s3 (fun r6 s5 => ((¬ r6 = 0 → (pin r2 2304 = true ∧ ((¬ ((s5.2.1 47) (r2).toNatClampNeg) = 0 → (pin r2 2304 = true ∧ (pin r2 2304 = true ∧ K (sA s5 47 (upd (s5.2.1 47) (r2).toNatClampNeg (if (((s5.2.1 47) (r2).toNatClampNeg) + p2) < (100000 : Int32) then (((s5.2.1 47) (r2).toNatClampNeg) + p2) else (100000 : Int32))))))) ∧ (¬ (¬ ((s5.2.1 47) (r2).toNatClampNeg) = 0) → (pin p0 9 = true ∧ (((163 : Int32) ≤ ((s5.2.1 49) (p0).toNatClampNeg) → (pin r2 2304 = true ∧ (pin r2 2304 = true ∧ K (sA s5 47 (upd (s5.2.1 47) (r2).toNatClampNeg (if (((s5.2.1 47) (r2).toNatClampNeg) + p2) < (100000 : Int32) then (((s5.2.1 47) (r2).toNatClampNeg) + p2) else (100000 : Int32))))))) ∧ (¬ ((163 : Int32) ≤ ((s5.2.1 49) (p0).toNatClampNeg)) → (pin p0 9 = true ∧ (pin ((p0 * (163 : Int32)) + ((s5.2.1 49) (p0).toNatClampNeg)) 1467 = true ∧ (pin p0 9 = true ∧ (pin p0 9 = true ∧ (pin r2 2304 = true ∧ (pin r2 2304 = true ∧ K (sA (sA (sA s5 48 (upd (s5.2.1 48) (((p0 * (163 : Int32)) + ((s5.2.1 49) (p0).toNatClampNeg))).toNatClampNeg p1)) 49 (upd (s5.2.1 49) (p0).toNatClampNeg (((s5.2.1 49) (p0).toNatClampNeg) + (1 : Int32)))) 47 (upd (s5.2.1 47) (r2).toNatClampNeg (if (((s5.2.1 47) (r2).toNatClampNeg) + p2) < (100000 : Int32) then (((s5.2.1 47) (r2).toNatClampNeg) + p2) else (100000 : Int32))))))))))))))))) ∧ (¬ (¬ r6 = 0) → K s5)))))))
theorem q_105 {d : Nat} {K : ST → Prop} (p0 : Int32) (p1 : Int32) (p2 : Int32) (s : ST) (k : w_105 p0 p1 p2 s K) : Rn sc (d + 1) 105 [.ref 46, .int p0, .int p1, .int p2] (hpS s) (kV K) := by
  have hq : prog[105]? = some pm105 := rfl
  refine Rn.of (L := [.ref 46, .int p0, .int p1, .int p2, pu]) hq rfl rfl ?_
  unfold w_105 at k
  refine Ex.seg hq 2 (j := 2) (L' := [.ref 46, .int p0, .int p1, .int p2, pu]) (S' := [.int p1, .int p0]) (h' := hpS s) rfl ?_
  refine Ex.cl hq rfl rfl ?_
  refine Rn.mono (q_104 (d := d + 0) p0 p1 s k) ?_
  rintro _ _ ⟨r2, s1, rfl, rfl, k⟩
  show Ex sc (d + 1) 105 3 [.ref 46, .int p0, .int p1, .int p2, pu] [.int r2] (hpS s1) _
  refine Ex.seg hq 4 (j := 7) (L' := [.ref 46, .int p0, .int p1, .int p2, .int r2]) (S' := [.int (8 : Int32), .int (0 : Int32), .int p0]) (h' := hpS s1) rfl ?_
  refine Ex.cl hq rfl rfl ?_
  refine Rn.mono (q_181 (d := d + 0) p0 (0 : Int32) (8 : Int32) s1 k) ?_
  rintro _ _ ⟨r4, s3, rfl, hzr4, rfl, k⟩
  show Ex sc (d + 1) 105 8 [.ref 46, .int p0, .int p1, .int p2, .int r2] [.int r4] (hpS s3) _
  refine Ex.i1 hq rfl (fun c => ?_) (fun c => ?_)
  · have k := k.1 c
    exact Ex.rt hq rfl rfl ⟨s3, rfl, rfl, k⟩
  · have k := k.2 c
    refine Ex.seg hq 7 (j := 16) (L' := [.ref 46, .int p0, .int p1, .int p2, .int r2]) (S' := [.int ((Int32.ofNat 2304) - (1 : Int32)), .int (0 : Int32), .int r2]) (h' := hpS s3) rfl ?_
    refine Ex.cl hq rfl rfl ?_
    refine Rn.mono (q_181 (d := d + 0) r2 (0 : Int32) ((Int32.ofNat 2304) - (1 : Int32)) s3 k) ?_
    rintro _ _ ⟨r6, s5, rfl, hzr6, rfl, k⟩
    show Ex sc (d + 1) 105 17 [.ref 46, .int p0, .int p1, .int p2, .int r2] [.int r6] (hpS s5) _
    refine Ex.i1 hq rfl (fun c => ?_) (fun c => ?_)
    · have k := k.1 c
      refine Ex.seg hq 3 (j := 22) (L' := [.ref 46, .int p0, .int p1, .int p2, .int r2]) (S' := [.int r2, .ref 47]) (h' := hpS s5) rfl ?_
      obtain ⟨hin, k⟩ := k
      refine Ex.ial hq rfl rfl hin ?_
      refine Ex.i1 hq rfl (fun c => ?_) (fun c => ?_)
      · have k := k.1 c
        refine Ex.seg hq 7 (j := 57) (L' := [.ref 46, .int p0, .int p1, .int p2, .int r2]) (S' := [.int r2, .ref 47, .int (100000 : Int32), .int r2, .ref 47]) (h' := hpS s5) rfl ?_
        obtain ⟨hin, k⟩ := k
        refine Ex.ial hq rfl rfl hin ?_
        refine Ex.seg hq 3 (j := 61) (L' := [.ref 46, .int p0, .int p1, .int p2, .int r2]) (S' := [.int (if (((s5.2.1 47) (r2).toNatClampNeg) + p2) < (100000 : Int32) then (((s5.2.1 47) (r2).toNatClampNeg) + p2) else (100000 : Int32)), .int r2, .ref 47]) (h' := hpS s5) rfl ?_
        obtain ⟨hin, k⟩ := k
        refine Ex.ias hq rfl rfl hin (h' := hpS (sA s5 47 (upd (s5.2.1 47) (r2).toNatClampNeg (if (((s5.2.1 47) (r2).toNatClampNeg) + p2) < (100000 : Int32) then (((s5.2.1 47) (r2).toNatClampNeg) + p2) else (100000 : Int32))))) (hset_47 _ _) ?_
        exact Ex.rt hq rfl rfl ⟨(sA s5 47 (upd (s5.2.1 47) (r2).toNatClampNeg (if (((s5.2.1 47) (r2).toNatClampNeg) + p2) < (100000 : Int32) then (((s5.2.1 47) (r2).toNatClampNeg) + p2) else (100000 : Int32)))), rfl, rfl, k⟩
      · have k := k.2 c
        refine Ex.seg hq 3 (j := 27) (L' := [.ref 46, .int p0, .int p1, .int p2, .int r2]) (S' := [.int p0, .ref 49]) (h' := hpS s5) rfl ?_
        obtain ⟨hin, k⟩ := k
        refine Ex.ial hq rfl rfl hin ?_
        refine Ex.seg hq 1 (j := 29) (L' := [.ref 46, .int p0, .int p1, .int p2, .int r2]) (S' := [.int (163 : Int32), .int ((s5.2.1 49) (p0).toNatClampNeg)]) (h' := hpS s5) rfl ?_
        refine Ex.i2 hq rfl (fun c => ?_) (fun c => ?_)
        · have k := k.1 c
          refine Ex.seg hq 7 (j := 57) (L' := [.ref 46, .int p0, .int p1, .int p2, .int r2]) (S' := [.int r2, .ref 47, .int (100000 : Int32), .int r2, .ref 47]) (h' := hpS s5) rfl ?_
          obtain ⟨hin, k⟩ := k
          refine Ex.ial hq rfl rfl hin ?_
          refine Ex.seg hq 3 (j := 61) (L' := [.ref 46, .int p0, .int p1, .int p2, .int r2]) (S' := [.int (if (((s5.2.1 47) (r2).toNatClampNeg) + p2) < (100000 : Int32) then (((s5.2.1 47) (r2).toNatClampNeg) + p2) else (100000 : Int32)), .int r2, .ref 47]) (h' := hpS s5) rfl ?_
          obtain ⟨hin, k⟩ := k
          refine Ex.ias hq rfl rfl hin (h' := hpS (sA s5 47 (upd (s5.2.1 47) (r2).toNatClampNeg (if (((s5.2.1 47) (r2).toNatClampNeg) + p2) < (100000 : Int32) then (((s5.2.1 47) (r2).toNatClampNeg) + p2) else (100000 : Int32))))) (hset_47 _ _) ?_
          exact Ex.rt hq rfl rfl ⟨(sA s5 47 (upd (s5.2.1 47) (r2).toNatClampNeg (if (((s5.2.1 47) (r2).toNatClampNeg) + p2) < (100000 : Int32) then (((s5.2.1 47) (r2).toNatClampNeg) + p2) else (100000 : Int32)))), rfl, rfl, k⟩
        · have k := k.2 c
          refine Ex.seg hq 8 (j := 38) (L' := [.ref 46, .int p0, .int p1, .int p2, .int r2]) (S' := [.int p0, .ref 49, .int (p0 * (163 : Int32)), .ref 48]) (h' := hpS s5) rfl ?_
          obtain ⟨hin, k⟩ := k
          refine Ex.ial hq rfl rfl hin ?_
          refine Ex.seg hq 2 (j := 41) (L' := [.ref 46, .int p0, .int p1, .int p2, .int r2]) (S' := [.int p1, .int ((p0 * (163 : Int32)) + ((s5.2.1 49) (p0).toNatClampNeg)), .ref 48]) (h' := hpS s5) rfl ?_
          obtain ⟨hin, k⟩ := k
          refine Ex.ias hq rfl rfl hin (h' := hpS (sA s5 48 (upd (s5.2.1 48) (((p0 * (163 : Int32)) + ((s5.2.1 49) (p0).toNatClampNeg))).toNatClampNeg p1))) (hset_48 _ _) ?_
          refine Ex.seg hq 4 (j := 46) (L' := [.ref 46, .int p0, .int p1, .int p2, .int r2]) (S' := [.int p0, .ref 49, .int p0, .ref 49]) (h' := hpS (sA s5 48 (upd (s5.2.1 48) (((p0 * (163 : Int32)) + ((s5.2.1 49) (p0).toNatClampNeg))).toNatClampNeg p1))) rfl ?_
          obtain ⟨hin, k⟩ := k
          refine Ex.ial hq rfl rfl hin ?_
          refine Ex.seg hq 2 (j := 49) (L' := [.ref 46, .int p0, .int p1, .int p2, .int r2]) (S' := [.int (((s5.2.1 49) (p0).toNatClampNeg) + (1 : Int32)), .int p0, .ref 49]) (h' := hpS (sA s5 48 (upd (s5.2.1 48) (((p0 * (163 : Int32)) + ((s5.2.1 49) (p0).toNatClampNeg))).toNatClampNeg p1))) rfl ?_
          obtain ⟨hin, k⟩ := k
          refine Ex.ias hq rfl rfl hin (h' := hpS (sA (sA s5 48 (upd (s5.2.1 48) (((p0 * (163 : Int32)) + ((s5.2.1 49) (p0).toNatClampNeg))).toNatClampNeg p1)) 49 (upd (s5.2.1 49) (p0).toNatClampNeg (((s5.2.1 49) (p0).toNatClampNeg) + (1 : Int32))))) (hset_49 _ _) ?_
          refine Ex.seg hq 7 (j := 57) (L' := [.ref 46, .int p0, .int p1, .int p2, .int r2]) (S' := [.int r2, .ref 47, .int (100000 : Int32), .int r2, .ref 47]) (h' := hpS (sA (sA s5 48 (upd (s5.2.1 48) (((p0 * (163 : Int32)) + ((s5.2.1 49) (p0).toNatClampNeg))).toNatClampNeg p1)) 49 (upd (s5.2.1 49) (p0).toNatClampNeg (((s5.2.1 49) (p0).toNatClampNeg) + (1 : Int32))))) rfl ?_
          obtain ⟨hin, k⟩ := k
          refine Ex.ial hq rfl rfl hin ?_
          refine Ex.seg hq 3 (j := 61) (L' := [.ref 46, .int p0, .int p1, .int p2, .int r2]) (S' := [.int (if (((s5.2.1 47) (r2).toNatClampNeg) + p2) < (100000 : Int32) then (((s5.2.1 47) (r2).toNatClampNeg) + p2) else (100000 : Int32)), .int r2, .ref 47]) (h' := hpS (sA (sA s5 48 (upd (s5.2.1 48) (((p0 * (163 : Int32)) + ((s5.2.1 49) (p0).toNatClampNeg))).toNatClampNeg p1)) 49 (upd (s5.2.1 49) (p0).toNatClampNeg (((s5.2.1 49) (p0).toNatClampNeg) + (1 : Int32))))) rfl ?_
          obtain ⟨hin, k⟩ := k
          refine Ex.ias hq rfl rfl hin (h' := hpS (sA (sA (sA s5 48 (upd (s5.2.1 48) (((p0 * (163 : Int32)) + ((s5.2.1 49) (p0).toNatClampNeg))).toNatClampNeg p1)) 49 (upd (s5.2.1 49) (p0).toNatClampNeg (((s5.2.1 49) (p0).toNatClampNeg) + (1 : Int32)))) 47 (upd (s5.2.1 47) (r2).toNatClampNeg (if (((s5.2.1 47) (r2).toNatClampNeg) + p2) < (100000 : Int32) then (((s5.2.1 47) (r2).toNatClampNeg) + p2) else (100000 : Int32))))) (hset_47 _ _) ?_
          exact Ex.rt hq rfl rfl ⟨(sA (sA (sA s5 48 (upd (s5.2.1 48) (((p0 * (163 : Int32)) + ((s5.2.1 49) (p0).toNatClampNeg))).toNatClampNeg p1)) 49 (upd (s5.2.1 49) (p0).toNatClampNeg (((s5.2.1 49) (p0).toNatClampNeg) + (1 : Int32)))) 47 (upd (s5.2.1 47) (r2).toNatClampNeg (if (((s5.2.1 47) (r2).toNatClampNeg) + p2) < (100000 : Int32) then (((s5.2.1 47) (r2).toNatClampNeg) + p2) else (100000 : Int32)))), rfl, rfl, k⟩
    · have k := k.2 c
      exact Ex.rt hq rfl rfl ⟨s5, rfl, rfl, k⟩
def w_106_7 : Nat → Int32 → Int32 → ST → (Int32 → ST → Prop) → (ST → Prop) → Prop
  | 0, _, _, _, _, _ => False
  | n + 1, x1, x2, s, X36, K => (pin x1 9 = true ∧ ((((s.2.1 49) (x1).toNatClampNeg) ≤ x2 → X36 x1 s) ∧ (¬ (((s.2.1 49) (x1).toNatClampNeg) ≤ x2) → w_102 x1 x2 s (fun r2 s1 => w_104 x1 r2 s1 (fun r4 s3 => w_181 r4 (0 : Int32) ((Int32.ofNat 2304) - (1 : Int32)) s3 (fun r6 s5 => ((r6 = 0 → w_106_7 n x1 (x2 + (1 : Int32)) s5 X36 K) ∧ (¬ (r6 = 0) → (pin r4 2304 = true ∧ w_106_7 n x1 (x2 + (1 : Int32)) (sA s5 47 (upd (s5.2.1 47) (r4).toNatClampNeg (0 : Int32))) X36 K)))))))))
theorem q_106_7 {d : Nat} {X36 : Int32 → ST → Prop} {K : ST → Prop} : ∀ (n : Nat) (x1 : Int32) (x2 : Int32) (s : ST), w_106_7 n x1 x2 s X36 K → (∀ (y1 : Int32) (s : ST), X36 y1 s → Ex sc (d + 2) 106 36 [.ref 46, .int y1, pu, pu] [] (hpS s) (kV K)) → Ex sc (d + 2) 106 7 [.ref 46, .int x1, .int x2, pu] [] (hpS s) (kV K) := by
  have hq : prog[106]? = some pm106 := rfl
  intro n
  induction n with
  | zero =>
    intro x1 x2 s k
    exact k.elim
  | succ n ih =>
    intro x1 x2 s k hX36
    rw [w_106_7] at k
    refine Ex.seg hq 4 (j := 11) (L' := [.ref 46, .int x1, .int x2, pu]) (S' := [.int x1, .ref 49, .int x2]) (h' := hpS s) rfl ?_
    obtain ⟨hin, k⟩ := k
    refine Ex.ial hq rfl rfl hin ?_
    refine Ex.i2 hq rfl (fun c => ?_) (fun c => ?_)
    · have k := k.1 c
      refine Ex.fg (L := [.ref 46, .int x1, pu, pu]) ⟨Or.inl rfl, ⟨Or.inl rfl, ⟨Or.inr ⟨rfl, rfl⟩, ⟨Or.inl rfl, trivial⟩⟩⟩⟩ ?_
      exact hX36 x1 s k
    · have k := k.2 c
      refine Ex.seg hq 4 (j := 17) (L' := [.ref 46, .int x1, .int x2, pu]) (S' := [.int x2, .int x1, .ref 46, .int x1]) (h' := hpS s) rfl ?_
      refine Ex.cl hq rfl rfl ?_
      refine Rn.mono (q_102 (d := d + 0) x1 x2 s k) ?_
      rintro _ _ ⟨r2, s1, rfl, rfl, k⟩
      show Ex sc (d + 2) 106 18 [.ref 46, .int x1, .int x2, pu] [.int r2, .int x1] (hpS s1) _
      refine Ex.cl hq rfl rfl ?_
      refine Rn.mono (q_104 (d := d + 1) x1 r2 s1 k) ?_
      rintro _ _ ⟨r4, s3, rfl, rfl, k⟩
      show Ex sc (d + 2) 106 19 [.ref 46, .int x1, .int x2, pu] [.int r4] (hpS s3) _
      refine Ex.seg hq 8 (j := 27) (L' := [.ref 46, .int x1, .int x2, .int r4]) (S' := [.int ((Int32.ofNat 2304) - (1 : Int32)), .int (0 : Int32), .int r4]) (h' := hpS s3) rfl ?_
      refine Ex.cl hq rfl rfl ?_
      refine Rn.mono (q_181 (d := d + 1) r4 (0 : Int32) ((Int32.ofNat 2304) - (1 : Int32)) s3 k) ?_
      rintro _ _ ⟨r6, s5, rfl, hzr6, rfl, k⟩
      show Ex sc (d + 2) 106 28 [.ref 46, .int x1, .int x2, .int r4] [.int r6] (hpS s5) _
      refine Ex.i1 hq rfl (fun c => ?_) (fun c => ?_)
      · have k := k.1 c
        refine Ex.seg hq 2 (j := 7) (L' := [.ref 46, .int x1, .int (x2 + (1 : Int32)), .int r4]) (S' := []) (h' := hpS s5) rfl ?_
        refine Ex.fg (L := [.ref 46, .int x1, .int (x2 + (1 : Int32)), pu]) ⟨Or.inl rfl, ⟨Or.inl rfl, ⟨Or.inl rfl, ⟨Or.inr ⟨rfl, rfl⟩, trivial⟩⟩⟩⟩ ?_
        exact ih x1 (x2 + (1 : Int32)) s5 k hX36
      · have k := k.2 c
        refine Ex.seg hq 4 (j := 33) (L' := [.ref 46, .int x1, .int x2, .int r4]) (S' := [.int (0 : Int32), .int r4, .ref 47]) (h' := hpS s5) rfl ?_
        obtain ⟨hin, k⟩ := k
        refine Ex.ias hq rfl rfl hin (h' := hpS (sA s5 47 (upd (s5.2.1 47) (r4).toNatClampNeg (0 : Int32)))) (hset_47 _ _) ?_
        refine Ex.seg hq 2 (j := 7) (L' := [.ref 46, .int x1, .int (x2 + (1 : Int32)), .int r4]) (S' := []) (h' := hpS (sA s5 47 (upd (s5.2.1 47) (r4).toNatClampNeg (0 : Int32)))) rfl ?_
        refine Ex.fg (L := [.ref 46, .int x1, .int (x2 + (1 : Int32)), pu]) ⟨Or.inl rfl, ⟨Or.inl rfl, ⟨Or.inl rfl, ⟨Or.inr ⟨rfl, rfl⟩, trivial⟩⟩⟩⟩ ?_
        exact ih x1 (x2 + (1 : Int32)) (sA s5 47 (upd (s5.2.1 47) (r4).toNatClampNeg (0 : Int32))) k hX36
def w_106_2 : Nat → Int32 → ST → (ST → Prop) → (ST → Prop) → Prop
  | 0, _, _, _, _ => False
  | n + 1, x1, s, X43, K => (((9 : Int32) ≤ x1 → X43  s) ∧ (¬ ((9 : Int32) ≤ x1) → (∃ m, w_106_7 m x1 (0 : Int32) s (fun y1 s1 => (pin y1 9 = true ∧ w_106_2 n (y1 + (1 : Int32)) (sA s1 49 (upd (s1.2.1 49) (y1).toNatClampNeg (0 : Int32))) X43 K)) K)))
theorem q_106_2 {d : Nat} {X43 : ST → Prop} {K : ST → Prop} : ∀ (n : Nat) (x1 : Int32) (s : ST), w_106_2 n x1 s X43 K → (∀ (s : ST), X43  s → Ex sc (d + 2) 106 43 [pu, pu, pu, pu] [] (hpS s) (kV K)) → Ex sc (d + 2) 106 2 [.ref 46, .int x1, pu, pu] [] (hpS s) (kV K) := by
  have hq : prog[106]? = some pm106 := rfl
  intro n
  induction n with
  | zero =>
    intro x1 s k
    exact k.elim
  | succ n ih =>
    intro x1 s k hX43
    rw [w_106_2] at k
    refine Ex.seg hq 2 (j := 4) (L' := [.ref 46, .int x1, pu, pu]) (S' := [.int (9 : Int32), .int x1]) (h' := hpS s) rfl ?_
    refine Ex.i2 hq rfl (fun c => ?_) (fun c => ?_)
    · have k := k.1 c
      refine Ex.fg (L := [pu, pu, pu, pu]) ⟨Or.inr ⟨rfl, rfl⟩, ⟨Or.inr ⟨rfl, rfl⟩, ⟨Or.inl rfl, ⟨Or.inl rfl, trivial⟩⟩⟩⟩ ?_
      exact hX43  s k
    · have k := k.2 c
      refine Ex.seg hq 2 (j := 7) (L' := [.ref 46, .int x1, .int (0 : Int32), pu]) (S' := []) (h' := hpS s) rfl ?_
      obtain ⟨m, k⟩ := k
      refine q_106_7 (d := d) m x1 (0 : Int32) s k ?_
      · intro y1 s1 k
        refine Ex.seg hq 4 (j := 40) (L' := [.ref 46, .int y1, pu, pu]) (S' := [.int (0 : Int32), .int y1, .ref 49]) (h' := hpS s1) rfl ?_
        obtain ⟨hin, k⟩ := k
        refine Ex.ias hq rfl rfl hin (h' := hpS (sA s1 49 (upd (s1.2.1 49) (y1).toNatClampNeg (0 : Int32)))) (hset_49 _ _) ?_
        refine Ex.seg hq 2 (j := 2) (L' := [.ref 46, .int (y1 + (1 : Int32)), pu, pu]) (S' := []) (h' := hpS (sA s1 49 (upd (s1.2.1 49) (y1).toNatClampNeg (0 : Int32)))) rfl ?_
        exact ih (y1 + (1 : Int32)) (sA s1 49 (upd (s1.2.1 49) (y1).toNatClampNeg (0 : Int32))) k hX43
/-- RowAuditor$Rounder.forget()V -/
def w_106  (s : ST) (K : ST → Prop) : Prop := (∃ m, w_106_2 m (0 : Int32) s (fun s2 => K s2) K)
theorem q_106 {d : Nat} {K : ST → Prop}  (s : ST) (k : w_106  s K) : Rn sc (d + 2) 106 [.ref 46] (hpS s) (kV K) := by
  have hq : prog[106]? = some pm106 := rfl
  refine Rn.of (L := [.ref 46, pu, pu, pu]) hq rfl rfl ?_
  unfold w_106 at k
  refine Ex.seg hq 2 (j := 2) (L' := [.ref 46, .int (0 : Int32), pu, pu]) (S' := []) (h' := hpS s) rfl ?_
  obtain ⟨m, k⟩ := k
  refine q_106_2 (d := d) m (0 : Int32) s k ?_
  · intro s2 k
    exact Ex.rt hq rfl rfl ⟨s2, rfl, rfl, k⟩
/-- RowAuditor$View.append(I)V -/
def w_113 (p0 : Int32) (s : ST) (K : ST → Prop) : Prop := w_118 p0 s (fun r2 s1 => ((r2 = 0 → K s1) ∧ (¬ (r2 = 0) → (((150 : Int32) ≤ (s1.1 801) → K s1) ∧ (¬ ((150 : Int32) ≤ (s1.1 801)) → (pin (s1.1 801) 150 = true ∧ (pin p0 150 = true ∧ K (sA (sA (sI s1 801 ((s1.1 801) + (1 : Int32))) 11 (upd (s1.2.1 11) ((s1.1 801)).toNatClampNeg p0)) 10 (upd (s1.2.1 10) (p0).toNatClampNeg (s1.1 801))))))))))
theorem q_113 {d : Nat} {K : ST → Prop} (p0 : Int32) (s : ST) (k : w_113 p0 s K) : Rn sc (d + 1) 113 [.ref 8, .int p0] (hpS s) (kV K) := by
  have hq : prog[113]? = some pm113 := rfl
  refine Rn.of (L := [.ref 8, .int p0]) hq rfl rfl ?_
  unfold w_113 at k
  refine Ex.seg hq 2 (j := 2) (L' := [.ref 8, .int p0]) (S' := [.int p0, .ref 8]) (h' := hpS s) rfl ?_
  refine Ex.cl hq rfl rfl ?_
  refine Rn.mono (q_118 (d := d + 0) p0 s k) ?_
  rintro _ _ ⟨r2, s1, rfl, hzr2, rfl, k⟩
  show Ex sc (d + 1) 113 3 [.ref 8, .int p0] [.int r2] (hpS s1) _
  refine Ex.i1 hq rfl (fun c => ?_) (fun c => ?_)
  · have k := k.1 c
    exact Ex.rt hq rfl rfl ⟨s1, rfl, rfl, k⟩
  · have k := k.2 c
    refine Ex.seg hq 3 (j := 7) (L' := [.ref 8, .int p0]) (S' := [.int (150 : Int32), .int (s1.1 801)]) (h' := hpS s1) rfl ?_
    refine Ex.i2 hq rfl (fun c => ?_) (fun c => ?_)
    · have k := k.1 c
      exact Ex.rt hq rfl rfl ⟨s1, rfl, rfl, k⟩
    · have k := k.2 c
      refine Ex.seg hq 5 (j := 13) (L' := [.ref 8, .int p0]) (S' := [.int p0, .int (s1.1 801), .ref 11]) (h' := hpS s1) rfl ?_
      obtain ⟨hin, k⟩ := k
      refine Ex.ias hq rfl rfl hin (h' := hpS (sA s1 11 (upd (s1.2.1 11) ((s1.1 801)).toNatClampNeg p0))) (hset_11 _ _) ?_
      refine Ex.seg hq 5 (j := 19) (L' := [.ref 8, .int p0]) (S' := [.int (s1.1 801), .int p0, .ref 10]) (h' := hpS (sA s1 11 (upd (s1.2.1 11) ((s1.1 801)).toNatClampNeg p0))) rfl ?_
      obtain ⟨hin, k⟩ := k
      refine Ex.ias hq rfl rfl hin (h' := hpS (sA (sA s1 11 (upd (s1.2.1 11) ((s1.1 801)).toNatClampNeg p0)) 10 (upd (s1.2.1 10) (p0).toNatClampNeg (s1.1 801)))) (hset_10 _ _) ?_
      refine Ex.seg hq 6 (j := 26) (L' := [.ref 8, .int p0]) (S' := []) (h' := hpS (sA (sA (sI s1 801 ((s1.1 801) + (1 : Int32))) 11 (upd (s1.2.1 11) ((s1.1 801)).toNatClampNeg p0)) 10 (upd (s1.2.1 10) (p0).toNatClampNeg (s1.1 801)))) rfl ?_
      exact Ex.rt hq rfl rfl ⟨(sA (sA (sI s1 801 ((s1.1 801) + (1 : Int32))) 11 (upd (s1.2.1 11) ((s1.1 801)).toNatClampNeg p0)) 10 (upd (s1.2.1 10) (p0).toNatClampNeg (s1.1 801))), rfl, rfl, k⟩
/-- RowAuditor$View.dayAt(I)I -/
def w_114 (p0 : Int32) (s : ST) (K : Int32 → ST → Prop) : Prop := w_123 p0 s (fun r2 s1 => w_9 r2 (3 : Int32) s1 (fun r4 s3 => K r4 s3))
theorem q_114 {d : Nat} {K : Int32 → ST → Prop} (p0 : Int32) (s : ST) (k : w_114 p0 s K) : Rn sc (d + 1) 114 [.ref 8, .int p0] (hpS s) (kI K) := by
  have hq : prog[114]? = some pm114 := rfl
  refine Rn.of (L := [.ref 8, .int p0]) hq rfl rfl ?_
  unfold w_114 at k
  refine Ex.seg hq 4 (j := 4) (L' := [.ref 8, .int p0]) (S' := [.int p0, .ref 8, .ref 1]) (h' := hpS s) rfl ?_
  refine Ex.cl hq rfl rfl ?_
  refine Rn.mono (q_123 (d := d + 0) p0 s k) ?_
  rintro _ _ ⟨r2, s1, rfl, rfl, k⟩
  show Ex sc (d + 1) 114 5 [.ref 8, .int p0] [.int r2, .ref 1] (hpS s1) _
  refine Ex.seg hq 1 (j := 6) (L' := [.ref 8, .int p0]) (S' := [.int (3 : Int32), .int r2, .ref 1]) (h' := hpS s1) rfl ?_
  refine Ex.cl hq rfl rfl ?_
  refine Rn.mono (q_9 (d := d + 0) r2 (3 : Int32) s1 k) ?_
  rintro _ _ ⟨r4, s3, rfl, rfl, k⟩
  show Ex sc (d + 1) 114 7 [.ref 8, .int p0] [.int r4] (hpS s3) _
  exact Ex.rt hq rfl rfl ⟨r4, s3, rfl, rfl, k⟩
/-- RowAuditor$View.countRow(II)V -/
def w_116 (p0 : Int32) (p1 : Int32) (s : ST) (K : ST → Prop) : Prop := w_9 p0 (6 : Int32) s (fun r2 s1 => w_181 r2 (0 : Int32) (15 : Int32) s1 (fun r4 s3 => ((r4 = 0 → w_117 p0 s3 (fun r6 s5 => w_181 r6 (0 : Int32) ((Int32.ofNat 40) - (1 : Int32)) s5 (fun r8 s7 => ((r8 = 0 → K s7) ∧ (¬ (r8 = 0) → (pin r6 40 = true ∧ w_119 p0 s7 (fun r10 s9 => (pin r6 40 = true ∧ K (sA s9 15 (upd (s9.2.1 15) (r6).toNatClampNeg (((s7.2.1 15) (r6).toNatClampNeg) + (p1 * r10)))))))))))) ∧ (¬ (r4 = 0) → (pin r2 16 = true ∧ (pin r2 16 = true ∧ w_117 p0 (sA s3 14 (upd (s3.2.1 14) (r2).toNatClampNeg (((s3.2.1 14) (r2).toNatClampNeg) + p1))) (fun r12 s11 => w_181 r12 (0 : Int32) ((Int32.ofNat 40) - (1 : Int32)) s11 (fun r14 s13 => ((r14 = 0 → K s13) ∧ (¬ (r14 = 0) → (pin r12 40 = true ∧ w_119 p0 s13 (fun r16 s15 => (pin r12 40 = true ∧ K (sA s15 15 (upd (s15.2.1 15) (r12).toNatClampNeg (((s13.2.1 15) (r12).toNatClampNeg) + (p1 * r16)))))))))))))))))
theorem q_116 {d : Nat} {K : ST → Prop} (p0 : Int32) (p1 : Int32) (s : ST) (k : w_116 p0 p1 s K) : Rn sc (d + 2) 116 [.ref 8, .int p0, .int p1] (hpS s) (kV K) := by
  have hq : prog[116]? = some pm116 := rfl
  refine Rn.of (L := [.ref 8, .int p0, .int p1, pu, pu]) hq rfl rfl ?_
  unfold w_116 at k
  refine Ex.seg hq 4 (j := 4) (L' := [.ref 8, .int p0, .int p1, pu, pu]) (S' := [.int (6 : Int32), .int p0, .ref 1]) (h' := hpS s) rfl ?_
  refine Ex.cl hq rfl rfl ?_
  refine Rn.mono (q_9 (d := d + 1) p0 (6 : Int32) s k) ?_
  rintro _ _ ⟨r2, s1, rfl, rfl, k⟩
  show Ex sc (d + 2) 116 5 [.ref 8, .int p0, .int p1, pu, pu] [.int r2] (hpS s1) _
  refine Ex.seg hq 4 (j := 9) (L' := [.ref 8, .int p0, .int p1, .int r2, pu]) (S' := [.int (15 : Int32), .int (0 : Int32), .int r2]) (h' := hpS s1) rfl ?_
  refine Ex.cl hq rfl rfl ?_
  refine Rn.mono (q_181 (d := d + 1) r2 (0 : Int32) (15 : Int32) s1 k) ?_
  rintro _ _ ⟨r4, s3, rfl, hzr4, rfl, k⟩
  show Ex sc (d + 2) 116 10 [.ref 8, .int p0, .int p1, .int r2, pu] [.int r4] (hpS s3) _
  refine Ex.i1 hq rfl (fun c => ?_) (fun c => ?_)
  · have k := k.1 c
    refine Ex.seg hq 2 (j := 21) (L' := [.ref 8, .int p0, .int p1, .int r2, pu]) (S' := [.int p0, .ref 8]) (h' := hpS s3) rfl ?_
    refine Ex.cl hq rfl rfl ?_
    refine Rn.mono (q_117 (d := d + 0) p0 s3 k) ?_
    rintro _ _ ⟨r6, s5, rfl, rfl, k⟩
    show Ex sc (d + 2) 116 22 [.ref 8, .int p0, .int p1, .int r2, pu] [.int r6] (hpS s5) _
    refine Ex.seg hq 8 (j := 30) (L' := [.ref 8, .int p0, .int p1, .int r2, .int r6]) (S' := [.int ((Int32.ofNat 40) - (1 : Int32)), .int (0 : Int32), .int r6]) (h' := hpS s5) rfl ?_
    refine Ex.cl hq rfl rfl ?_
    refine Rn.mono (q_181 (d := d + 1) r6 (0 : Int32) ((Int32.ofNat 40) - (1 : Int32)) s5 k) ?_
    rintro _ _ ⟨r8, s7, rfl, hzr8, rfl, k⟩
    show Ex sc (d + 2) 116 31 [.ref 8, .int p0, .int p1, .int r2, .int r6] [.int r8] (hpS s7) _
    refine Ex.i1 hq rfl (fun c => ?_) (fun c => ?_)
    · have k := k.1 c
      exact Ex.rt hq rfl rfl ⟨s7, rfl, rfl, k⟩
    · have k := k.2 c
      refine Ex.seg hq 4 (j := 36) (L' := [.ref 8, .int p0, .int p1, .int r2, .int r6]) (S' := [.int r6, .ref 15, .int r6, .ref 15]) (h' := hpS s7) rfl ?_
      obtain ⟨hin, k⟩ := k
      refine Ex.ial hq rfl rfl hin ?_
      refine Ex.seg hq 3 (j := 40) (L' := [.ref 8, .int p0, .int p1, .int r2, .int r6]) (S' := [.int p0, .ref 8, .int p1, .int ((s7.2.1 15) (r6).toNatClampNeg), .int r6, .ref 15]) (h' := hpS s7) rfl ?_
      refine Ex.cl hq rfl rfl ?_
      refine Rn.mono (q_119 (d := d + 1) p0 s7 k) ?_
      rintro _ _ ⟨r10, s9, rfl, rfl, k⟩
      show Ex sc (d + 2) 116 41 [.ref 8, .int p0, .int p1, .int r2, .int r6] [.int r10, .int p1, .int ((s7.2.1 15) (r6).toNatClampNeg), .int r6, .ref 15] (hpS s9) _
      refine Ex.seg hq 2 (j := 43) (L' := [.ref 8, .int p0, .int p1, .int r2, .int r6]) (S' := [.int (((s7.2.1 15) (r6).toNatClampNeg) + (p1 * r10)), .int r6, .ref 15]) (h' := hpS s9) rfl ?_
      obtain ⟨hin, k⟩ := k
      refine Ex.ias hq rfl rfl hin (h' := hpS (sA s9 15 (upd (s9.2.1 15) (r6).toNatClampNeg (((s7.2.1 15) (r6).toNatClampNeg) + (p1 * r10))))) (hset_15 _ _) ?_
      exact Ex.rt hq rfl rfl ⟨(sA s9 15 (upd (s9.2.1 15) (r6).toNatClampNeg (((s7.2.1 15) (r6).toNatClampNeg) + (p1 * r10)))), rfl, rfl, k⟩
  · have k := k.2 c
    refine Ex.seg hq 4 (j := 15) (L' := [.ref 8, .int p0, .int p1, .int r2, pu]) (S' := [.int r2, .ref 14, .int r2, .ref 14]) (h' := hpS s3) rfl ?_
    obtain ⟨hin, k⟩ := k
    refine Ex.ial hq rfl rfl hin ?_
    refine Ex.seg hq 2 (j := 18) (L' := [.ref 8, .int p0, .int p1, .int r2, pu]) (S' := [.int (((s3.2.1 14) (r2).toNatClampNeg) + p1), .int r2, .ref 14]) (h' := hpS s3) rfl ?_
    obtain ⟨hin, k⟩ := k
    refine Ex.ias hq rfl rfl hin (h' := hpS (sA s3 14 (upd (s3.2.1 14) (r2).toNatClampNeg (((s3.2.1 14) (r2).toNatClampNeg) + p1)))) (hset_14 _ _) ?_
    refine Ex.seg hq 2 (j := 21) (L' := [.ref 8, .int p0, .int p1, .int r2, pu]) (S' := [.int p0, .ref 8]) (h' := hpS (sA s3 14 (upd (s3.2.1 14) (r2).toNatClampNeg (((s3.2.1 14) (r2).toNatClampNeg) + p1)))) rfl ?_
    refine Ex.cl hq rfl rfl ?_
    refine Rn.mono (q_117 (d := d + 0) p0 (sA s3 14 (upd (s3.2.1 14) (r2).toNatClampNeg (((s3.2.1 14) (r2).toNatClampNeg) + p1))) k) ?_
    rintro _ _ ⟨r12, s11, rfl, rfl, k⟩
    show Ex sc (d + 2) 116 22 [.ref 8, .int p0, .int p1, .int r2, pu] [.int r12] (hpS s11) _
    refine Ex.seg hq 8 (j := 30) (L' := [.ref 8, .int p0, .int p1, .int r2, .int r12]) (S' := [.int ((Int32.ofNat 40) - (1 : Int32)), .int (0 : Int32), .int r12]) (h' := hpS s11) rfl ?_
    refine Ex.cl hq rfl rfl ?_
    refine Rn.mono (q_181 (d := d + 1) r12 (0 : Int32) ((Int32.ofNat 40) - (1 : Int32)) s11 k) ?_
    rintro _ _ ⟨r14, s13, rfl, hzr14, rfl, k⟩
    show Ex sc (d + 2) 116 31 [.ref 8, .int p0, .int p1, .int r2, .int r12] [.int r14] (hpS s13) _
    refine Ex.i1 hq rfl (fun c => ?_) (fun c => ?_)
    · have k := k.1 c
      exact Ex.rt hq rfl rfl ⟨s13, rfl, rfl, k⟩
    · have k := k.2 c
      refine Ex.seg hq 4 (j := 36) (L' := [.ref 8, .int p0, .int p1, .int r2, .int r12]) (S' := [.int r12, .ref 15, .int r12, .ref 15]) (h' := hpS s13) rfl ?_
      obtain ⟨hin, k⟩ := k
      refine Ex.ial hq rfl rfl hin ?_
      refine Ex.seg hq 3 (j := 40) (L' := [.ref 8, .int p0, .int p1, .int r2, .int r12]) (S' := [.int p0, .ref 8, .int p1, .int ((s13.2.1 15) (r12).toNatClampNeg), .int r12, .ref 15]) (h' := hpS s13) rfl ?_
      refine Ex.cl hq rfl rfl ?_
      refine Rn.mono (q_119 (d := d + 1) p0 s13 k) ?_
      rintro _ _ ⟨r16, s15, rfl, rfl, k⟩
      show Ex sc (d + 2) 116 41 [.ref 8, .int p0, .int p1, .int r2, .int r12] [.int r16, .int p1, .int ((s13.2.1 15) (r12).toNatClampNeg), .int r12, .ref 15] (hpS s15) _
      refine Ex.seg hq 2 (j := 43) (L' := [.ref 8, .int p0, .int p1, .int r2, .int r12]) (S' := [.int (((s13.2.1 15) (r12).toNatClampNeg) + (p1 * r16)), .int r12, .ref 15]) (h' := hpS s15) rfl ?_
      obtain ⟨hin, k⟩ := k
      refine Ex.ias hq rfl rfl hin (h' := hpS (sA s15 15 (upd (s15.2.1 15) (r12).toNatClampNeg (((s13.2.1 15) (r12).toNatClampNeg) + (p1 * r16))))) (hset_15 _ _) ?_
      exact Ex.rt hq rfl rfl ⟨(sA s15 15 (upd (s15.2.1 15) (r12).toNatClampNeg (((s13.2.1 15) (r12).toNatClampNeg) + (p1 * r16)))), rfl, rfl, k⟩
/-- RowAuditor.now(I)Z -/
def w_127 (p0 : Int32) (s : ST) (K : Int32 → ST → Prop) : Prop := w_181 p0 (s.1 100) (3999 : Int32) s (fun r2 s1 => ((¬ r2 = 0 → K (1 : Int32) (sI s1 100 p0)) ∧ (¬ (¬ r2 = 0) → K (0 : Int32) s1)))
theorem q_127 {d : Nat} {K : Int32 → ST → Prop} (p0 : Int32) (s : ST) (k : w_127 p0 s K) : Rn sc (d + 1) 127 [.ref 0, .int p0] (hpS s) (kZ K) := by
  have hq : prog[127]? = some pm127 := rfl
  refine Rn.of (L := [.ref 0, .int p0]) hq rfl rfl ?_
  unfold w_127 at k
  refine Ex.seg hq 5 (j := 5) (L' := [.ref 0, .int p0]) (S' := [.int (3999 : Int32), .int (s.1 100), .int p0]) (h' := hpS s) rfl ?_
  refine Ex.cl hq rfl rfl ?_
  refine Rn.mono (q_181 (d := d + 0) p0 (s.1 100) (3999 : Int32) s k) ?_
  rintro _ _ ⟨r2, s1, rfl, hzr2, rfl, k⟩
  show Ex sc (d + 1) 127 6 [.ref 0, .int p0] [.int r2] (hpS s1) _
  refine Ex.i1 hq rfl (fun c => ?_) (fun c => ?_)
  · have k := k.1 c
    refine Ex.seg hq 5 (j := 14) (L' := [.ref 0, .int p0]) (S' := [.int (1 : Int32)]) (h' := hpS (sI s1 100 p0)) rfl ?_
    exact Ex.zr hq rfl rfl (Or.inr rfl) ⟨(1 : Int32), (sI s1 100 p0), rfl, (Or.inr rfl), rfl, k⟩
  · have k := k.2 c
    refine Ex.seg hq 1 (j := 8) (L' := [.ref 0, .int p0]) (S' := [.int (0 : Int32)]) (h' := hpS s1) rfl ?_
    exact Ex.zr hq rfl rfl (Or.inl rfl) ⟨(0 : Int32), s1, rfl, (Or.inl rfl), rfl, k⟩
/-- RowAuditor.house(I)I -/
def w_128 (p0 : Int32) (s : ST) (K : Int32 → ST → Prop) : Prop := w_181 p0 (0 : Int32) (1000000 : Int32) s (fun r2 s1 => ((r2 = 0 → K (-1 : Int32) s1) ∧ (¬ (r2 = 0) → (((s1.1 101) < (10 : Int32) → w_3 p0 s1 (fun r4 s3 => K r4 s3)) ∧ (¬ ((s1.1 101) < (10 : Int32)) → K (-1 : Int32) s1)))))
theorem q_128 {d : Nat} {K : Int32 → ST → Prop} (p0 : Int32) (s : ST) (k : w_128 p0 s K) : Rn sc (d + 1) 128 [.ref 0, .int p0] (hpS s) (kI K) := by
  have hq : prog[128]? = some pm128 := rfl
  refine Rn.of (L := [.ref 0, .int p0]) hq rfl rfl ?_
  unfold w_128 at k
  refine Ex.seg hq 3 (j := 3) (L' := [.ref 0, .int p0]) (S' := [.int (1000000 : Int32), .int (0 : Int32), .int p0]) (h' := hpS s) rfl ?_
  refine Ex.cl hq rfl rfl ?_
  refine Rn.mono (q_181 (d := d + 0) p0 (0 : Int32) (1000000 : Int32) s k) ?_
  rintro _ _ ⟨r2, s1, rfl, hzr2, rfl, k⟩
  show Ex sc (d + 1) 128 4 [.ref 0, .int p0] [.int r2] (hpS s1) _
  refine Ex.i1 hq rfl (fun c => ?_) (fun c => ?_)
  · have k := k.1 c
    refine Ex.seg hq 1 (j := 11) (L' := [.ref 0, .int p0]) (S' := [.int (-1 : Int32)]) (h' := hpS s1) rfl ?_
    exact Ex.rt hq rfl rfl ⟨(-1 : Int32), s1, rfl, rfl, k⟩
  · have k := k.2 c
    refine Ex.seg hq 4 (j := 9) (L' := [.ref 0, .int p0]) (S' := [.int (10 : Int32), .int (s1.1 101)]) (h' := hpS s1) rfl ?_
    refine Ex.i2 hq rfl (fun c => ?_) (fun c => ?_)
    · have k := k.1 c
      refine Ex.seg hq 3 (j := 15) (L' := [.ref 0, .int p0]) (S' := [.int p0, .ref 1]) (h' := hpS s1) rfl ?_
      refine Ex.cl hq rfl rfl ?_
      refine Rn.mono (q_3 (d := d + 0) p0 s1 k) ?_
      rintro _ _ ⟨r4, s3, rfl, rfl, k⟩
      show Ex sc (d + 1) 128 16 [.ref 0, .int p0] [.int r4] (hpS s3) _
      exact Ex.rt hq rfl rfl ⟨r4, s3, rfl, rfl, k⟩
    · have k := k.2 c
      refine Ex.seg hq 1 (j := 11) (L' := [.ref 0, .int p0]) (S' := [.int (-1 : Int32)]) (h' := hpS s1) rfl ?_
      exact Ex.rt hq rfl rfl ⟨(-1 : Int32), s1, rfl, rfl, k⟩
/-- RowAuditor.isOther(III)Z -/
def w_130 (p0 : Int32) (p1 : Int32) (p2 : Int32) (s : ST) (K : Int32 → ST → Prop) : Prop := ((¬ p0 = (3 : Int32) → ((¬ p0 = (2 : Int32) → w_181 p2 (0 : Int32) (19 : Int32) s (fun r2 s1 => K r2 s1)) ∧ (¬ (¬ p0 = (2 : Int32)) → w_1 p2 s (fun r4 s3 => ((r4 = 0 → K (0 : Int32) s3) ∧ (¬ (r4 = 0) → ((p2 = p1 → K (0 : Int32) s3) ∧ (¬ (p2 = p1) → K (1 : Int32) s3)))))))) ∧ (¬ (¬ p0 = (3 : Int32)) → ((¬ p2 = (-1 : Int32) → K (0 : Int32) s) ∧ (¬ (¬ p2 = (-1 : Int32)) → K (1 : Int32) s))))
theorem q_130 {d : Nat} {K : Int32 → ST → Prop} (p0 : Int32) (p1 : Int32) (p2 : Int32) (s : ST) (k : w_130 p0 p1 p2 s K) : Rn sc (d + 1) 130 [.ref 0, .int p0, .int p1, .int p2] (hpS s) (kZ K) := by
  have hq : prog[130]? = some pm130 := rfl
  refine Rn.of (L := [.ref 0, .int p0, .int p1, .int p2]) hq rfl rfl ?_
  unfold w_130 at k
  refine Ex.seg hq 2 (j := 2) (L' := [.ref 0, .int p0, .int p1, .int p2]) (S' := [.int (3 : Int32), .int p0]) (h' := hpS s) rfl ?_
  refine Ex.i2 hq rfl (fun c => ?_) (fun c => ?_)
  · have k := k.1 c
    refine Ex.seg hq 2 (j := 12) (L' := [.ref 0, .int p0, .int p1, .int p2]) (S' := [.int (2 : Int32), .int p0]) (h' := hpS s) rfl ?_
    refine Ex.i2 hq rfl (fun c => ?_) (fun c => ?_)
    · have k := k.1 c
      refine Ex.seg hq 3 (j := 28) (L' := [.ref 0, .int p0, .int p1, .int p2]) (S' := [.int (19 : Int32), .int (0 : Int32), .int p2]) (h' := hpS s) rfl ?_
      refine Ex.cl hq rfl rfl ?_
      refine Rn.mono (q_181 (d := d + 0) p2 (0 : Int32) (19 : Int32) s k) ?_
      rintro _ _ ⟨r2, s1, rfl, hzr2, rfl, k⟩
      show Ex sc (d + 1) 130 29 [.ref 0, .int p0, .int p1, .int p2] [.int r2] (hpS s1) _
      exact Ex.zr hq rfl rfl hzr2 ⟨r2, s1, rfl, hzr2, rfl, k⟩
    · have k := k.2 c
      refine Ex.seg hq 3 (j := 16) (L' := [.ref 0, .int p0, .int p1, .int p2]) (S' := [.int p2, .ref 1]) (h' := hpS s) rfl ?_
      refine Ex.cl hq rfl rfl ?_
      refine Rn.mono (q_1 (d := d + 0) p2 s k) ?_
      rintro _ _ ⟨r4, s3, rfl, hzr4, rfl, k⟩
      show Ex sc (d + 1) 130 17 [.ref 0, .int p0, .int p1, .int p2] [.int r4] (hpS s3) _
      refine Ex.i1 hq rfl (fun c => ?_) (fun c => ?_)
      · have k := k.1 c
        refine Ex.seg hq 1 (j := 24) (L' := [.ref 0, .int p0, .int p1, .int p2]) (S' := [.int (0 : Int32)]) (h' := hpS s3) rfl ?_
        exact Ex.zr hq rfl rfl (Or.inl rfl) ⟨(0 : Int32), s3, rfl, (Or.inl rfl), rfl, k⟩
      · have k := k.2 c
        refine Ex.seg hq 2 (j := 20) (L' := [.ref 0, .int p0, .int p1, .int p2]) (S' := [.int p1, .int p2]) (h' := hpS s3) rfl ?_
        refine Ex.i2 hq rfl (fun c => ?_) (fun c => ?_)
        · have k := k.1 c
          refine Ex.seg hq 1 (j := 24) (L' := [.ref 0, .int p0, .int p1, .int p2]) (S' := [.int (0 : Int32)]) (h' := hpS s3) rfl ?_
          exact Ex.zr hq rfl rfl (Or.inl rfl) ⟨(0 : Int32), s3, rfl, (Or.inl rfl), rfl, k⟩
        · have k := k.2 c
          refine Ex.seg hq 2 (j := 24) (L' := [.ref 0, .int p0, .int p1, .int p2]) (S' := [.int (1 : Int32)]) (h' := hpS s3) rfl ?_
          exact Ex.zr hq rfl rfl (Or.inr rfl) ⟨(1 : Int32), s3, rfl, (Or.inr rfl), rfl, k⟩
  · have k := k.2 c
    refine Ex.seg hq 2 (j := 5) (L' := [.ref 0, .int p0, .int p1, .int p2]) (S' := [.int (-1 : Int32), .int p2]) (h' := hpS s) rfl ?_
    refine Ex.i2 hq rfl (fun c => ?_) (fun c => ?_)
    · have k := k.1 c
      refine Ex.seg hq 1 (j := 9) (L' := [.ref 0, .int p0, .int p1, .int p2]) (S' := [.int (0 : Int32)]) (h' := hpS s) rfl ?_
      exact Ex.zr hq rfl rfl (Or.inl rfl) ⟨(0 : Int32), s, rfl, (Or.inl rfl), rfl, k⟩
    · have k := k.2 c
      refine Ex.seg hq 2 (j := 9) (L' := [.ref 0, .int p0, .int p1, .int p2]) (S' := [.int (1 : Int32)]) (h' := hpS s) rfl ?_
      exact Ex.zr hq rfl rfl (Or.inr rfl) ⟨(1 : Int32), s, rfl, (Or.inr rfl), rfl, k⟩
/-- RowAuditor.feed(IIIII)I -/
def w_134 (p0 : Int32) (p1 : Int32) (p2 : Int32) (p3 : Int32) (p4 : Int32) (s : ST) (K : Int32 → ST → Prop) : Prop := ((((s.1 7) + (20 : Int32)) ≤ (200 : Int32) → w_135 p0 s (fun s1 => w_135 p1 s1 (fun s3 => w_135 p2 s3 (fun s5 => w_135 p3 s5 (fun s7 => w_135 p4 s7 (fun s9 => K (s9.1 7) s9)))))) ∧ (¬ (((s.1 7) + (20 : Int32)) ≤ (200 : Int32)) → K (-1 : Int32) s))
theorem q_134 {d : Nat} {K : Int32 → ST → Prop} (p0 : Int32) (p1 : Int32) (p2 : Int32) (p3 : Int32) (p4 : Int32) (s : ST) (k : w_134 p0 p1 p2 p3 p4 s K) : Rn sc (d + 1) 134 [.ref 0, .int p0, .int p1, .int p2, .int p3, .int p4] (hpS s) (kI K) := by
  have hq : prog[134]? = some pm134 := rfl
  refine Rn.of (L := [.ref 0, .int p0, .int p1, .int p2, .int p3, .int p4]) hq rfl rfl ?_
  unfold w_134 at k
  refine Ex.seg hq 5 (j := 5) (L' := [.ref 0, .int p0, .int p1, .int p2, .int p3, .int p4]) (S' := [.int (200 : Int32), .int ((s.1 7) + (20 : Int32))]) (h' := hpS s) rfl ?_
  refine Ex.i2 hq rfl (fun c => ?_) (fun c => ?_)
  · have k := k.1 c
    refine Ex.seg hq 2 (j := 10) (L' := [.ref 0, .int p0, .int p1, .int p2, .int p3, .int p4]) (S' := [.int p0, .ref 0]) (h' := hpS s) rfl ?_
    refine Ex.cl hq rfl rfl ?_
    refine Rn.mono (q_135 (d := d + 0) p0 s k) ?_
    rintro _ _ ⟨s1, rfl, rfl, k⟩
    show Ex sc (d + 1) 134 11 [.ref 0, .int p0, .int p1, .int p2, .int p3, .int p4] [] (hpS s1) _
    refine Ex.seg hq 2 (j := 13) (L' := [.ref 0, .int p0, .int p1, .int p2, .int p3, .int p4]) (S' := [.int p1, .ref 0]) (h' := hpS s1) rfl ?_
    refine Ex.cl hq rfl rfl ?_
    refine Rn.mono (q_135 (d := d + 0) p1 s1 k) ?_
    rintro _ _ ⟨s3, rfl, rfl, k⟩
    show Ex sc (d + 1) 134 14 [.ref 0, .int p0, .int p1, .int p2, .int p3, .int p4] [] (hpS s3) _
    refine Ex.seg hq 2 (j := 16) (L' := [.ref 0, .int p0, .int p1, .int p2, .int p3, .int p4]) (S' := [.int p2, .ref 0]) (h' := hpS s3) rfl ?_
    refine Ex.cl hq rfl rfl ?_
    refine Rn.mono (q_135 (d := d + 0) p2 s3 k) ?_
    rintro _ _ ⟨s5, rfl, rfl, k⟩
    show Ex sc (d + 1) 134 17 [.ref 0, .int p0, .int p1, .int p2, .int p3, .int p4] [] (hpS s5) _
    refine Ex.seg hq 2 (j := 19) (L' := [.ref 0, .int p0, .int p1, .int p2, .int p3, .int p4]) (S' := [.int p3, .ref 0]) (h' := hpS s5) rfl ?_
    refine Ex.cl hq rfl rfl ?_
    refine Rn.mono (q_135 (d := d + 0) p3 s5 k) ?_
    rintro _ _ ⟨s7, rfl, rfl, k⟩
    show Ex sc (d + 1) 134 20 [.ref 0, .int p0, .int p1, .int p2, .int p3, .int p4] [] (hpS s7) _
    refine Ex.seg hq 2 (j := 22) (L' := [.ref 0, .int p0, .int p1, .int p2, .int p3, .int p4]) (S' := [.int p4, .ref 0]) (h' := hpS s7) rfl ?_
    refine Ex.cl hq rfl rfl ?_
    refine Rn.mono (q_135 (d := d + 0) p4 s7 k) ?_
    rintro _ _ ⟨s9, rfl, rfl, k⟩
    show Ex sc (d + 1) 134 23 [.ref 0, .int p0, .int p1, .int p2, .int p3, .int p4] [] (hpS s9) _
    refine Ex.seg hq 2 (j := 25) (L' := [.ref 0, .int p0, .int p1, .int p2, .int p3, .int p4]) (S' := [.int (s9.1 7)]) (h' := hpS s9) rfl ?_
    exact Ex.rt hq rfl rfl ⟨(s9.1 7), s9, rfl, rfl, k⟩
  · have k := k.2 c
    refine Ex.seg hq 1 (j := 7) (L' := [.ref 0, .int p0, .int p1, .int p2, .int p3, .int p4]) (S' := [.int (-1 : Int32)]) (h' := hpS s) rfl ?_
    exact Ex.rt hq rfl rfl ⟨(-1 : Int32), s, rfl, rfl, k⟩
/-- RowAuditor.hasTaped(II)Z -/
def w_136 (p0 : Int32) (p1 : Int32) (s : ST) (K : Int32 → ST → Prop) : Prop := w_181 p0 (1 : Int32) p1 s (fun r2 s1 => ((r2 = 0 → K (0 : Int32) s1) ∧ (¬ (r2 = 0) → (((s1.1 7) < p0 → K (0 : Int32) s1) ∧ (¬ ((s1.1 7) < p0) → K (1 : Int32) s1)))))
theorem q_136 {d : Nat} {K : Int32 → ST → Prop} (p0 : Int32) (p1 : Int32) (s : ST) (k : w_136 p0 p1 s K) : Rn sc (d + 1) 136 [.ref 0, .int p0, .int p1] (hpS s) (kZ K) := by
  have hq : prog[136]? = some pm136 := rfl
  refine Rn.of (L := [.ref 0, .int p0, .int p1]) hq rfl rfl ?_
  unfold w_136 at k
  refine Ex.seg hq 3 (j := 3) (L' := [.ref 0, .int p0, .int p1]) (S' := [.int p1, .int (1 : Int32), .int p0]) (h' := hpS s) rfl ?_
  refine Ex.cl hq rfl rfl ?_
  refine Rn.mono (q_181 (d := d + 0) p0 (1 : Int32) p1 s k) ?_
  rintro _ _ ⟨r2, s1, rfl, hzr2, rfl, k⟩
  show Ex sc (d + 1) 136 4 [.ref 0, .int p0, .int p1] [.int r2] (hpS s1) _
  refine Ex.i1 hq rfl (fun c => ?_) (fun c => ?_)
  · have k := k.1 c
    refine Ex.seg hq 1 (j := 12) (L' := [.ref 0, .int p0, .int p1]) (S' := [.int (0 : Int32)]) (h' := hpS s1) rfl ?_
    exact Ex.zr hq rfl rfl (Or.inl rfl) ⟨(0 : Int32), s1, rfl, (Or.inl rfl), rfl, k⟩
  · have k := k.2 c
    refine Ex.seg hq 3 (j := 8) (L' := [.ref 0, .int p0, .int p1]) (S' := [.int (s1.1 7), .int p0]) (h' := hpS s1) rfl ?_
    refine Ex.i2 hq rfl (fun c => ?_) (fun c => ?_)
    · have k := k.1 c
      refine Ex.seg hq 1 (j := 12) (L' := [.ref 0, .int p0, .int p1]) (S' := [.int (0 : Int32)]) (h' := hpS s1) rfl ?_
      exact Ex.zr hq rfl rfl (Or.inl rfl) ⟨(0 : Int32), s1, rfl, (Or.inl rfl), rfl, k⟩
    · have k := k.2 c
      refine Ex.seg hq 2 (j := 12) (L' := [.ref 0, .int p0, .int p1]) (S' := [.int (1 : Int32)]) (h' := hpS s1) rfl ?_
      exact Ex.zr hq rfl rfl (Or.inr rfl) ⟨(1 : Int32), s1, rfl, (Or.inr rfl), rfl, k⟩
/-- RowAuditor.clear(II)Z -/
def w_140 (p0 : Int32) (p1 : Int32) (s : ST) (K : Int32 → ST → Prop) : Prop := w_2 p0 s (fun r2 s1 => ((r2 = 0 → K (0 : Int32) s1) ∧ (¬ (r2 = 0) → w_183 p1 s1 (fun r4 s3 => ((r4 = 0 → K (0 : Int32) s3) ∧ (¬ (r4 = 0) → w_9 p0 (10 : Int32) s3 (fun r6 s5 => ((r6 = (-1 : Int32) → w_10 p0 s5 (fun s7 => K (1 : Int32) s7)) ∧ (¬ (r6 = (-1 : Int32)) → K (0 : Int32) s5)))))))))
theorem q_140 {d : Nat} {K : Int32 → ST → Prop} (p0 : Int32) (p1 : Int32) (s : ST) (k : w_140 p0 p1 s K) : Rn sc (d + 2) 140 [.ref 0, .int p0, .int p1] (hpS s) (kZ K) := by
  have hq : prog[140]? = some pm140 := rfl
  refine Rn.of (L := [.ref 0, .int p0, .int p1]) hq rfl rfl ?_
  unfold w_140 at k
  refine Ex.seg hq 3 (j := 3) (L' := [.ref 0, .int p0, .int p1]) (S' := [.int p0, .ref 1]) (h' := hpS s) rfl ?_
  refine Ex.cl hq rfl rfl ?_
  refine Rn.mono (q_2 (d := d + 1) p0 s k) ?_
  rintro _ _ ⟨r2, s1, rfl, hzr2, rfl, k⟩
  show Ex sc (d + 2) 140 4 [.ref 0, .int p0, .int p1] [.int r2] (hpS s1) _
  refine Ex.i1 hq rfl (fun c => ?_) (fun c => ?_)
  · have k := k.1 c
    refine Ex.seg hq 1 (j := 16) (L' := [.ref 0, .int p0, .int p1]) (S' := [.int (0 : Int32)]) (h' := hpS s1) rfl ?_
    exact Ex.zr hq rfl rfl (Or.inl rfl) ⟨(0 : Int32), s1, rfl, (Or.inl rfl), rfl, k⟩
  · have k := k.2 c
    refine Ex.seg hq 1 (j := 6) (L' := [.ref 0, .int p0, .int p1]) (S' := [.int p1]) (h' := hpS s1) rfl ?_
    refine Ex.cl hq rfl rfl ?_
    refine Rn.mono (q_183 (d := d + 0) p1 s1 k) ?_
    rintro _ _ ⟨r4, s3, rfl, hzr4, rfl, k⟩
    show Ex sc (d + 2) 140 7 [.ref 0, .int p0, .int p1] [.int r4] (hpS s3) _
    refine Ex.i1 hq rfl (fun c => ?_) (fun c => ?_)
    · have k := k.1 c
      refine Ex.seg hq 1 (j := 16) (L' := [.ref 0, .int p0, .int p1]) (S' := [.int (0 : Int32)]) (h' := hpS s3) rfl ?_
      exact Ex.zr hq rfl rfl (Or.inl rfl) ⟨(0 : Int32), s3, rfl, (Or.inl rfl), rfl, k⟩
    · have k := k.2 c
      refine Ex.seg hq 4 (j := 12) (L' := [.ref 0, .int p0, .int p1]) (S' := [.int (10 : Int32), .int p0, .ref 1]) (h' := hpS s3) rfl ?_
      refine Ex.cl hq rfl rfl ?_
      refine Rn.mono (q_9 (d := d + 1) p0 (10 : Int32) s3 k) ?_
      rintro _ _ ⟨r6, s5, rfl, rfl, k⟩
      show Ex sc (d + 2) 140 13 [.ref 0, .int p0, .int p1] [.int r6] (hpS s5) _
      refine Ex.seg hq 1 (j := 14) (L' := [.ref 0, .int p0, .int p1]) (S' := [.int (-1 : Int32), .int r6]) (h' := hpS s5) rfl ?_
      refine Ex.i2 hq rfl (fun c => ?_) (fun c => ?_)
      · have k := k.1 c
        refine Ex.seg hq 3 (j := 20) (L' := [.ref 0, .int p0, .int p1]) (S' := [.int p0, .ref 1]) (h' := hpS s5) rfl ?_
        refine Ex.cl hq rfl rfl ?_
        refine Rn.mono (q_10 (d := d + 0) p0 s5 k) ?_
        rintro _ _ ⟨s7, rfl, rfl, k⟩
        show Ex sc (d + 2) 140 21 [.ref 0, .int p0, .int p1] [] (hpS s7) _
        refine Ex.seg hq 1 (j := 22) (L' := [.ref 0, .int p0, .int p1]) (S' := [.int (1 : Int32)]) (h' := hpS s7) rfl ?_
        exact Ex.zr hq rfl rfl (Or.inr rfl) ⟨(1 : Int32), s7, rfl, (Or.inr rfl), rfl, k⟩
      · have k := k.2 c
        refine Ex.seg hq 1 (j := 16) (L' := [.ref 0, .int p0, .int p1]) (S' := [.int (0 : Int32)]) (h' := hpS s5) rfl ?_
        exact Ex.zr hq rfl rfl (Or.inl rfl) ⟨(0 : Int32), s5, rfl, (Or.inl rfl), rfl, k⟩
def w_146_4 : Nat → Int32 → Int32 → Int32 → Int32 → ST → (Int32 → ST → Prop) → (Int32 → ST → Prop) → Prop
  | 0, _, _, _, _, _, _, _ => False
  | n + 1, x1, x2, x3, x4, s, X26, K => ((x2 ≤ x4 → X26 x3 s) ∧ (¬ (x2 ≤ x4) → (((200 : Int32) ≤ x4 → X26 x3 s) ∧ (¬ ((200 : Int32) ≤ x4) → w_184 x4 x1 s (fun r2 s1 => ((r2 = 0 → w_146_4 n x1 x2 x3 (x4 + (1 : Int32)) s1 X26 K) ∧ (¬ (r2 = 0) → (pin x4 200 = true ∧ w_119 ((s1.2.1 27) (x4).toNatClampNeg) s1 (fun r4 s3 => w_146_4 n x1 x2 (x3 + r4) (x4 + (1 : Int32)) s3 X26 K)))))))))
theorem q_146_4 {d : Nat} {X26 : Int32 → ST → Prop} {K : Int32 → ST → Prop} : ∀ (n : Nat) (x1 : Int32) (x2 : Int32) (x3 : Int32) (x4 : Int32) (s : ST), w_146_4 n x1 x2 x3 x4 s X26 K → (∀ (y3 : Int32) (s : ST), X26 y3 s → Ex sc (d + 1) 146 26 [pu, pu, pu, .int y3, pu] [] (hpS s) (kI K)) → Ex sc (d + 1) 146 4 [.ref 0, .int x1, .int x2, .int x3, .int x4] [] (hpS s) (kI K) := by
  have hq : prog[146]? = some pm146 := rfl
  intro n
  induction n with
  | zero =>
    intro x1 x2 x3 x4 s k
    exact k.elim
  | succ n ih =>
    intro x1 x2 x3 x4 s k hX26
    rw [w_146_4] at k
    refine Ex.seg hq 2 (j := 6) (L' := [.ref 0, .int x1, .int x2, .int x3, .int x4]) (S' := [.int x2, .int x4]) (h' := hpS s) rfl ?_
    refine Ex.i2 hq rfl (fun c => ?_) (fun c => ?_)
    · have k := k.1 c
      refine Ex.fg (L := [pu, pu, pu, .int x3, pu]) ⟨Or.inr ⟨rfl, rfl⟩, ⟨Or.inr ⟨rfl, rfl⟩, ⟨Or.inr ⟨rfl, rfl⟩, ⟨Or.inl rfl, ⟨Or.inr ⟨rfl, rfl⟩, trivial⟩⟩⟩⟩⟩ ?_
      exact hX26 x3 s k
    · have k := k.2 c
      refine Ex.seg hq 2 (j := 9) (L' := [.ref 0, .int x1, .int x2, .int x3, .int x4]) (S' := [.int (200 : Int32), .int x4]) (h' := hpS s) rfl ?_
      refine Ex.i2 hq rfl (fun c => ?_) (fun c => ?_)
      · have k := k.1 c
        refine Ex.fg (L := [pu, pu, pu, .int x3, pu]) ⟨Or.inr ⟨rfl, rfl⟩, ⟨Or.inr ⟨rfl, rfl⟩, ⟨Or.inr ⟨rfl, rfl⟩, ⟨Or.inl rfl, ⟨Or.inr ⟨rfl, rfl⟩, trivial⟩⟩⟩⟩⟩ ?_
        exact hX26 x3 s k
      · have k := k.2 c
        refine Ex.seg hq 2 (j := 12) (L' := [.ref 0, .int x1, .int x2, .int x3, .int x4]) (S' := [.int x1, .int x4]) (h' := hpS s) rfl ?_
        refine Ex.cl hq rfl rfl ?_
        refine Rn.mono (q_184 (d := d + 0) x4 x1 s k) ?_
        rintro _ _ ⟨r2, s1, rfl, hzr2, rfl, k⟩
        show Ex sc (d + 1) 146 13 [.ref 0, .int x1, .int x2, .int x3, .int x4] [.int r2] (hpS s1) _
        refine Ex.i1 hq rfl (fun c => ?_) (fun c => ?_)
        · have k := k.1 c
          refine Ex.seg hq 2 (j := 4) (L' := [.ref 0, .int x1, .int x2, .int x3, .int (x4 + (1 : Int32))]) (S' := []) (h' := hpS s1) rfl ?_
          exact ih x1 x2 x3 (x4 + (1 : Int32)) s1 k hX26
        · have k := k.2 c
          refine Ex.seg hq 6 (j := 20) (L' := [.ref 0, .int x1, .int x2, .int x3, .int x4]) (S' := [.int x4, .ref 27, .ref 8, .int x3]) (h' := hpS s1) rfl ?_
          obtain ⟨hin, k⟩ := k
          refine Ex.ial hq rfl rfl hin ?_
          refine Ex.cl hq rfl rfl ?_
          refine Rn.mono (q_119 (d := d + 0) ((s1.2.1 27) (x4).toNatClampNeg) s1 k) ?_
          rintro _ _ ⟨r4, s3, rfl, rfl, k⟩
          show Ex sc (d + 1) 146 22 [.ref 0, .int x1, .int x2, .int x3, .int x4] [.int r4, .int x3] (hpS s3) _
          refine Ex.seg hq 4 (j := 4) (L' := [.ref 0, .int x1, .int x2, .int (x3 + r4), .int (x4 + (1 : Int32))]) (S' := []) (h' := hpS s3) rfl ?_
          exact ih x1 x2 (x3 + r4) (x4 + (1 : Int32)) s3 k hX26
/-- RowAuditor.tapedSum(II)I -/
def w_146 (p0 : Int32) (p1 : Int32) (s : ST) (K : Int32 → ST → Prop) : Prop := (∃ m, w_146_4 m p0 p1 (0 : Int32) (0 : Int32) s (fun y3 s5 => K y3 s5) K)
theorem q_146 {d : Nat} {K : Int32 → ST → Prop} (p0 : Int32) (p1 : Int32) (s : ST) (k : w_146 p0 p1 s K) : Rn sc (d + 1) 146 [.ref 0, .int p0, .int p1] (hpS s) (kI K) := by
  have hq : prog[146]? = some pm146 := rfl
  refine Rn.of (L := [.ref 0, .int p0, .int p1, pu, pu]) hq rfl rfl ?_
  unfold w_146 at k
  refine Ex.seg hq 4 (j := 4) (L' := [.ref 0, .int p0, .int p1, .int (0 : Int32), .int (0 : Int32)]) (S' := []) (h' := hpS s) rfl ?_
  obtain ⟨m, k⟩ := k
  refine q_146_4 (d := d) m p0 p1 (0 : Int32) (0 : Int32) s k ?_
  · intro y3 s5 k
    refine Ex.seg hq 1 (j := 27) (L' := [pu, pu, pu, .int y3, pu]) (S' := [.int y3]) (h' := hpS s5) rfl ?_
    exact Ex.rt hq rfl rfl ⟨y3, s5, rfl, rfl, k⟩
end WP
