/-! ===== weakest preconditions, printed by wip/whole/genwp.py ===== -/
section WP
variable {sc : Nat × (Nat → Int32)}
/-- RowAuditor$Laws.isFinding(I)Z -/
def w_56 (p1 : Int32) (s : ST) (K : Int32 → ST → Prop) : Prop := w_9 p1 (10 : Int32) s (fun r2 s1 => ((r2 = (-1 : Int32) → w_118 p1 s1 (fun r4 s3 => ((r4 = 0 → K (0 : Int32) s3) ∧ (¬ (r4 = 0) → ((¬ (0 : Int32) = 0 → K (0 : Int32) s3) ∧ (¬ (¬ (0 : Int32) = 0) → w_53 p1 s3 (fun r6 s5 => ((r6 = (-2 : Int32) → K (0 : Int32) s5) ∧ (¬ (r6 = (-2 : Int32)) → K (1 : Int32) s5))))))))) ∧ (¬ (r2 = (-1 : Int32)) → (((s1.1 800) < r2 → w_118 p1 s1 (fun r8 s7 => ((r8 = 0 → K (0 : Int32) s7) ∧ (¬ (r8 = 0) → ((¬ (0 : Int32) = 0 → K (0 : Int32) s7) ∧ (¬ (¬ (0 : Int32) = 0) → w_53 p1 s7 (fun r10 s9 => ((r10 = (-2 : Int32) → K (0 : Int32) s9) ∧ (¬ (r10 = (-2 : Int32)) → K (1 : Int32) s9))))))))) ∧ (¬ ((s1.1 800) < r2) → w_118 p1 s1 (fun r12 s11 => ((r12 = 0 → K (0 : Int32) s11) ∧ (¬ (r12 = 0) → ((¬ (1 : Int32) = 0 → K (0 : Int32) s11) ∧ (¬ (¬ (1 : Int32) = 0) → w_53 p1 s11 (fun r14 s13 => ((r14 = (-2 : Int32) → K (0 : Int32) s13) ∧ (¬ (r14 = (-2 : Int32)) → K (1 : Int32) s13)))))))))))))
theorem q_56 {d : Nat} {K : Int32 → ST → Prop} (p1 : Int32) (s : ST) (k : w_56 p1 s K) : Rn sc (d + 5) 56 [.ref 19, .int p1] (hpS s) (kZ K) := by
  have hq : prog[56]? = some pm56 := rfl
  refine Rn.of (L := [.ref 19, .int p1, pu, pu]) hq rfl rfl ?_
  unfold w_56 at k
  refine Ex.seg hq 4 (j := 4) (L' := [.ref 19, .int p1, pu, pu]) (S' := [.int (10 : Int32), .int p1, .ref 1]) (h' := hpS s) rfl ?_
  refine Ex.cl hq rfl rfl ?_
  refine Rn.mono (q_9 (d := d + 4) p1 (10 : Int32) s k) ?_
  rintro _ _ ⟨r2, s1, rfl, rfl, k⟩
  show Ex sc (d + 5) 56 5 [.ref 19, .int p1, pu, pu] [.int r2] (hpS s1) _
  refine Ex.seg hq 3 (j := 8) (L' := [.ref 19, .int p1, .int r2, pu]) (S' := [.int (-1 : Int32), .int r2]) (h' := hpS s1) rfl ?_
  refine Ex.i2 hq rfl (fun c => ?_) (fun c => ?_)
  · have k := k.1 c
    refine Ex.seg hq 5 (j := 21) (L' := [.ref 19, .int p1, .int r2, .int (0 : Int32)]) (S' := [.int p1, .ref 8]) (h' := hpS s1) rfl ?_
    refine Ex.cl hq rfl rfl ?_
    refine Rn.mono (q_118 (d := d + 4) p1 s1 k) ?_
    rintro _ _ ⟨r4, s3, rfl, hzr4, rfl, k⟩
    show Ex sc (d + 5) 56 22 [.ref 19, .int p1, .int r2, .int (0 : Int32)] [.int r4] (hpS s3) _
    refine Ex.i1 hq rfl (fun c => ?_) (fun c => ?_)
    · have k := k.1 c
      refine Ex.seg hq 1 (j := 33) (L' := [.ref 19, .int p1, .int r2, .int (0 : Int32)]) (S' := [.int (0 : Int32)]) (h' := hpS s3) rfl ?_
      exact Ex.zr hq rfl rfl (Or.inl rfl) ⟨(0 : Int32), s3, rfl, (Or.inl rfl), rfl, k⟩
    · have k := k.2 c
      refine Ex.seg hq 1 (j := 24) (L' := [.ref 19, .int p1, .int r2, .int (0 : Int32)]) (S' := [.int (0 : Int32)]) (h' := hpS s3) rfl ?_
      refine Ex.i1 hq rfl (fun c => ?_) (fun c => ?_)
      · have k := k.1 c
        refine Ex.seg hq 1 (j := 33) (L' := [.ref 19, .int p1, .int r2, .int (0 : Int32)]) (S' := [.int (0 : Int32)]) (h' := hpS s3) rfl ?_
        exact Ex.zr hq rfl rfl (Or.inl rfl) ⟨(0 : Int32), s3, rfl, (Or.inl rfl), rfl, k⟩
      · have k := k.2 c
        refine Ex.seg hq 2 (j := 27) (L' := [.ref 19, .int p1, .int r2, .int (0 : Int32)]) (S' := [.int p1, .ref 19]) (h' := hpS s3) rfl ?_
        refine Ex.cl hq rfl rfl ?_
        refine Rn.mono (q_53 (d := d + 0) p1 s3 k) ?_
        rintro _ _ ⟨r6, s5, rfl, rfl, k⟩
        show Ex sc (d + 5) 56 28 [.ref 19, .int p1, .int r2, .int (0 : Int32)] [.int r6] (hpS s5) _
        refine Ex.seg hq 1 (j := 29) (L' := [.ref 19, .int p1, .int r2, .int (0 : Int32)]) (S' := [.int (-2 : Int32), .int r6]) (h' := hpS s5) rfl ?_
        refine Ex.i2 hq rfl (fun c => ?_) (fun c => ?_)
        · have k := k.1 c
          refine Ex.seg hq 1 (j := 33) (L' := [.ref 19, .int p1, .int r2, .int (0 : Int32)]) (S' := [.int (0 : Int32)]) (h' := hpS s5) rfl ?_
          exact Ex.zr hq rfl rfl (Or.inl rfl) ⟨(0 : Int32), s5, rfl, (Or.inl rfl), rfl, k⟩
        · have k := k.2 c
          refine Ex.seg hq 2 (j := 33) (L' := [.ref 19, .int p1, .int r2, .int (0 : Int32)]) (S' := [.int (1 : Int32)]) (h' := hpS s5) rfl ?_
          exact Ex.zr hq rfl rfl (Or.inr rfl) ⟨(1 : Int32), s5, rfl, (Or.inr rfl), rfl, k⟩
  · have k := k.2 c
    refine Ex.seg hq 4 (j := 13) (L' := [.ref 19, .int p1, .int r2, pu]) (S' := [.int (s1.1 800), .int r2]) (h' := hpS s1) rfl ?_
    refine Ex.i2 hq rfl (fun c => ?_) (fun c => ?_)
    · have k := k.1 c
      refine Ex.seg hq 5 (j := 21) (L' := [.ref 19, .int p1, .int r2, .int (0 : Int32)]) (S' := [.int p1, .ref 8]) (h' := hpS s1) rfl ?_
      refine Ex.cl hq rfl rfl ?_
      refine Rn.mono (q_118 (d := d + 4) p1 s1 k) ?_
      rintro _ _ ⟨r8, s7, rfl, hzr8, rfl, k⟩
      show Ex sc (d + 5) 56 22 [.ref 19, .int p1, .int r2, .int (0 : Int32)] [.int r8] (hpS s7) _
      refine Ex.i1 hq rfl (fun c => ?_) (fun c => ?_)
      · have k := k.1 c
        refine Ex.seg hq 1 (j := 33) (L' := [.ref 19, .int p1, .int r2, .int (0 : Int32)]) (S' := [.int (0 : Int32)]) (h' := hpS s7) rfl ?_
        exact Ex.zr hq rfl rfl (Or.inl rfl) ⟨(0 : Int32), s7, rfl, (Or.inl rfl), rfl, k⟩
      · have k := k.2 c
        refine Ex.seg hq 1 (j := 24) (L' := [.ref 19, .int p1, .int r2, .int (0 : Int32)]) (S' := [.int (0 : Int32)]) (h' := hpS s7) rfl ?_
        refine Ex.i1 hq rfl (fun c => ?_) (fun c => ?_)
        · have k := k.1 c
          refine Ex.seg hq 1 (j := 33) (L' := [.ref 19, .int p1, .int r2, .int (0 : Int32)]) (S' := [.int (0 : Int32)]) (h' := hpS s7) rfl ?_
          exact Ex.zr hq rfl rfl (Or.inl rfl) ⟨(0 : Int32), s7, rfl, (Or.inl rfl), rfl, k⟩
        · have k := k.2 c
          refine Ex.seg hq 2 (j := 27) (L' := [.ref 19, .int p1, .int r2, .int (0 : Int32)]) (S' := [.int p1, .ref 19]) (h' := hpS s7) rfl ?_
          refine Ex.cl hq rfl rfl ?_
          refine Rn.mono (q_53 (d := d + 0) p1 s7 k) ?_
          rintro _ _ ⟨r10, s9, rfl, rfl, k⟩
          show Ex sc (d + 5) 56 28 [.ref 19, .int p1, .int r2, .int (0 : Int32)] [.int r10] (hpS s9) _
          refine Ex.seg hq 1 (j := 29) (L' := [.ref 19, .int p1, .int r2, .int (0 : Int32)]) (S' := [.int (-2 : Int32), .int r10]) (h' := hpS s9) rfl ?_
          refine Ex.i2 hq rfl (fun c => ?_) (fun c => ?_)
          · have k := k.1 c
            refine Ex.seg hq 1 (j := 33) (L' := [.ref 19, .int p1, .int r2, .int (0 : Int32)]) (S' := [.int (0 : Int32)]) (h' := hpS s9) rfl ?_
            exact Ex.zr hq rfl rfl (Or.inl rfl) ⟨(0 : Int32), s9, rfl, (Or.inl rfl), rfl, k⟩
          · have k := k.2 c
            refine Ex.seg hq 2 (j := 33) (L' := [.ref 19, .int p1, .int r2, .int (0 : Int32)]) (S' := [.int (1 : Int32)]) (h' := hpS s9) rfl ?_
            exact Ex.zr hq rfl rfl (Or.inr rfl) ⟨(1 : Int32), s9, rfl, (Or.inr rfl), rfl, k⟩
    · have k := k.2 c
      refine Ex.seg hq 6 (j := 21) (L' := [.ref 19, .int p1, .int r2, .int (1 : Int32)]) (S' := [.int p1, .ref 8]) (h' := hpS s1) rfl ?_
      refine Ex.cl hq rfl rfl ?_
      refine Rn.mono (q_118 (d := d + 4) p1 s1 k) ?_
      rintro _ _ ⟨r12, s11, rfl, hzr12, rfl, k⟩
      show Ex sc (d + 5) 56 22 [.ref 19, .int p1, .int r2, .int (1 : Int32)] [.int r12] (hpS s11) _
      refine Ex.i1 hq rfl (fun c => ?_) (fun c => ?_)
      · have k := k.1 c
        refine Ex.seg hq 1 (j := 33) (L' := [.ref 19, .int p1, .int r2, .int (1 : Int32)]) (S' := [.int (0 : Int32)]) (h' := hpS s11) rfl ?_
        exact Ex.zr hq rfl rfl (Or.inl rfl) ⟨(0 : Int32), s11, rfl, (Or.inl rfl), rfl, k⟩
      · have k := k.2 c
        refine Ex.seg hq 1 (j := 24) (L' := [.ref 19, .int p1, .int r2, .int (1 : Int32)]) (S' := [.int (1 : Int32)]) (h' := hpS s11) rfl ?_
        refine Ex.i1 hq rfl (fun c => ?_) (fun c => ?_)
        · have k := k.1 c
          refine Ex.seg hq 1 (j := 33) (L' := [.ref 19, .int p1, .int r2, .int (1 : Int32)]) (S' := [.int (0 : Int32)]) (h' := hpS s11) rfl ?_
          exact Ex.zr hq rfl rfl (Or.inl rfl) ⟨(0 : Int32), s11, rfl, (Or.inl rfl), rfl, k⟩
        · have k := k.2 c
          refine Ex.seg hq 2 (j := 27) (L' := [.ref 19, .int p1, .int r2, .int (1 : Int32)]) (S' := [.int p1, .ref 19]) (h' := hpS s11) rfl ?_
          refine Ex.cl hq rfl rfl ?_
          refine Rn.mono (q_53 (d := d + 0) p1 s11 k) ?_
          rintro _ _ ⟨r14, s13, rfl, rfl, k⟩
          show Ex sc (d + 5) 56 28 [.ref 19, .int p1, .int r2, .int (1 : Int32)] [.int r14] (hpS s13) _
          refine Ex.seg hq 1 (j := 29) (L' := [.ref 19, .int p1, .int r2, .int (1 : Int32)]) (S' := [.int (-2 : Int32), .int r14]) (h' := hpS s13) rfl ?_
          refine Ex.i2 hq rfl (fun c => ?_) (fun c => ?_)
          · have k := k.1 c
            refine Ex.seg hq 1 (j := 33) (L' := [.ref 19, .int p1, .int r2, .int (1 : Int32)]) (S' := [.int (0 : Int32)]) (h' := hpS s13) rfl ?_
            exact Ex.zr hq rfl rfl (Or.inl rfl) ⟨(0 : Int32), s13, rfl, (Or.inl rfl), rfl, k⟩
          · have k := k.2 c
            refine Ex.seg hq 2 (j := 33) (L' := [.ref 19, .int p1, .int r2, .int (1 : Int32)]) (S' := [.int (1 : Int32)]) (h' := hpS s13) rfl ?_
            exact Ex.zr hq rfl rfl (Or.inr rfl) ⟨(1 : Int32), s13, rfl, (Or.inr rfl), rfl, k⟩
def w_57_L4 : Nat → Int32 → Int32 → ST → (Int32 → ST → Prop) → (Int32 → ST → Prop) → Prop
  | 0, _, _, _, _, _ => False
  | n + 1, x1, x2, s, X19, K => (((s.1 801) ≤ x2 → X19 x1 s) ∧ (¬ ((s.1 801) ≤ x2) → w_123 x2 s (fun r2 s1 => w_56 r2 s1 (fun r4 s3 => ((r4 = 0 → w_57_L4 n x1 (x2 + (1 : Int32)) s3 X19 K) ∧ (¬ (r4 = 0) → w_57_L4 n (x1 + (1 : Int32)) (x2 + (1 : Int32)) s3 X19 K))))))
theorem q_57_L4 {d : Nat} {X19 : Int32 → ST → Prop} {K : Int32 → ST → Prop} : ∀ (n : Nat) (x1 : Int32) (x2 : Int32) (s : ST), w_57_L4 n x1 x2 s X19 K → (∀ (y1 : Int32) (s : ST), X19 y1 s → Ex sc (d + 6) 57 19 [pu, .int y1, pu] [] (hpS s) (kI K)) → Ex sc (d + 6) 57 4 [.ref 19, .int x1, .int x2] [] (hpS s) (kI K) := by
  have hq : prog[57]? = some pm57 := rfl
  intro n
  induction n with
  | zero =>
    intro x1 x2 s k
    exact k.elim
  | succ n ih =>
    intro x1 x2 s k hX19
    rw [w_57_L4] at k
    refine Ex.seg hq 4 (j := 8) (L' := [.ref 19, .int x1, .int x2]) (S' := [.int (s.1 801), .int x2]) (h' := hpS s) rfl ?_
    refine Ex.i2 hq rfl (fun c => ?_) (fun c => ?_)
    · have k := k.1 c
      refine Ex.fg (L := [pu, .int x1, pu]) ⟨Or.inr ⟨rfl, rfl⟩, ⟨Or.inl rfl, ⟨Or.inr ⟨rfl, rfl⟩, trivial⟩⟩⟩ ?_
      exact hX19 x1 s k
    · have k := k.2 c
      refine Ex.seg hq 4 (j := 13) (L' := [.ref 19, .int x1, .int x2]) (S' := [.int x2, .ref 8, .ref 19]) (h' := hpS s) rfl ?_
      refine Ex.cl hq rfl rfl ?_
      refine Rn.mono (q_123 (d := d + 5) x2 s k) ?_
      rintro _ _ ⟨r2, s1, rfl, rfl, k⟩
      show Ex sc (d + 6) 57 14 [.ref 19, .int x1, .int x2] [.int r2, .ref 19] (hpS s1) _
      refine Ex.cl hq rfl rfl ?_
      refine Rn.mono (q_56 (d := d + 0) r2 s1 k) ?_
      rintro _ _ ⟨r4, s3, rfl, hzr4, rfl, k⟩
      show Ex sc (d + 6) 57 15 [.ref 19, .int x1, .int x2] [.int r4] (hpS s3) _
      refine Ex.i1 hq rfl (fun c => ?_) (fun c => ?_)
      · have k := k.1 c
        refine Ex.seg hq 2 (j := 4) (L' := [.ref 19, .int x1, .int (x2 + (1 : Int32))]) (S' := []) (h' := hpS s3) rfl ?_
        exact ih x1 (x2 + (1 : Int32)) s3 k hX19
      · have k := k.2 c
        refine Ex.seg hq 3 (j := 4) (L' := [.ref 19, .int (x1 + (1 : Int32)), .int (x2 + (1 : Int32))]) (S' := []) (h' := hpS s3) rfl ?_
        exact ih (x1 + (1 : Int32)) (x2 + (1 : Int32)) s3 k hX19
/-- RowAuditor$Laws.countFindings()I -/
def w_57  (s : ST) (K : Int32 → ST → Prop) : Prop := (∃ m, w_57_L4 m (0 : Int32) (0 : Int32) s (fun y1 s5 => K y1 s5) K)
theorem q_57 {d : Nat} {K : Int32 → ST → Prop}  (s : ST) (k : w_57  s K) : Rn sc (d + 6) 57 [.ref 19] (hpS s) (kI K) := by
  have hq : prog[57]? = some pm57 := rfl
  refine Rn.of (L := [.ref 19, pu, pu]) hq rfl rfl ?_
  unfold w_57 at k
  refine Ex.seg hq 4 (j := 4) (L' := [.ref 19, .int (0 : Int32), .int (0 : Int32)]) (S' := []) (h' := hpS s) rfl ?_
  obtain ⟨m, k⟩ := k
  refine q_57_L4 (d := d) m (0 : Int32) (0 : Int32) s k ?_
  · intro y1 s5 k
    refine Ex.seg hq 1 (j := 20) (L' := [pu, .int y1, pu]) (S' := [.int y1]) (h' := hpS s5) rfl ?_
    exact Ex.rt hq rfl rfl ⟨y1, s5, rfl, rfl, k⟩
/-- RowAuditor$Parser.begin(I)V -/
def w_59 (p1 : Int32) (s : ST) (K : ST → Prop) : Prop := K (sI (sI (sI (sI s 3502 (if (Int32.ofNat 200) < p1 then (Int32.ofNat 200) else p1)) 3504 (0 : Int32)) 3505 (0 : Int32)) 3506 (0 : Int32))
theorem q_59 {d : Nat} {K : ST → Prop} (p1 : Int32) (s : ST) (k : w_59 p1 s K) : Rn sc (d + 1) 59 [.ref 35, .int p1] (hpS s) (kV K) := by
  have hq : prog[59]? = some pm59 := rfl
  refine Rn.of (L := [.ref 35, .int p1]) hq rfl rfl ?_
  unfold w_59 at k
  refine Ex.seg hq 16 (j := 16) (L' := [.ref 35, .int p1]) (S' := []) (h' := hpS (sI (sI (sI (sI s 3502 (if (Int32.ofNat 200) < p1 then (Int32.ofNat 200) else p1)) 3504 (0 : Int32)) 3505 (0 : Int32)) 3506 (0 : Int32))) rfl ?_
  exact Ex.rt hq rfl rfl ⟨(sI (sI (sI (sI s 3502 (if (Int32.ofNat 200) < p1 then (Int32.ofNat 200) else p1)) 3504 (0 : Int32)) 3505 (0 : Int32)) 3506 (0 : Int32)), rfl, rfl, k⟩
/-- RowAuditor$Parser.isFaulty()Z -/
def w_60  (s : ST) (K : Int32 → ST → Prop) : Prop := (((s.1 3505) = 0 → K (0 : Int32) s) ∧ (¬ ((s.1 3505) = 0) → K (1 : Int32) s))
theorem q_60 {d : Nat} {K : Int32 → ST → Prop}  (s : ST) (k : w_60  s K) : Rn sc (d + 0) 60 [.ref 35] (hpS s) (kZ K) := by
  have hq : prog[60]? = some pm60 := rfl
  refine Rn.of (L := [.ref 35]) hq rfl rfl ?_
  unfold w_60 at k
  refine Ex.seg hq 2 (j := 2) (L' := [.ref 35]) (S' := [.int (s.1 3505)]) (h' := hpS s) rfl ?_
  refine Ex.i1 hq rfl (fun c => ?_) (fun c => ?_)
  · have k := k.1 c
    refine Ex.seg hq 1 (j := 6) (L' := [.ref 35]) (S' := [.int (0 : Int32)]) (h' := hpS s) rfl ?_
    exact Ex.zr hq rfl rfl (Or.inl rfl) ⟨(0 : Int32), s, rfl, (Or.inl rfl), rfl, k⟩
  · have k := k.2 c
    refine Ex.seg hq 2 (j := 6) (L' := [.ref 35]) (S' := [.int (1 : Int32)]) (h' := hpS s) rfl ?_
    exact Ex.zr hq rfl rfl (Or.inr rfl) ⟨(1 : Int32), s, rfl, (Or.inr rfl), rfl, k⟩
/-- RowAuditor$Parser.faultAnswer()I -/
def w_61  (s : ST) (K : Int32 → ST → Prop) : Prop := K (((-1000 : Int32) * (s.1 3505)) - (s.1 3506)) s
theorem q_61 {d : Nat} {K : Int32 → ST → Prop}  (s : ST) (k : w_61  s K) : Rn sc (d + 0) 61 [.ref 35] (hpS s) (kI K) := by
  have hq : prog[61]? = some pm61 := rfl
  refine Rn.of (L := [.ref 35]) hq rfl rfl ?_
  unfold w_61 at k
  refine Ex.seg hq 7 (j := 7) (L' := [.ref 35]) (S' := [.int (((-1000 : Int32) * (s.1 3505)) - (s.1 3506))]) (h' := hpS s) rfl ?_
  exact Ex.rt hq rfl rfl ⟨(((-1000 : Int32) * (s.1 3505)) - (s.1 3506)), s, rfl, rfl, k⟩
/-- RowAuditor$Text.<init>(II)V -/
def w_107 (p0 : Nat) (p1 : Int32) (p2 : Int32) (s : ST) (K : ST → Prop) : Prop := w_294 s.2.2.2.2.length (sD s (s.2.2.2.2 ++ [(Sum.inr (13, pD13) : PC)])) (fun s1 => (∃ f3, pob s1.2.2.2.2 p0 9 = some f3 ∧ 0 < f3.length ∧ (∃ f4, pob (s1.2.2.2.2.set p0 (.inr (9, f3.set 0 (.ref (s.2.2.2.2.length + 118))))) p0 9 = some f4 ∧ 1 < f4.length ∧ (∃ f5, pob ((s1.2.2.2.2.set p0 (.inr (9, f3.set 0 (.ref (s.2.2.2.2.length + 118))))).set p0 (.inr (9, f4.set 1 (.int p1)))) p0 9 = some f5 ∧ 2 < f5.length ∧ K (sD s1 (((s1.2.2.2.2.set p0 (.inr (9, f3.set 0 (.ref (s.2.2.2.2.length + 118))))).set p0 (.inr (9, f4.set 1 (.int p1)))).set p0 (.inr (9, f5.set 2 (.int p2)))))))))
theorem q_107 {d : Nat} {K : ST → Prop} (p0 : Nat) (p1 : Int32) (p2 : Int32) (s : ST) (k : w_107 p0 p1 p2 s K) : Rn sc (d + 4) 107 [.ref (p0 + 118), .int p1, .int p2] (hpS s) (kV K) := by
  have hq : prog[107]? = some pm107 := rfl
  refine Rn.of (L := [.ref (p0 + 118), .int p1, .int p2]) hq rfl rfl ?_
  unfold w_107 at k
  refine Ex.seg hq 3 (j := 3) (L' := [.ref (p0 + 118), .int p1, .int p2]) (S' := [.ref (p0 + 118)]) (h' := hpS s) rfl ?_
  refine Ex.nwd hq rfl rfl ?_
  show Ex sc (d + 4) 107 4 [.ref (p0 + 118), .int p1, .int p2] [.ref (s.2.2.2.2.length + 118), .ref (p0 + 118)] (hpS (sD s (s.2.2.2.2 ++ [(Sum.inr (13, pD13) : PC)]))) _
  refine Ex.seg hq 1 (j := 5) (L' := [.ref (p0 + 118), .int p1, .int p2]) (S' := [.ref (s.2.2.2.2.length + 118), .ref (s.2.2.2.2.length + 118), .ref (p0 + 118)]) (h' := hpS (sD s (s.2.2.2.2 ++ [(Sum.inr (13, pD13) : PC)]))) rfl ?_
  refine Ex.cl hq rfl rfl ?_
  refine Rn.mono (q_294 (d := d + 0) s.2.2.2.2.length (sD s (s.2.2.2.2 ++ [(Sum.inr (13, pD13) : PC)])) k) ?_
  rintro _ _ ⟨s1, rfl, rfl, k⟩
  show Ex sc (d + 4) 107 6 [.ref (p0 + 118), .int p1, .int p2] [.ref (s.2.2.2.2.length + 118), .ref (p0 + 118)] (hpS s1) _
  obtain ⟨f3, e, hk, k⟩ := k
  refine Ex.pfd hq rfl e hk rfl ?_
  show Ex sc (d + 4) 107 7 [.ref (p0 + 118), .int p1, .int p2] [] (hpS (sD s1 (s1.2.2.2.2.set p0 (.inr (9, f3.set 0 (.ref (s.2.2.2.2.length + 118))))))) _
  refine Ex.seg hq 2 (j := 9) (L' := [.ref (p0 + 118), .int p1, .int p2]) (S' := [.int p1, .ref (p0 + 118)]) (h' := hpS (sD s1 (s1.2.2.2.2.set p0 (.inr (9, f3.set 0 (.ref (s.2.2.2.2.length + 118))))))) rfl ?_
  obtain ⟨f4, e, hk, k⟩ := k
  refine Ex.pfd hq rfl e hk rfl ?_
  show Ex sc (d + 4) 107 10 [.ref (p0 + 118), .int p1, .int p2] [] (hpS (sD s1 ((s1.2.2.2.2.set p0 (.inr (9, f3.set 0 (.ref (s.2.2.2.2.length + 118))))).set p0 (.inr (9, f4.set 1 (.int p1)))))) _
  refine Ex.seg hq 2 (j := 12) (L' := [.ref (p0 + 118), .int p1, .int p2]) (S' := [.int p2, .ref (p0 + 118)]) (h' := hpS (sD s1 ((s1.2.2.2.2.set p0 (.inr (9, f3.set 0 (.ref (s.2.2.2.2.length + 118))))).set p0 (.inr (9, f4.set 1 (.int p1)))))) rfl ?_
  obtain ⟨f5, e, hk, k⟩ := k
  refine Ex.pfd hq rfl e hk rfl ?_
  show Ex sc (d + 4) 107 13 [.ref (p0 + 118), .int p1, .int p2] [] (hpS (sD s1 (((s1.2.2.2.2.set p0 (.inr (9, f3.set 0 (.ref (s.2.2.2.2.length + 118))))).set p0 (.inr (9, f4.set 1 (.int p1)))).set p0 (.inr (9, f5.set 2 (.int p2)))))) _
  exact Ex.rt hq rfl rfl ⟨(sD s1 (((s1.2.2.2.2.set p0 (.inr (9, f3.set 0 (.ref (s.2.2.2.2.length + 118))))).set p0 (.inr (9, f4.set 1 (.int p1)))).set p0 (.inr (9, f5.set 2 (.int p2))))), rfl, rfl, k⟩
/-- RowAuditor$Parser.peek()I -/
def w_81  (s : ST) (K : Int32 → ST → Prop) : Prop := ((¬ (s.1 3505) = 0 → K (-1 : Int32) s) ∧ (¬ (¬ (s.1 3505) = 0) → (((s.1 3504) < 0 → K (-1 : Int32) s) ∧ (¬ ((s.1 3504) < 0) → (((s.1 3502) ≤ (s.1 3504) → K (-1 : Int32) s) ∧ (¬ ((s.1 3502) ≤ (s.1 3504)) → (pin (s.1 3504) 200 = true ∧ K ((s.2.1 27) ((s.1 3504)).toNatClampNeg) s)))))))
theorem q_81 {d : Nat} {K : Int32 → ST → Prop}  (s : ST) (k : w_81  s K) : Rn sc (d + 0) 81 [.ref 35] (hpS s) (kI K) := by
  have hq : prog[81]? = some pm81 := rfl
  refine Rn.of (L := [.ref 35]) hq rfl rfl ?_
  unfold w_81 at k
  refine Ex.seg hq 2 (j := 2) (L' := [.ref 35]) (S' := [.int (s.1 3505)]) (h' := hpS s) rfl ?_
  refine Ex.i1 hq rfl (fun c => ?_) (fun c => ?_)
  · have k := k.1 c
    refine Ex.seg hq 1 (j := 18) (L' := [.ref 35]) (S' := [.int (-1 : Int32)]) (h' := hpS s) rfl ?_
    exact Ex.rt hq rfl rfl ⟨(-1 : Int32), s, rfl, rfl, k⟩
  · have k := k.2 c
    refine Ex.seg hq 2 (j := 5) (L' := [.ref 35]) (S' := [.int (s.1 3504)]) (h' := hpS s) rfl ?_
    refine Ex.i1 hq rfl (fun c => ?_) (fun c => ?_)
    · have k := k.1 c
      refine Ex.seg hq 1 (j := 18) (L' := [.ref 35]) (S' := [.int (-1 : Int32)]) (h' := hpS s) rfl ?_
      exact Ex.rt hq rfl rfl ⟨(-1 : Int32), s, rfl, rfl, k⟩
    · have k := k.2 c
      refine Ex.seg hq 4 (j := 10) (L' := [.ref 35]) (S' := [.int (s.1 3502), .int (s.1 3504)]) (h' := hpS s) rfl ?_
      refine Ex.i2 hq rfl (fun c => ?_) (fun c => ?_)
      · have k := k.1 c
        refine Ex.seg hq 1 (j := 18) (L' := [.ref 35]) (S' := [.int (-1 : Int32)]) (h' := hpS s) rfl ?_
        exact Ex.rt hq rfl rfl ⟨(-1 : Int32), s, rfl, rfl, k⟩
      · have k := k.2 c
        refine Ex.seg hq 4 (j := 15) (L' := [.ref 35]) (S' := [.int (s.1 3504), .ref 27]) (h' := hpS s) rfl ?_
        obtain ⟨hin, k⟩ := k
        refine Ex.ial hq rfl rfl hin ?_
        refine Ex.seg hq 1 (j := 18) (L' := [.ref 35]) (S' := [.int ((s.2.1 27) ((s.1 3504)).toNatClampNeg)]) (h' := hpS s) rfl ?_
        exact Ex.rt hq rfl rfl ⟨((s.2.1 27) ((s.1 3504)).toNatClampNeg), s, rfl, rfl, k⟩
/-- RowAuditor$Parser.fail(II)V -/
def w_85 (p1 : Int32) (p2 : Int32) (s : ST) (K : ST → Prop) : Prop := ((¬ (s.1 3505) = 0 → K s) ∧ (¬ (¬ (s.1 3505) = 0) → K (sI (sI s 3505 p1) 3506 p2)))
theorem q_85 {d : Nat} {K : ST → Prop} (p1 : Int32) (p2 : Int32) (s : ST) (k : w_85 p1 p2 s K) : Rn sc (d + 0) 85 [.ref 35, .int p1, .int p2] (hpS s) (kV K) := by
  have hq : prog[85]? = some pm85 := rfl
  refine Rn.of (L := [.ref 35, .int p1, .int p2]) hq rfl rfl ?_
  unfold w_85 at k
  refine Ex.seg hq 2 (j := 2) (L' := [.ref 35, .int p1, .int p2]) (S' := [.int (s.1 3505)]) (h' := hpS s) rfl ?_
  refine Ex.i1 hq rfl (fun c => ?_) (fun c => ?_)
  · have k := k.1 c
    exact Ex.rt hq rfl rfl ⟨s, rfl, rfl, k⟩
  · have k := k.2 c
    refine Ex.seg hq 6 (j := 9) (L' := [.ref 35, .int p1, .int p2]) (S' := []) (h' := hpS (sI (sI s 3505 p1) 3506 p2)) rfl ?_
    exact Ex.rt hq rfl rfl ⟨(sI (sI s 3505 p1) 3506 p2), rfl, rfl, k⟩
/-- RowAuditor$Parser.want(I)V -/
def w_83 (p1 : Int32) (s : ST) (K : ST → Prop) : Prop := w_81 s (fun r2 s1 => ((¬ r2 = p1 → w_85 (1 : Int32) (s1.1 3504) s1 (fun s3 => K s3)) ∧ (¬ (¬ r2 = p1) → K (sI s1 3504 ((s1.1 3504) + (1 : Int32))))))
theorem q_83 {d : Nat} {K : ST → Prop} (p1 : Int32) (s : ST) (k : w_83 p1 s K) : Rn sc (d + 1) 83 [.ref 35, .int p1] (hpS s) (kV K) := by
  have hq : prog[83]? = some pm83 := rfl
  refine Rn.of (L := [.ref 35, .int p1]) hq rfl rfl ?_
  unfold w_83 at k
  refine Ex.seg hq 1 (j := 1) (L' := [.ref 35, .int p1]) (S' := [.ref 35]) (h' := hpS s) rfl ?_
  refine Ex.cl hq rfl rfl ?_
  refine Rn.mono (q_81 (d := d + 0) s k) ?_
  rintro _ _ ⟨r2, s1, rfl, rfl, k⟩
  show Ex sc (d + 1) 83 2 [.ref 35, .int p1] [.int r2] (hpS s1) _
  refine Ex.seg hq 1 (j := 3) (L' := [.ref 35, .int p1]) (S' := [.int p1, .int r2]) (h' := hpS s1) rfl ?_
  refine Ex.i2 hq rfl (fun c => ?_) (fun c => ?_)
  · have k := k.1 c
    refine Ex.seg hq 4 (j := 15) (L' := [.ref 35, .int p1]) (S' := [.int (s1.1 3504), .int (1 : Int32), .ref 35]) (h' := hpS s1) rfl ?_
    refine Ex.cl hq rfl rfl ?_
    refine Rn.mono (q_85 (d := d + 0) (1 : Int32) (s1.1 3504) s1 k) ?_
    rintro _ _ ⟨s3, rfl, rfl, k⟩
    show Ex sc (d + 1) 83 16 [.ref 35, .int p1] [] (hpS s3) _
    exact Ex.rt hq rfl rfl ⟨s3, rfl, rfl, k⟩
  · have k := k.2 c
    refine Ex.seg hq 7 (j := 16) (L' := [.ref 35, .int p1]) (S' := []) (h' := hpS (sI s1 3504 ((s1.1 3504) + (1 : Int32)))) rfl ?_
    exact Ex.rt hq rfl rfl ⟨(sI s1 3504 ((s1.1 3504) + (1 : Int32))), rfl, rfl, k⟩
/-- java/lang/String.isLatin1()Z -/
def w_288_F2  (s : ST) (K : Int32 → ST → Prop) : Prop := (((1 : Int32) = 0 → K (0 : Int32) s) ∧ (¬ ((1 : Int32) = 0) → ((¬ (0 : Int32) = 0 → K (0 : Int32) s) ∧ (¬ (¬ (0 : Int32) = 0) → K (1 : Int32) s))))
theorem q_288_F2 {d : Nat} {K : Int32 → ST → Prop}  (s : ST) (k : w_288_F2  s K) : Rn sc (d + 0) 288 [.float 2] (hpS s) (kZ K) := by
  have hq : prog[288]? = some pm288 := rfl
  refine Rn.of (L := [.float 2]) hq rfl rfl ?_
  unfold w_288_F2 at k
  refine Ex.seg hq 1 (j := 1) (L' := [.float 2]) (S' := [.int (1 : Int32)]) (h' := hpS s) rfl ?_
  refine Ex.i1 hq rfl (fun c => ?_) (fun c => ?_)
  · have k := k.1 c
    refine Ex.seg hq 1 (j := 8) (L' := [.float 2]) (S' := [.int (0 : Int32)]) (h' := hpS s) rfl ?_
    exact Ex.zr hq rfl rfl (Or.inl rfl) ⟨(0 : Int32), s, rfl, (Or.inl rfl), rfl, k⟩
  · have k := k.2 c
    refine Ex.seg hq 2 (j := 4) (L' := [.float 2]) (S' := [.int (0 : Int32)]) (h' := hpS s) rfl ?_
    refine Ex.i1 hq rfl (fun c => ?_) (fun c => ?_)
    · have k := k.1 c
      refine Ex.seg hq 1 (j := 8) (L' := [.float 2]) (S' := [.int (0 : Int32)]) (h' := hpS s) rfl ?_
      exact Ex.zr hq rfl rfl (Or.inl rfl) ⟨(0 : Int32), s, rfl, (Or.inl rfl), rfl, k⟩
    · have k := k.2 c
      refine Ex.seg hq 2 (j := 8) (L' := [.float 2]) (S' := [.int (1 : Int32)]) (h' := hpS s) rfl ?_
      exact Ex.zr hq rfl rfl (Or.inr rfl) ⟨(1 : Int32), s, rfl, (Or.inr rfl), rfl, k⟩
/-- java/lang/String.coder()B -/
def w_287_F2  (s : ST) (K : Int32 → ST → Prop) : Prop := (((1 : Int32) = 0 → K (1 : Int32) s) ∧ (¬ ((1 : Int32) = 0) → K (0 : Int32) s))
theorem q_287_F2 {d : Nat} {K : Int32 → ST → Prop}  (s : ST) (k : w_287_F2  s K) : Rn sc (d + 0) 287 [.float 2] (hpS s) (kI K) := by
  have hq : prog[287]? = some pm287 := rfl
  refine Rn.of (L := [.float 2]) hq rfl rfl ?_
  unfold w_287_F2 at k
  refine Ex.seg hq 1 (j := 1) (L' := [.float 2]) (S' := [.int (1 : Int32)]) (h' := hpS s) rfl ?_
  refine Ex.i1 hq rfl (fun c => ?_) (fun c => ?_)
  · have k := k.1 c
    refine Ex.seg hq 1 (j := 6) (L' := [.float 2]) (S' := [.int (1 : Int32)]) (h' := hpS s) rfl ?_
    exact Ex.rt hq rfl rfl ⟨(1 : Int32), s, rfl, rfl, k⟩
  · have k := k.2 c
    refine Ex.seg hq 3 (j := 6) (L' := [.float 2]) (S' := [.int (0 : Int32)]) (h' := hpS s) rfl ?_
    exact Ex.rt hq rfl rfl ⟨(0 : Int32), s, rfl, rfl, k⟩
/-- java/lang/String.length()I -/
def w_284_F2  (s : ST) (K : Int32 → ST → Prop) : Prop := w_287_F2 s (fun r2 s1 => K ((13 : Int32) >>> (r2 &&& 31)) s1)
theorem q_284_F2 {d : Nat} {K : Int32 → ST → Prop}  (s : ST) (k : w_284_F2  s K) : Rn sc (d + 1) 284 [.float 2] (hpS s) (kI K) := by
  have hq : prog[284]? = some pm284 := rfl
  refine Rn.of (L := [.float 2]) hq rfl rfl ?_
  unfold w_284_F2 at k
  refine Ex.seg hq 4 (j := 4) (L' := [.float 2]) (S' := [.float 2, .int (13 : Int32)]) (h' := hpS s) rfl ?_
  refine Ex.cl hq rfl rfl ?_
  refine Rn.mono (q_287_F2 (d := d + 0) s k) ?_
  rintro _ _ ⟨r2, s1, rfl, rfl, k⟩
  show Ex sc (d + 1) 284 5 [.float 2] [.int r2, .int (13 : Int32)] (hpS s1) _
  refine Ex.seg hq 1 (j := 6) (L' := [.float 2]) (S' := [.int ((13 : Int32) >>> (r2 &&& 31))]) (h' := hpS s1) rfl ?_
  exact Ex.rt hq rfl rfl ⟨((13 : Int32) >>> (r2 &&& 31)), s1, rfl, rfl, k⟩
/-- java/lang/StringLatin1.canEncode(I)Z -/
def w_289 (p0 : Int32) (s : ST) (K : Int32 → ST → Prop) : Prop := ((p0 < 0 → K (0 : Int32) s) ∧ (¬ (p0 < 0) → (((255 : Int32) < p0 → K (0 : Int32) s) ∧ (¬ ((255 : Int32) < p0) → K (1 : Int32) s))))
theorem q_289 {d : Nat} {K : Int32 → ST → Prop} (p0 : Int32) (s : ST) (k : w_289 p0 s K) : Rn sc (d + 0) 289 [.int p0] (hpS s) (kZ K) := by
  have hq : prog[289]? = some pm289 := rfl
  refine Rn.of (L := [.int p0]) hq rfl rfl ?_
  unfold w_289 at k
  refine Ex.seg hq 1 (j := 1) (L' := [.int p0]) (S' := [.int p0]) (h' := hpS s) rfl ?_
  refine Ex.i1 hq rfl (fun c => ?_) (fun c => ?_)
  · have k := k.1 c
    refine Ex.seg hq 1 (j := 8) (L' := [.int p0]) (S' := [.int (0 : Int32)]) (h' := hpS s) rfl ?_
    exact Ex.zr hq rfl rfl (Or.inl rfl) ⟨(0 : Int32), s, rfl, (Or.inl rfl), rfl, k⟩
  · have k := k.2 c
    refine Ex.seg hq 2 (j := 4) (L' := [.int p0]) (S' := [.int (255 : Int32), .int p0]) (h' := hpS s) rfl ?_
    refine Ex.i2 hq rfl (fun c => ?_) (fun c => ?_)
    · have k := k.1 c
      refine Ex.seg hq 1 (j := 8) (L' := [.int p0]) (S' := [.int (0 : Int32)]) (h' := hpS s) rfl ?_
      exact Ex.zr hq rfl rfl (Or.inl rfl) ⟨(0 : Int32), s, rfl, (Or.inl rfl), rfl, k⟩
    · have k := k.2 c
      refine Ex.seg hq 2 (j := 8) (L' := [.int p0]) (S' := [.int (1 : Int32)]) (h' := hpS s) rfl ?_
      exact Ex.zr hq rfl rfl (Or.inr rfl) ⟨(1 : Int32), s, rfl, (Or.inr rfl), rfl, k⟩
def w_291_F3_L5 : Nat → Int32 → Int32 → Int32 → ST → (ST → Prop) → (Int32 → ST → Prop) → (Int32 → ST → Prop) → Prop
  | 0, _, _, _, _, _, _, _ => False
  | n + 1, x3, x4, x5, s, X17, X13, K => ((x3 ≤ x5 → X17  s) ∧ (¬ (x3 ≤ x5) → (pin x5 13 = true ∧ ((¬ (pbyt.getD (x5).toNatClampNeg 0) = x4 → w_291_F3_L5 n x3 x4 (x5 + (1 : Int32)) s X17 X13 K) ∧ (¬ (¬ (pbyt.getD (x5).toNatClampNeg 0) = x4) → X13 x5 s)))))
theorem q_291_F3_L5 {d : Nat} {X17 : ST → Prop} {X13 : Int32 → ST → Prop} {K : Int32 → ST → Prop} : ∀ (n : Nat) (x3 : Int32) (x4 : Int32) (x5 : Int32) (s : ST), w_291_F3_L5 n x3 x4 x5 s X17 X13 K → (∀ (s : ST), X17  s → Ex sc (d + 0) 291 17 [pu, pu, pu, pu, pu, pu] [] (hpS s) (kI K)) → (∀ (y5 : Int32) (s : ST), X13 y5 s → Ex sc (d + 0) 291 13 [pu, pu, pu, pu, pu, .int y5] [] (hpS s) (kI K)) → Ex sc (d + 0) 291 5 [.float 3, pu, pu, .int x3, .int x4, .int x5] [] (hpS s) (kI K) := by
  have hq : prog[291]? = some pm291 := rfl
  intro n
  induction n with
  | zero =>
    intro x3 x4 x5 s k
    exact k.elim
  | succ n ih =>
    intro x3 x4 x5 s k hX17 hX13
    rw [w_291_F3_L5] at k
    refine Ex.seg hq 2 (j := 7) (L' := [.float 3, pu, pu, .int x3, .int x4, .int x5]) (S' := [.int x3, .int x5]) (h' := hpS s) rfl ?_
    refine Ex.i2 hq rfl (fun c => ?_) (fun c => ?_)
    · have k := k.1 c
      refine Ex.fg (L := [pu, pu, pu, pu, pu, pu]) ⟨Or.inr ⟨rfl, rfl⟩, ⟨Or.inl rfl, ⟨Or.inl rfl, ⟨Or.inr ⟨rfl, rfl⟩, ⟨Or.inr ⟨rfl, rfl⟩, ⟨Or.inr ⟨rfl, rfl⟩, trivial⟩⟩⟩⟩⟩⟩ ?_
      exact hX17  s k
    · have k := k.2 c
      refine Ex.seg hq 2 (j := 10) (L' := [.float 3, pu, pu, .int x3, .int x4, .int x5]) (S' := [.int x5, .float 3]) (h' := hpS s) rfl ?_
      obtain ⟨hin, k⟩ := k
      refine Ex.nx hq rfl (L' := [.float 3, pu, pu, .int x3, .int x4, .int x5]) (S' := [.int (pbyt.getD (x5).toNatClampNeg 0)]) (h' := hpS s) (by simp only [stp, pbal, hin, if_true]) ?_
      refine Ex.seg hq 1 (j := 12) (L' := [.float 3, pu, pu, .int x3, .int x4, .int x5]) (S' := [.int x4, .int (pbyt.getD (x5).toNatClampNeg 0)]) (h' := hpS s) rfl ?_
      refine Ex.i2 hq rfl (fun c => ?_) (fun c => ?_)
      · have k := k.1 c
        refine Ex.seg hq 2 (j := 5) (L' := [.float 3, pu, pu, .int x3, .int x4, .int (x5 + (1 : Int32))]) (S' := []) (h' := hpS s) rfl ?_
        exact ih x3 x4 (x5 + (1 : Int32)) s k hX17 hX13
      · have k := k.2 c
        refine Ex.fg (L := [pu, pu, pu, pu, pu, .int x5]) ⟨Or.inr ⟨rfl, rfl⟩, ⟨Or.inl rfl, ⟨Or.inl rfl, ⟨Or.inr ⟨rfl, rfl⟩, ⟨Or.inr ⟨rfl, rfl⟩, ⟨Or.inl rfl, trivial⟩⟩⟩⟩⟩⟩ ?_
        exact hX13 x5 s k
/-- java/lang/StringLatin1.indexOfChar([BIII)I -/
def w_291_F3 (p1 : Int32) (p2 : Int32) (p3 : Int32) (s : ST) (K : Int32 → ST → Prop) : Prop := (∃ m, w_291_F3_L5 m p3 ((p1).toInt8.toInt32) p2 s (fun s1 => K (-1 : Int32) s1) (fun y5 s2 => K y5 s2) K)
theorem q_291_F3 {d : Nat} {K : Int32 → ST → Prop} (p1 : Int32) (p2 : Int32) (p3 : Int32) (s : ST) (k : w_291_F3 p1 p2 p3 s K) : Rn sc (d + 0) 291 [.float 3, .int p1, .int p2, .int p3] (hpS s) (kI K) := by
  have hq : prog[291]? = some pm291 := rfl
  refine Rn.of (L := [.float 3, .int p1, .int p2, .int p3, pu, pu]) hq rfl rfl ?_
  unfold w_291_F3 at k
  refine Ex.seg hq 5 (j := 5) (L' := [.float 3, .int p1, .int p2, .int p3, .int ((p1).toInt8.toInt32), .int p2]) (S' := []) (h' := hpS s) rfl ?_
  obtain ⟨m, k⟩ := k
  refine Ex.fg (L := [.float 3, pu, pu, .int p3, .int ((p1).toInt8.toInt32), .int p2]) ⟨Or.inl rfl, ⟨Or.inr ⟨rfl, rfl⟩, ⟨Or.inr ⟨rfl, rfl⟩, ⟨Or.inl rfl, ⟨Or.inl rfl, ⟨Or.inl rfl, trivial⟩⟩⟩⟩⟩⟩ ?_
  refine q_291_F3_L5 (d := d) m p3 ((p1).toInt8.toInt32) p2 s k ?_ ?_
  · intro s1 k
    refine Ex.seg hq 1 (j := 18) (L' := [pu, pu, pu, pu, pu, pu]) (S' := [.int (-1 : Int32)]) (h' := hpS s1) rfl ?_
    exact Ex.rt hq rfl rfl ⟨(-1 : Int32), s1, rfl, rfl, k⟩
  · intro y5 s2 k
    refine Ex.seg hq 1 (j := 14) (L' := [pu, pu, pu, pu, pu, .int y5]) (S' := [.int y5]) (h' := hpS s2) rfl ?_
    exact Ex.rt hq rfl rfl ⟨y5, s2, rfl, rfl, k⟩
/-- java/lang/StringLatin1.indexOf([BIII)I -/
def w_290_F3 (p1 : Int32) (p2 : Int32) (p3 : Int32) (s : ST) (K : Int32 → ST → Prop) : Prop := w_289 p1 s (fun r2 s1 => ((¬ r2 = 0 → (((if p2 < (0 : Int32) then (0 : Int32) else p2) < (if (13 : Int32) < p3 then (13 : Int32) else p3) → w_291_F3 p1 (if p2 < (0 : Int32) then (0 : Int32) else p2) (if (13 : Int32) < p3 then (13 : Int32) else p3) s1 (fun r4 s3 => K r4 s3)) ∧ (¬ ((if p2 < (0 : Int32) then (0 : Int32) else p2) < (if (13 : Int32) < p3 then (13 : Int32) else p3)) → K (-1 : Int32) s1))) ∧ (¬ (¬ r2 = 0) → K (-1 : Int32) s1)))
theorem q_290_F3 {d : Nat} {K : Int32 → ST → Prop} (p1 : Int32) (p2 : Int32) (p3 : Int32) (s : ST) (k : w_290_F3 p1 p2 p3 s K) : Rn sc (d + 1) 290 [.float 3, .int p1, .int p2, .int p3] (hpS s) (kI K) := by
  have hq : prog[290]? = some pm290 := rfl
  refine Rn.of (L := [.float 3, .int p1, .int p2, .int p3]) hq rfl rfl ?_
  unfold w_290_F3 at k
  refine Ex.seg hq 1 (j := 1) (L' := [.float 3, .int p1, .int p2, .int p3]) (S' := [.int p1]) (h' := hpS s) rfl ?_
  refine Ex.cl hq rfl rfl ?_
  refine Rn.mono (q_289 (d := d + 0) p1 s k) ?_
  rintro _ _ ⟨r2, s1, rfl, hzr2, rfl, k⟩
  show Ex sc (d + 1) 290 2 [.float 3, .int p1, .int p2, .int p3] [.int r2] (hpS s1) _
  refine Ex.i1 hq rfl (fun c => ?_) (fun c => ?_)
  · have k := k.1 c
    refine Ex.seg hq 11 (j := 16) (L' := [.float 3, .int p1, .int (if p2 < (0 : Int32) then (0 : Int32) else p2), .int (if (13 : Int32) < p3 then (13 : Int32) else p3)]) (S' := [.int (if (13 : Int32) < p3 then (13 : Int32) else p3), .int (if p2 < (0 : Int32) then (0 : Int32) else p2)]) (h' := hpS s1) rfl ?_
    refine Ex.i2 hq rfl (fun c => ?_) (fun c => ?_)
    · have k := k.1 c
      refine Ex.seg hq 4 (j := 23) (L' := [.float 3, .int p1, .int (if p2 < (0 : Int32) then (0 : Int32) else p2), .int (if (13 : Int32) < p3 then (13 : Int32) else p3)]) (S' := [.int (if (13 : Int32) < p3 then (13 : Int32) else p3), .int (if p2 < (0 : Int32) then (0 : Int32) else p2), .int p1, .float 3]) (h' := hpS s1) rfl ?_
      refine Ex.cl hq rfl rfl ?_
      refine Rn.mono (q_291_F3 (d := d + 0) p1 (if p2 < (0 : Int32) then (0 : Int32) else p2) (if (13 : Int32) < p3 then (13 : Int32) else p3) s1 k) ?_
      rintro _ _ ⟨r4, s3, rfl, rfl, k⟩
      show Ex sc (d + 1) 290 24 [.float 3, .int p1, .int (if p2 < (0 : Int32) then (0 : Int32) else p2), .int (if (13 : Int32) < p3 then (13 : Int32) else p3)] [.int r4] (hpS s3) _
      exact Ex.rt hq rfl rfl ⟨r4, s3, rfl, rfl, k⟩
    · have k := k.2 c
      refine Ex.seg hq 1 (j := 18) (L' := [.float 3, .int p1, .int (if p2 < (0 : Int32) then (0 : Int32) else p2), .int (if (13 : Int32) < p3 then (13 : Int32) else p3)]) (S' := [.int (-1 : Int32)]) (h' := hpS s1) rfl ?_
      exact Ex.rt hq rfl rfl ⟨(-1 : Int32), s1, rfl, rfl, k⟩
  · have k := k.2 c
    refine Ex.seg hq 1 (j := 4) (L' := [.float 3, .int p1, .int p2, .int p3]) (S' := [.int (-1 : Int32)]) (h' := hpS s1) rfl ?_
    exact Ex.rt hq rfl rfl ⟨(-1 : Int32), s1, rfl, rfl, k⟩
/-- java/lang/String.indexOf(II)I -/
def w_286_F2 (p1 : Int32) (p2 : Int32) (s : ST) (K : Int32 → ST → Prop) : Prop := w_288_F2 s (fun r2 s1 => ((r2 = 0 → w_284_F2 s1 (fun r4 s3 => False)) ∧ (¬ (r2 = 0) → w_284_F2 s1 (fun r6 s5 => w_290_F3 p1 p2 r6 s5 (fun r8 s7 => K r8 s7)))))
theorem q_286_F2 {d : Nat} {K : Int32 → ST → Prop} (p1 : Int32) (p2 : Int32) (s : ST) (k : w_286_F2 p1 p2 s K) : Rn sc (d + 2) 286 [.float 2, .int p1, .int p2] (hpS s) (kI K) := by
  have hq : prog[286]? = some pm286 := rfl
  refine Rn.of (L := [.float 2, .int p1, .int p2]) hq rfl rfl ?_
  unfold w_286_F2 at k
  refine Ex.seg hq 1 (j := 1) (L' := [.float 2, .int p1, .int p2]) (S' := [.float 2]) (h' := hpS s) rfl ?_
  refine Ex.cl hq rfl rfl ?_
  refine Rn.mono (q_288_F2 (d := d + 1) s k) ?_
  rintro _ _ ⟨r2, s1, rfl, hzr2, rfl, k⟩
  show Ex sc (d + 2) 286 2 [.float 2, .int p1, .int p2] [.int r2] (hpS s1) _
  refine Ex.i1 hq rfl (fun c => ?_) (fun c => ?_)
  · have k := k.1 c
    refine Ex.seg hq 5 (j := 16) (L' := [.float 2, .int p1, .int p2]) (S' := [.float 2, .int p2, .int p1, .float 3]) (h' := hpS s1) rfl ?_
    refine Ex.cl hq rfl rfl ?_
    refine Rn.mono (q_284_F2 (d := d + 0) s1 k) ?_
    rintro _ _ ⟨r4, s3, rfl, rfl, k⟩
    show Ex sc (d + 2) 286 17 [.float 2, .int p1, .int p2] [.int r4, .int p2, .int p1, .float 3] (hpS s3) _
    exact k.elim
  · have k := k.2 c
    refine Ex.seg hq 5 (j := 8) (L' := [.float 2, .int p1, .int p2]) (S' := [.float 2, .int p2, .int p1, .float 3]) (h' := hpS s1) rfl ?_
    refine Ex.cl hq rfl rfl ?_
    refine Rn.mono (q_284_F2 (d := d + 0) s1 k) ?_
    rintro _ _ ⟨r6, s5, rfl, rfl, k⟩
    show Ex sc (d + 2) 286 9 [.float 2, .int p1, .int p2] [.int r6, .int p2, .int p1, .float 3] (hpS s5) _
    refine Ex.cl hq rfl rfl ?_
    refine Rn.mono (q_290_F3 (d := d + 0) p1 p2 r6 s5 k) ?_
    rintro _ _ ⟨r8, s7, rfl, rfl, k⟩
    show Ex sc (d + 2) 286 10 [.float 2, .int p1, .int p2] [.int r8] (hpS s7) _
    refine Ex.seg hq 1 (j := 18) (L' := [.float 2, .int p1, .int p2]) (S' := [.int r8]) (h' := hpS s7) rfl ?_
    exact Ex.rt hq rfl rfl ⟨r8, s7, rfl, rfl, k⟩
/-- java/lang/String.indexOf(I)I -/
def w_285_F2 (p1 : Int32) (s : ST) (K : Int32 → ST → Prop) : Prop := w_286_F2 p1 (0 : Int32) s (fun r2 s1 => K r2 s1)
theorem q_285_F2 {d : Nat} {K : Int32 → ST → Prop} (p1 : Int32) (s : ST) (k : w_285_F2 p1 s K) : Rn sc (d + 3) 285 [.float 2, .int p1] (hpS s) (kI K) := by
  have hq : prog[285]? = some pm285 := rfl
  refine Rn.of (L := [.float 2, .int p1]) hq rfl rfl ?_
  unfold w_285_F2 at k
  refine Ex.seg hq 3 (j := 3) (L' := [.float 2, .int p1]) (S' := [.int (0 : Int32), .int p1, .float 2]) (h' := hpS s) rfl ?_
  refine Ex.cl hq rfl rfl ?_
  refine Rn.mono (q_286_F2 (d := d + 0) p1 (0 : Int32) s k) ?_
  rintro _ _ ⟨r2, s1, rfl, rfl, k⟩
  show Ex sc (d + 3) 285 4 [.float 2, .int p1] [.int r2] (hpS s1) _
  exact Ex.rt hq rfl rfl ⟨r2, s1, rfl, rfl, k⟩
/-- RowAuditor$Parser.isDigit(I)Z -/
def w_79 (p0 : Int32) (s : ST) (K : Int32 → ST → Prop) : Prop := ((p0 < (48 : Int32) → K (0 : Int32) s) ∧ (¬ (p0 < (48 : Int32)) → (((57 : Int32) < p0 → K (0 : Int32) s) ∧ (¬ ((57 : Int32) < p0) → K (1 : Int32) s))))
theorem q_79 {d : Nat} {K : Int32 → ST → Prop} (p0 : Int32) (s : ST) (k : w_79 p0 s K) : Rn sc (d + 0) 79 [.int p0] (hpS s) (kZ K) := by
  have hq : prog[79]? = some pm79 := rfl
  refine Rn.of (L := [.int p0]) hq rfl rfl ?_
  unfold w_79 at k
  refine Ex.seg hq 2 (j := 2) (L' := [.int p0]) (S' := [.int (48 : Int32), .int p0]) (h' := hpS s) rfl ?_
  refine Ex.i2 hq rfl (fun c => ?_) (fun c => ?_)
  · have k := k.1 c
    refine Ex.seg hq 1 (j := 9) (L' := [.int p0]) (S' := [.int (0 : Int32)]) (h' := hpS s) rfl ?_
    exact Ex.zr hq rfl rfl (Or.inl rfl) ⟨(0 : Int32), s, rfl, (Or.inl rfl), rfl, k⟩
  · have k := k.2 c
    refine Ex.seg hq 2 (j := 5) (L' := [.int p0]) (S' := [.int (57 : Int32), .int p0]) (h' := hpS s) rfl ?_
    refine Ex.i2 hq rfl (fun c => ?_) (fun c => ?_)
    · have k := k.1 c
      refine Ex.seg hq 1 (j := 9) (L' := [.int p0]) (S' := [.int (0 : Int32)]) (h' := hpS s) rfl ?_
      exact Ex.zr hq rfl rfl (Or.inl rfl) ⟨(0 : Int32), s, rfl, (Or.inl rfl), rfl, k⟩
    · have k := k.2 c
      refine Ex.seg hq 2 (j := 9) (L' := [.int p0]) (S' := [.int (1 : Int32)]) (h' := hpS s) rfl ?_
      exact Ex.zr hq rfl rfl (Or.inr rfl) ⟨(1 : Int32), s, rfl, (Or.inr rfl), rfl, k⟩
def w_77_L13 : Nat → Int32 → Int32 → ST → (Int32 → ST → Prop) → (Int32 → ST → Prop) → Prop
  | 0, _, _, _, _, _ => False
  | n + 1, x1, x2, s, X37, K => (((7 : Int32) ≤ x2 → X37 x1 s) ∧ (¬ ((7 : Int32) ≤ x2) → w_81 s (fun r6 s5 => w_79 r6 s5 (fun r8 s7 => ((r8 = 0 → X37 x1 s7) ∧ (¬ (r8 = 0) → w_81 s7 (fun r10 s9 => w_77_L13 n ((((10 : Int32) * x1) + r10) - (48 : Int32)) (x2 + (1 : Int32)) (sI s9 3504 ((s9.1 3504) + (1 : Int32))) X37 K)))))))
theorem q_77_L13 {d : Nat} {X37 : Int32 → ST → Prop} {K : Int32 → ST → Prop} : ∀ (n : Nat) (x1 : Int32) (x2 : Int32) (s : ST), w_77_L13 n x1 x2 s X37 K → (∀ (y1 : Int32) (s : ST), X37 y1 s → Ex sc (d + 1) 77 37 [.ref 35, .int y1, pu] [] (hpS s) (kI K)) → Ex sc (d + 1) 77 13 [.ref 35, .int x1, .int x2] [] (hpS s) (kI K) := by
  have hq : prog[77]? = some pm77 := rfl
  intro n
  induction n with
  | zero =>
    intro x1 x2 s k
    exact k.elim
  | succ n ih =>
    intro x1 x2 s k hX37
    rw [w_77_L13] at k
    refine Ex.seg hq 2 (j := 15) (L' := [.ref 35, .int x1, .int x2]) (S' := [.int (7 : Int32), .int x2]) (h' := hpS s) rfl ?_
    refine Ex.i2 hq rfl (fun c => ?_) (fun c => ?_)
    · have k := k.1 c
      refine Ex.fg (L := [.ref 35, .int x1, pu]) ⟨Or.inl rfl, ⟨Or.inl rfl, ⟨Or.inr ⟨rfl, rfl⟩, trivial⟩⟩⟩ ?_
      exact hX37 x1 s k
    · have k := k.2 c
      refine Ex.seg hq 1 (j := 17) (L' := [.ref 35, .int x1, .int x2]) (S' := [.ref 35]) (h' := hpS s) rfl ?_
      refine Ex.cl hq rfl rfl ?_
      refine Rn.mono (q_81 (d := d + 0) s k) ?_
      rintro _ _ ⟨r6, s5, rfl, rfl, k⟩
      show Ex sc (d + 1) 77 18 [.ref 35, .int x1, .int x2] [.int r6] (hpS s5) _
      refine Ex.cl hq rfl rfl ?_
      refine Rn.mono (q_79 (d := d + 0) r6 s5 k) ?_
      rintro _ _ ⟨r8, s7, rfl, hzr8, rfl, k⟩
      show Ex sc (d + 1) 77 19 [.ref 35, .int x1, .int x2] [.int r8] (hpS s7) _
      refine Ex.i1 hq rfl (fun c => ?_) (fun c => ?_)
      · have k := k.1 c
        refine Ex.fg (L := [.ref 35, .int x1, pu]) ⟨Or.inl rfl, ⟨Or.inl rfl, ⟨Or.inr ⟨rfl, rfl⟩, trivial⟩⟩⟩ ?_
        exact hX37 x1 s7 k
      · have k := k.2 c
        refine Ex.seg hq 4 (j := 24) (L' := [.ref 35, .int x1, .int x2]) (S' := [.ref 35, .int ((10 : Int32) * x1)]) (h' := hpS s7) rfl ?_
        refine Ex.cl hq rfl rfl ?_
        refine Rn.mono (q_81 (d := d + 0) s7 k) ?_
        rintro _ _ ⟨r10, s9, rfl, rfl, k⟩
        show Ex sc (d + 1) 77 25 [.ref 35, .int x1, .int x2] [.int r10, .int ((10 : Int32) * x1)] (hpS s9) _
        refine Ex.seg hq 12 (j := 13) (L' := [.ref 35, .int ((((10 : Int32) * x1) + r10) - (48 : Int32)), .int (x2 + (1 : Int32))]) (S' := []) (h' := hpS (sI s9 3504 ((s9.1 3504) + (1 : Int32)))) rfl ?_
        exact ih ((((10 : Int32) * x1) + r10) - (48 : Int32)) (x2 + (1 : Int32)) (sI s9 3504 ((s9.1 3504) + (1 : Int32))) k hX37
/-- RowAuditor$Parser.number()I -/
def w_77  (s : ST) (K : Int32 → ST → Prop) : Prop := w_81 s (fun r2 s1 => w_79 r2 s1 (fun r4 s3 => ((¬ r4 = 0 → (∃ m, w_77_L13 m (0 : Int32) (0 : Int32) s3 (fun y1 s11 => w_81 s11 (fun r13 s12 => w_79 r13 s12 (fun r15 s14 => ((r15 = 0 → K y1 s14) ∧ (¬ (r15 = 0) → w_85 (2 : Int32) (s14.1 3504) s14 (fun s16 => K y1 s16)))))) K)) ∧ (¬ (¬ r4 = 0) → w_85 (1 : Int32) (s3.1 3504) s3 (fun s18 => (∃ m, w_77_L13 m (0 : Int32) (0 : Int32) s18 (fun y1 s20 => w_81 s20 (fun r22 s21 => w_79 r22 s21 (fun r24 s23 => ((r24 = 0 → K y1 s23) ∧ (¬ (r24 = 0) → w_85 (2 : Int32) (s23.1 3504) s23 (fun s25 => K y1 s25)))))) K))))))
theorem q_77 {d : Nat} {K : Int32 → ST → Prop}  (s : ST) (k : w_77  s K) : Rn sc (d + 1) 77 [.ref 35] (hpS s) (kI K) := by
  have hq : prog[77]? = some pm77 := rfl
  refine Rn.of (L := [.ref 35, pu, pu]) hq rfl rfl ?_
  unfold w_77 at k
  refine Ex.seg hq 1 (j := 1) (L' := [.ref 35, pu, pu]) (S' := [.ref 35]) (h' := hpS s) rfl ?_
  refine Ex.cl hq rfl rfl ?_
  refine Rn.mono (q_81 (d := d + 0) s k) ?_
  rintro _ _ ⟨r2, s1, rfl, rfl, k⟩
  show Ex sc (d + 1) 77 2 [.ref 35, pu, pu] [.int r2] (hpS s1) _
  refine Ex.cl hq rfl rfl ?_
  refine Rn.mono (q_79 (d := d + 0) r2 s1 k) ?_
  rintro _ _ ⟨r4, s3, rfl, hzr4, rfl, k⟩
  show Ex sc (d + 1) 77 3 [.ref 35, pu, pu] [.int r4] (hpS s3) _
  refine Ex.i1 hq rfl (fun c => ?_) (fun c => ?_)
  · have k := k.1 c
    refine Ex.seg hq 4 (j := 13) (L' := [.ref 35, .int (0 : Int32), .int (0 : Int32)]) (S' := []) (h' := hpS s3) rfl ?_
    obtain ⟨m, k⟩ := k
    refine q_77_L13 (d := d) m (0 : Int32) (0 : Int32) s3 k ?_
    · intro y1 s11 k
      refine Ex.seg hq 1 (j := 38) (L' := [.ref 35, .int y1, pu]) (S' := [.ref 35]) (h' := hpS s11) rfl ?_
      refine Ex.cl hq rfl rfl ?_
      refine Rn.mono (q_81 (d := d + 0) s11 k) ?_
      rintro _ _ ⟨r13, s12, rfl, rfl, k⟩
      show Ex sc (d + 1) 77 39 [.ref 35, .int y1, pu] [.int r13] (hpS s12) _
      refine Ex.cl hq rfl rfl ?_
      refine Rn.mono (q_79 (d := d + 0) r13 s12 k) ?_
      rintro _ _ ⟨r15, s14, rfl, hzr15, rfl, k⟩
      show Ex sc (d + 1) 77 40 [.ref 35, .int y1, pu] [.int r15] (hpS s14) _
      refine Ex.i1 hq rfl (fun c => ?_) (fun c => ?_)
      · have k := k.1 c
        refine Ex.seg hq 1 (j := 47) (L' := [.ref 35, .int y1, pu]) (S' := [.int y1]) (h' := hpS s14) rfl ?_
        exact Ex.rt hq rfl rfl ⟨y1, s14, rfl, rfl, k⟩
      · have k := k.2 c
        refine Ex.seg hq 4 (j := 45) (L' := [.ref 35, .int y1, pu]) (S' := [.int (s14.1 3504), .int (2 : Int32), .ref 35]) (h' := hpS s14) rfl ?_
        refine Ex.cl hq rfl rfl ?_
        refine Rn.mono (q_85 (d := d + 0) (2 : Int32) (s14.1 3504) s14 k) ?_
        rintro _ _ ⟨s16, rfl, rfl, k⟩
        show Ex sc (d + 1) 77 46 [.ref 35, .int y1, pu] [] (hpS s16) _
        refine Ex.seg hq 1 (j := 47) (L' := [.ref 35, .int y1, pu]) (S' := [.int y1]) (h' := hpS s16) rfl ?_
        exact Ex.rt hq rfl rfl ⟨y1, s16, rfl, rfl, k⟩
  · have k := k.2 c
    refine Ex.seg hq 4 (j := 8) (L' := [.ref 35, pu, pu]) (S' := [.int (s3.1 3504), .int (1 : Int32), .ref 35]) (h' := hpS s3) rfl ?_
    refine Ex.cl hq rfl rfl ?_
    refine Rn.mono (q_85 (d := d + 0) (1 : Int32) (s3.1 3504) s3 k) ?_
    rintro _ _ ⟨s18, rfl, rfl, k⟩
    show Ex sc (d + 1) 77 9 [.ref 35, pu, pu] [] (hpS s18) _
    refine Ex.seg hq 4 (j := 13) (L' := [.ref 35, .int (0 : Int32), .int (0 : Int32)]) (S' := []) (h' := hpS s18) rfl ?_
    obtain ⟨m, k⟩ := k
    refine q_77_L13 (d := d) m (0 : Int32) (0 : Int32) s18 k ?_
    · intro y1 s20 k
      refine Ex.seg hq 1 (j := 38) (L' := [.ref 35, .int y1, pu]) (S' := [.ref 35]) (h' := hpS s20) rfl ?_
      refine Ex.cl hq rfl rfl ?_
      refine Rn.mono (q_81 (d := d + 0) s20 k) ?_
      rintro _ _ ⟨r22, s21, rfl, rfl, k⟩
      show Ex sc (d + 1) 77 39 [.ref 35, .int y1, pu] [.int r22] (hpS s21) _
      refine Ex.cl hq rfl rfl ?_
      refine Rn.mono (q_79 (d := d + 0) r22 s21 k) ?_
      rintro _ _ ⟨r24, s23, rfl, hzr24, rfl, k⟩
      show Ex sc (d + 1) 77 40 [.ref 35, .int y1, pu] [.int r24] (hpS s23) _
      refine Ex.i1 hq rfl (fun c => ?_) (fun c => ?_)
      · have k := k.1 c
        refine Ex.seg hq 1 (j := 47) (L' := [.ref 35, .int y1, pu]) (S' := [.int y1]) (h' := hpS s23) rfl ?_
        exact Ex.rt hq rfl rfl ⟨y1, s23, rfl, rfl, k⟩
      · have k := k.2 c
        refine Ex.seg hq 4 (j := 45) (L' := [.ref 35, .int y1, pu]) (S' := [.int (s23.1 3504), .int (2 : Int32), .ref 35]) (h' := hpS s23) rfl ?_
        refine Ex.cl hq rfl rfl ?_
        refine Rn.mono (q_85 (d := d + 0) (2 : Int32) (s23.1 3504) s23 k) ?_
        rintro _ _ ⟨s25, rfl, rfl, k⟩
        show Ex sc (d + 1) 77 46 [.ref 35, .int y1, pu] [] (hpS s25) _
        refine Ex.seg hq 1 (j := 47) (L' := [.ref 35, .int y1, pu]) (S' := [.int y1]) (h' := hpS s25) rfl ?_
        exact Ex.rt hq rfl rfl ⟨y1, s25, rfl, rfl, k⟩
/-- RowAuditor$Parser.emit(II)I -/
def w_86 (p1 : Int32) (p2 : Int32) (s : ST) (K : Int32 → ST → Prop) : Prop := (((s.1 3503) < (Int32.ofNat 160) → (pin (s.1 3503) 160 = true ∧ K (((s.1 3503) + (1 : Int32)) - (1 : Int32)) (sA (sI s 3503 ((s.1 3503) + (1 : Int32))) 36 (upd (s.2.1 36) ((s.1 3503)).toNatClampNeg ((p2 <<< ((4 : Int32) &&& 31)) ||| p1))))) ∧ (¬ ((s.1 3503) < (Int32.ofNat 160)) → K (-1 : Int32) s))
theorem q_86 {d : Nat} {K : Int32 → ST → Prop} (p1 : Int32) (p2 : Int32) (s : ST) (k : w_86 p1 p2 s K) : Rn sc (d + 0) 86 [.ref 35, .int p1, .int p2] (hpS s) (kI K) := by
  have hq : prog[86]? = some pm86 := rfl
  refine Rn.of (L := [.ref 35, .int p1, .int p2]) hq rfl rfl ?_
  unfold w_86 at k
  refine Ex.seg hq 5 (j := 5) (L' := [.ref 35, .int p1, .int p2]) (S' := [.int (Int32.ofNat 160), .int (s.1 3503)]) (h' := hpS s) rfl ?_
  refine Ex.i2 hq rfl (fun c => ?_) (fun c => ?_)
  · have k := k.1 c
    refine Ex.seg hq 9 (j := 17) (L' := [.ref 35, .int p1, .int p2]) (S' := [.int ((p2 <<< ((4 : Int32) &&& 31)) ||| p1), .int (s.1 3503), .ref 36]) (h' := hpS s) rfl ?_
    obtain ⟨hin, k⟩ := k
    refine Ex.ias hq rfl rfl hin (h' := hpS (sA s 36 (upd (s.2.1 36) ((s.1 3503)).toNatClampNeg ((p2 <<< ((4 : Int32) &&& 31)) ||| p1)))) (hset_36 _ _) ?_
    refine Ex.seg hq 10 (j := 28) (L' := [.ref 35, .int p1, .int p2]) (S' := [.int (((s.1 3503) + (1 : Int32)) - (1 : Int32))]) (h' := hpS (sA (sI s 3503 ((s.1 3503) + (1 : Int32))) 36 (upd (s.2.1 36) ((s.1 3503)).toNatClampNeg ((p2 <<< ((4 : Int32) &&& 31)) ||| p1)))) rfl ?_
    exact Ex.rt hq rfl rfl ⟨(((s.1 3503) + (1 : Int32)) - (1 : Int32)), (sA (sI s 3503 ((s.1 3503) + (1 : Int32))) 36 (upd (s.2.1 36) ((s.1 3503)).toNatClampNeg ((p2 <<< ((4 : Int32) &&& 31)) ||| p1))), rfl, rfl, k⟩
  · have k := k.2 c
    refine Ex.seg hq 1 (j := 7) (L' := [.ref 35, .int p1, .int p2]) (S' := [.int (-1 : Int32)]) (h' := hpS s) rfl ?_
    exact Ex.rt hq rfl rfl ⟨(-1 : Int32), s, rfl, rfl, k⟩
/-- RowAuditor$Parser.opens(I)Z -/
def w_80 (p1 : Int32) (s : ST) (K : Int32 → ST → Prop) : Prop := ((p1 < (6 : Int32) → K (1 : Int32) (sI s 3504 ((s.1 3504) + (1 : Int32)))) ∧ (¬ (p1 < (6 : Int32)) → w_85 (5 : Int32) (s.1 3504) s (fun s1 => K (0 : Int32) s1)))
theorem q_80 {d : Nat} {K : Int32 → ST → Prop} (p1 : Int32) (s : ST) (k : w_80 p1 s K) : Rn sc (d + 1) 80 [.ref 35, .int p1] (hpS s) (kZ K) := by
  have hq : prog[80]? = some pm80 := rfl
  refine Rn.of (L := [.ref 35, .int p1]) hq rfl rfl ?_
  unfold w_80 at k
  refine Ex.seg hq 2 (j := 2) (L' := [.ref 35, .int p1]) (S' := [.int (6 : Int32), .int p1]) (h' := hpS s) rfl ?_
  refine Ex.i2 hq rfl (fun c => ?_) (fun c => ?_)
  · have k := k.1 c
    refine Ex.seg hq 7 (j := 17) (L' := [.ref 35, .int p1]) (S' := [.int (1 : Int32)]) (h' := hpS (sI s 3504 ((s.1 3504) + (1 : Int32)))) rfl ?_
    exact Ex.zr hq rfl rfl (Or.inr rfl) ⟨(1 : Int32), (sI s 3504 ((s.1 3504) + (1 : Int32))), rfl, (Or.inr rfl), rfl, k⟩
  · have k := k.2 c
    refine Ex.seg hq 4 (j := 7) (L' := [.ref 35, .int p1]) (S' := [.int (s.1 3504), .int (5 : Int32), .ref 35]) (h' := hpS s) rfl ?_
    refine Ex.cl hq rfl rfl ?_
    refine Rn.mono (q_85 (d := d + 0) (5 : Int32) (s.1 3504) s k) ?_
    rintro _ _ ⟨s1, rfl, rfl, k⟩
    show Ex sc (d + 1) 80 8 [.ref 35, .int p1] [] (hpS s1) _
    refine Ex.seg hq 1 (j := 9) (L' := [.ref 35, .int p1]) (S' := [.int (0 : Int32)]) (h' := hpS s1) rfl ?_
    exact Ex.zr hq rfl rfl (Or.inl rfl) ⟨(0 : Int32), s1, rfl, (Or.inl rfl), rfl, k⟩
/-- RowAuditor$Parser.isClauseLetter(I)Z -/
def w_64 (p0 : Int32) (s : ST) (K : Int32 → ST → Prop) : Prop := ((p0 = (114 : Int32) → K (1 : Int32) s) ∧ (¬ (p0 = (114 : Int32)) → ((p0 = (108 : Int32) → K (1 : Int32) s) ∧ (¬ (p0 = (108 : Int32)) → ((¬ p0 = (120 : Int32) → K (0 : Int32) s) ∧ (¬ (¬ p0 = (120 : Int32)) → K (1 : Int32) s))))))
theorem q_64 {d : Nat} {K : Int32 → ST → Prop} (p0 : Int32) (s : ST) (k : w_64 p0 s K) : Rn sc (d + 0) 64 [.int p0] (hpS s) (kZ K) := by
  have hq : prog[64]? = some pm64 := rfl
  refine Rn.of (L := [.int p0]) hq rfl rfl ?_
  unfold w_64 at k
  refine Ex.seg hq 2 (j := 2) (L' := [.int p0]) (S' := [.int (114 : Int32), .int p0]) (h' := hpS s) rfl ?_
  refine Ex.i2 hq rfl (fun c => ?_) (fun c => ?_)
  · have k := k.1 c
    refine Ex.seg hq 2 (j := 12) (L' := [.int p0]) (S' := [.int (1 : Int32)]) (h' := hpS s) rfl ?_
    exact Ex.zr hq rfl rfl (Or.inr rfl) ⟨(1 : Int32), s, rfl, (Or.inr rfl), rfl, k⟩
  · have k := k.2 c
    refine Ex.seg hq 2 (j := 5) (L' := [.int p0]) (S' := [.int (108 : Int32), .int p0]) (h' := hpS s) rfl ?_
    refine Ex.i2 hq rfl (fun c => ?_) (fun c => ?_)
    · have k := k.1 c
      refine Ex.seg hq 2 (j := 12) (L' := [.int p0]) (S' := [.int (1 : Int32)]) (h' := hpS s) rfl ?_
      exact Ex.zr hq rfl rfl (Or.inr rfl) ⟨(1 : Int32), s, rfl, (Or.inr rfl), rfl, k⟩
    · have k := k.2 c
      refine Ex.seg hq 2 (j := 8) (L' := [.int p0]) (S' := [.int (120 : Int32), .int p0]) (h' := hpS s) rfl ?_
      refine Ex.i2 hq rfl (fun c => ?_) (fun c => ?_)
      · have k := k.1 c
        refine Ex.seg hq 1 (j := 12) (L' := [.int p0]) (S' := [.int (0 : Int32)]) (h' := hpS s) rfl ?_
        exact Ex.zr hq rfl rfl (Or.inl rfl) ⟨(0 : Int32), s, rfl, (Or.inl rfl), rfl, k⟩
      · have k := k.2 c
        refine Ex.seg hq 2 (j := 12) (L' := [.int p0]) (S' := [.int (1 : Int32)]) (h' := hpS s) rfl ?_
        exact Ex.zr hq rfl rfl (Or.inr rfl) ⟨(1 : Int32), s, rfl, (Or.inr rfl), rfl, k⟩
/-- RowAuditor$Parser.numberUpTo(I)I -/
def w_78 (p1 : Int32) (s : ST) (K : Int32 → ST → Prop) : Prop := w_77 s (fun r2 s1 => ((r2 ≤ p1 → K r2 s1) ∧ (¬ (r2 ≤ p1) → w_85 (3 : Int32) (s.1 3504) s1 (fun s3 => K r2 s3))))
theorem q_78 {d : Nat} {K : Int32 → ST → Prop} (p1 : Int32) (s : ST) (k : w_78 p1 s K) : Rn sc (d + 2) 78 [.ref 35, .int p1] (hpS s) (kI K) := by
  have hq : prog[78]? = some pm78 := rfl
  refine Rn.of (L := [.ref 35, .int p1, pu, pu]) hq rfl rfl ?_
  unfold w_78 at k
  refine Ex.seg hq 4 (j := 4) (L' := [.ref 35, .int p1, .int (s.1 3504), pu]) (S' := [.ref 35]) (h' := hpS s) rfl ?_
  refine Ex.cl hq rfl rfl ?_
  refine Rn.mono (q_77 (d := d + 0) s k) ?_
  rintro _ _ ⟨r2, s1, rfl, rfl, k⟩
  show Ex sc (d + 2) 78 5 [.ref 35, .int p1, .int (s.1 3504), pu] [.int r2] (hpS s1) _
  refine Ex.seg hq 3 (j := 8) (L' := [.ref 35, .int p1, .int (s.1 3504), .int r2]) (S' := [.int p1, .int r2]) (h' := hpS s1) rfl ?_
  refine Ex.i2 hq rfl (fun c => ?_) (fun c => ?_)
  · have k := k.1 c
    refine Ex.seg hq 1 (j := 14) (L' := [.ref 35, .int p1, .int (s.1 3504), .int r2]) (S' := [.int r2]) (h' := hpS s1) rfl ?_
    exact Ex.rt hq rfl rfl ⟨r2, s1, rfl, rfl, k⟩
  · have k := k.2 c
    refine Ex.seg hq 3 (j := 12) (L' := [.ref 35, .int p1, .int (s.1 3504), .int r2]) (S' := [.int (s.1 3504), .int (3 : Int32), .ref 35]) (h' := hpS s1) rfl ?_
    refine Ex.cl hq rfl rfl ?_
    refine Rn.mono (q_85 (d := d + 1) (3 : Int32) (s.1 3504) s1 k) ?_
    rintro _ _ ⟨s3, rfl, rfl, k⟩
    show Ex sc (d + 2) 78 13 [.ref 35, .int p1, .int (s.1 3504), .int r2] [] (hpS s3) _
    refine Ex.seg hq 1 (j := 14) (L' := [.ref 35, .int p1, .int (s.1 3504), .int r2]) (S' := [.int r2]) (h' := hpS s3) rfl ?_
    exact Ex.rt hq rfl rfl ⟨r2, s3, rfl, rfl, k⟩
/-- RowAuditor$Clause.<init>(I[III)V -/
def w_18 (p0 : Nat) (p1 : Int32) (p2 : Nat) (p3 : Int32) (p4 : Int32) (s : ST) (K : ST → Prop) : Prop := (∃ f1, pob s.2.2.2.2 p0 1 = some f1 ∧ 0 < f1.length ∧ (∃ f2, pob (s.2.2.2.2.set p0 (.inr (1, f1.set 0 (.int p1)))) p0 1 = some f2 ∧ 1 < f2.length ∧ (∃ f3, pob ((s.2.2.2.2.set p0 (.inr (1, f1.set 0 (.int p1)))).set p0 (.inr (1, f2.set 1 (.ref (p2 + 118))))) p0 1 = some f3 ∧ 2 < f3.length ∧ (∃ f4, pob (((s.2.2.2.2.set p0 (.inr (1, f1.set 0 (.int p1)))).set p0 (.inr (1, f2.set 1 (.ref (p2 + 118))))).set p0 (.inr (1, f3.set 2 (.int p3)))) p0 1 = some f4 ∧ 3 < f4.length ∧ K (sD s ((((s.2.2.2.2.set p0 (.inr (1, f1.set 0 (.int p1)))).set p0 (.inr (1, f2.set 1 (.ref (p2 + 118))))).set p0 (.inr (1, f3.set 2 (.int p3)))).set p0 (.inr (1, f4.set 3 (.int p4)))))))))
theorem q_18 {d : Nat} {K : ST → Prop} (p0 : Nat) (p1 : Int32) (p2 : Nat) (p3 : Int32) (p4 : Int32) (s : ST) (k : w_18 p0 p1 p2 p3 p4 s K) : Rn sc (d + 1) 18 [.ref (p0 + 118), .int p1, .ref (p2 + 118), .int p3, .int p4] (hpS s) (kV K) := by
  have hq : prog[18]? = some pm18 := rfl
  refine Rn.of (L := [.ref (p0 + 118), .int p1, .ref (p2 + 118), .int p3, .int p4]) hq rfl rfl ?_
  unfold w_18 at k
  refine Ex.seg hq 4 (j := 4) (L' := [.ref (p0 + 118), .int p1, .ref (p2 + 118), .int p3, .int p4]) (S' := [.int p1, .ref (p0 + 118)]) (h' := hpS s) rfl ?_
  obtain ⟨f1, e, hk, k⟩ := k
  refine Ex.pfd hq rfl e hk rfl ?_
  show Ex sc (d + 1) 18 5 [.ref (p0 + 118), .int p1, .ref (p2 + 118), .int p3, .int p4] [] (hpS (sD s (s.2.2.2.2.set p0 (.inr (1, f1.set 0 (.int p1)))))) _
  refine Ex.seg hq 2 (j := 7) (L' := [.ref (p0 + 118), .int p1, .ref (p2 + 118), .int p3, .int p4]) (S' := [.ref (p2 + 118), .ref (p0 + 118)]) (h' := hpS (sD s (s.2.2.2.2.set p0 (.inr (1, f1.set 0 (.int p1)))))) rfl ?_
  obtain ⟨f2, e, hk, k⟩ := k
  refine Ex.pfd hq rfl e hk rfl ?_
  show Ex sc (d + 1) 18 8 [.ref (p0 + 118), .int p1, .ref (p2 + 118), .int p3, .int p4] [] (hpS (sD s ((s.2.2.2.2.set p0 (.inr (1, f1.set 0 (.int p1)))).set p0 (.inr (1, f2.set 1 (.ref (p2 + 118))))))) _
  refine Ex.seg hq 2 (j := 10) (L' := [.ref (p0 + 118), .int p1, .ref (p2 + 118), .int p3, .int p4]) (S' := [.int p3, .ref (p0 + 118)]) (h' := hpS (sD s ((s.2.2.2.2.set p0 (.inr (1, f1.set 0 (.int p1)))).set p0 (.inr (1, f2.set 1 (.ref (p2 + 118))))))) rfl ?_
  obtain ⟨f3, e, hk, k⟩ := k
  refine Ex.pfd hq rfl e hk rfl ?_
  show Ex sc (d + 1) 18 11 [.ref (p0 + 118), .int p1, .ref (p2 + 118), .int p3, .int p4] [] (hpS (sD s (((s.2.2.2.2.set p0 (.inr (1, f1.set 0 (.int p1)))).set p0 (.inr (1, f2.set 1 (.ref (p2 + 118))))).set p0 (.inr (1, f3.set 2 (.int p3)))))) _
  refine Ex.seg hq 2 (j := 13) (L' := [.ref (p0 + 118), .int p1, .ref (p2 + 118), .int p3, .int p4]) (S' := [.int p4, .ref (p0 + 118)]) (h' := hpS (sD s (((s.2.2.2.2.set p0 (.inr (1, f1.set 0 (.int p1)))).set p0 (.inr (1, f2.set 1 (.ref (p2 + 118))))).set p0 (.inr (1, f3.set 2 (.int p3)))))) rfl ?_
  obtain ⟨f4, e, hk, k⟩ := k
  refine Ex.pfd hq rfl e hk rfl ?_
  show Ex sc (d + 1) 18 14 [.ref (p0 + 118), .int p1, .ref (p2 + 118), .int p3, .int p4] [] (hpS (sD s ((((s.2.2.2.2.set p0 (.inr (1, f1.set 0 (.int p1)))).set p0 (.inr (1, f2.set 1 (.ref (p2 + 118))))).set p0 (.inr (1, f3.set 2 (.int p3)))).set p0 (.inr (1, f4.set 3 (.int p4)))))) _
  exact Ex.rt hq rfl rfl ⟨(sD s ((((s.2.2.2.2.set p0 (.inr (1, f1.set 0 (.int p1)))).set p0 (.inr (1, f2.set 1 (.ref (p2 + 118))))).set p0 (.inr (1, f3.set 2 (.int p3)))).set p0 (.inr (1, f4.set 3 (.int p4))))), rfl, rfl, k⟩
/-- RowAuditor$Parser.striking()LRowAuditor$Clause; -/
def w_65  (s : ST) (K : Nat → ST → Prop) : Prop := w_83 (120 : Int32) s (fun s1 => w_78 (19 : Int32) s1 (fun r4 s3 => w_83 (46 : Int32) s3 (fun s5 => w_78 (9 : Int32) s5 (fun r8 s7 => (¬ (0 : Int32) < 0 ∧ ((0 : Int32)).toNatClampNeg ≤ 100000 ∧ w_18 s7.2.2.2.2.length (120 : Int32) (s7.2.2.2.2 ++ [(Sum.inr (1, pD1) : PC)]).length r4 r8 (sD s7 ((s7.2.2.2.2 ++ [(Sum.inr (1, pD1) : PC)]) ++ [(Sum.inl (0, ((0 : Int32)).toNatClampNeg, .inl (fun _ => 0)) : PC)])) (fun s9 => K s7.2.2.2.2.length s9))))))
theorem q_65 {d : Nat} {K : Nat → ST → Prop}  (s : ST) (k : w_65  s K) : Rn sc (d + 3) 65 [.ref 35] (hpS s) (kA K) := by
  have hq : prog[65]? = some pm65 := rfl
  refine Rn.of (L := [.ref 35, pu, pu]) hq rfl rfl ?_
  unfold w_65 at k
  refine Ex.seg hq 2 (j := 2) (L' := [.ref 35, pu, pu]) (S' := [.int (120 : Int32), .ref 35]) (h' := hpS s) rfl ?_
  refine Ex.cl hq rfl rfl ?_
  refine Rn.mono (q_83 (d := d + 1) (120 : Int32) s k) ?_
  rintro _ _ ⟨s1, rfl, rfl, k⟩
  show Ex sc (d + 3) 65 3 [.ref 35, pu, pu] [] (hpS s1) _
  refine Ex.seg hq 2 (j := 5) (L' := [.ref 35, pu, pu]) (S' := [.int (19 : Int32), .ref 35]) (h' := hpS s1) rfl ?_
  refine Ex.cl hq rfl rfl ?_
  refine Rn.mono (q_78 (d := d + 0) (19 : Int32) s1 k) ?_
  rintro _ _ ⟨r4, s3, rfl, rfl, k⟩
  show Ex sc (d + 3) 65 6 [.ref 35, pu, pu] [.int r4] (hpS s3) _
  refine Ex.seg hq 3 (j := 9) (L' := [.ref 35, .int r4, pu]) (S' := [.int (46 : Int32), .ref 35]) (h' := hpS s3) rfl ?_
  refine Ex.cl hq rfl rfl ?_
  refine Rn.mono (q_83 (d := d + 1) (46 : Int32) s3 k) ?_
  rintro _ _ ⟨s5, rfl, rfl, k⟩
  show Ex sc (d + 3) 65 10 [.ref 35, .int r4, pu] [] (hpS s5) _
  refine Ex.seg hq 2 (j := 12) (L' := [.ref 35, .int r4, pu]) (S' := [.int (9 : Int32), .ref 35]) (h' := hpS s5) rfl ?_
  refine Ex.cl hq rfl rfl ?_
  refine Rn.mono (q_78 (d := d + 0) (9 : Int32) s5 k) ?_
  rintro _ _ ⟨r8, s7, rfl, rfl, k⟩
  show Ex sc (d + 3) 65 13 [.ref 35, .int r4, pu] [.int r8] (hpS s7) _
  refine Ex.seg hq 1 (j := 14) (L' := [.ref 35, .int r4, .int r8]) (S' := []) (h' := hpS s7) rfl ?_
  refine Ex.nwd hq rfl rfl ?_
  show Ex sc (d + 3) 65 15 [.ref 35, .int r4, .int r8] [.ref (s7.2.2.2.2.length + 118)] (hpS (sD s7 (s7.2.2.2.2 ++ [(Sum.inr (1, pD1) : PC)]))) _
  refine Ex.seg hq 3 (j := 18) (L' := [.ref 35, .int r4, .int r8]) (S' := [.int (0 : Int32), .int (120 : Int32), .ref (s7.2.2.2.2.length + 118), .ref (s7.2.2.2.2.length + 118)]) (h' := hpS (sD s7 (s7.2.2.2.2 ++ [(Sum.inr (1, pD1) : PC)]))) rfl ?_
  obtain ⟨h0, h1, k⟩ := k
  refine Ex.nad hq rfl h0 h1 ?_
  show Ex sc (d + 3) 65 19 [.ref 35, .int r4, .int r8] [.ref ((s7.2.2.2.2 ++ [(Sum.inr (1, pD1) : PC)]).length + 118), .int (120 : Int32), .ref (s7.2.2.2.2.length + 118), .ref (s7.2.2.2.2.length + 118)] (hpS (sD s7 ((s7.2.2.2.2 ++ [(Sum.inr (1, pD1) : PC)]) ++ [(Sum.inl (0, ((0 : Int32)).toNatClampNeg, .inl (fun _ => 0)) : PC)]))) _
  refine Ex.seg hq 2 (j := 21) (L' := [.ref 35, .int r4, .int r8]) (S' := [.int r8, .int r4, .ref ((s7.2.2.2.2 ++ [(Sum.inr (1, pD1) : PC)]).length + 118), .int (120 : Int32), .ref (s7.2.2.2.2.length + 118), .ref (s7.2.2.2.2.length + 118)]) (h' := hpS (sD s7 ((s7.2.2.2.2 ++ [(Sum.inr (1, pD1) : PC)]) ++ [(Sum.inl (0, ((0 : Int32)).toNatClampNeg, .inl (fun _ => 0)) : PC)]))) rfl ?_
  refine Ex.cl hq rfl rfl ?_
  refine Rn.mono (q_18 (d := d + 1) s7.2.2.2.2.length (120 : Int32) (s7.2.2.2.2 ++ [(Sum.inr (1, pD1) : PC)]).length r4 r8 (sD s7 ((s7.2.2.2.2 ++ [(Sum.inr (1, pD1) : PC)]) ++ [(Sum.inl (0, ((0 : Int32)).toNatClampNeg, .inl (fun _ => 0)) : PC)])) k) ?_
  rintro _ _ ⟨s9, rfl, rfl, k⟩
  show Ex sc (d + 3) 65 22 [.ref 35, .int r4, .int r8] [.ref (s7.2.2.2.2.length + 118)] (hpS s9) _
  exact Ex.rt hq rfl rfl ⟨s7.2.2.2.2.length, s9, rfl, rfl, k⟩
/-- RowAuditor$Parser.stepLetter(I)I -/
def w_68 (p0 : Int32) (s : ST) (K : Int32 → ST → Prop) : Prop := ((p0 = (111 : Int32) → K (4 : Int32) s) ∧ (p0 = (112 : Int32) → K (1 : Int32) s) ∧ (p0 = (119 : Int32) → K (2 : Int32) s) ∧ (¬ p0 = (111 : Int32) → ¬ p0 = (112 : Int32) → ¬ p0 = (119 : Int32) → K (0 : Int32) s))
theorem q_68 {d : Nat} {K : Int32 → ST → Prop} (p0 : Int32) (s : ST) (k : w_68 p0 s K) : Rn sc (d + 0) 68 [.int p0] (hpS s) (kI K) := by
  have hq : prog[68]? = some pm68 := rfl
  refine Rn.of (L := [.int p0]) hq rfl rfl ?_
  unfold w_68 at k
  refine Ex.seg hq 1 (j := 1) (L' := [.int p0]) (S' := [.int p0]) (h' := hpS s) rfl ?_
  by_cases c0 : p0 = (111 : Int32)
  · have k := k.1 c0
    refine Ex.lsw hq rfl (t := 6) (by rw [c0]; rfl) ?_
    refine Ex.seg hq 1 (j := 7) (L' := [.int p0]) (S' := [.int (4 : Int32)]) (h' := hpS s) rfl ?_
    exact Ex.rt hq rfl rfl ⟨(4 : Int32), s, rfl, rfl, k⟩
  by_cases c1 : p0 = (112 : Int32)
  · have k := k.2.1 c1
    refine Ex.lsw hq rfl (t := 2) (by rw [c1]; rfl) ?_
    refine Ex.seg hq 1 (j := 3) (L' := [.int p0]) (S' := [.int (1 : Int32)]) (h' := hpS s) rfl ?_
    exact Ex.rt hq rfl rfl ⟨(1 : Int32), s, rfl, rfl, k⟩
  by_cases c2 : p0 = (119 : Int32)
  · have k := k.2.2.1 c2
    refine Ex.lsw hq rfl (t := 4) (by rw [c2]; rfl) ?_
    refine Ex.seg hq 1 (j := 5) (L' := [.int p0]) (S' := [.int (2 : Int32)]) (h' := hpS s) rfl ?_
    exact Ex.rt hq rfl rfl ⟨(2 : Int32), s, rfl, rfl, k⟩
  have k := k.2.2.2 c0 c1 c2
  refine Ex.lsw hq rfl (t := 8) ?_ ?_
  · show plook [(111, 39), (112, 35), (119, 37)] [6, 2, 4] 8 (p0).toInt = 8
    rw [plook, if_neg (lv_neT (a := 111) c0 rfl), plook, if_neg (lv_neT (a := 112) c1 rfl), plook, if_neg (lv_neT (a := 119) c2 rfl), plook]
    all_goals (first | done | simp)
  refine Ex.seg hq 1 (j := 9) (L' := [.int p0]) (S' := [.int (0 : Int32)]) (h' := hpS s) rfl ?_
  exact Ex.rt hq rfl rfl ⟨(0 : Int32), s, rfl, rfl, k⟩
def w_67_L4 : Nat → Int32 → Int32 → ST → (Int32 → ST → Prop) → (Int32 → ST → Prop) → (Int32 → ST → Prop) → Prop
  | 0, _, _, _, _, _, _ => False
  | n + 1, x1, x2, s, X36, X14, K => (((s.1 3502) ≤ x2 → X36 x1 s) ∧ (¬ ((s.1 3502) ≤ x2) → w_81 s (fun r2 s1 => w_68 r2 s1 (fun r4 s3 => ((¬ r4 = 0 → (((x1 &&& r4) = 0 → w_67_L4 n (x1 ||| r4) (x2 + (1 : Int32)) (sI s3 3504 ((s3.1 3504) + (1 : Int32))) X36 X14 K) ∧ (¬ ((x1 &&& r4) = 0) → w_85 (6 : Int32) (s3.1 3504) s3 (fun s5 => w_67_L4 n (x1 ||| r4) (x2 + (1 : Int32)) (sI s5 3504 ((s5.1 3504) + (1 : Int32))) X36 X14 K)))) ∧ (¬ (¬ r4 = 0) → X14 x1 s3))))))
theorem q_67_L4 {d : Nat} {X36 : Int32 → ST → Prop} {X14 : Int32 → ST → Prop} {K : Int32 → ST → Prop} : ∀ (n : Nat) (x1 : Int32) (x2 : Int32) (s : ST), w_67_L4 n x1 x2 s X36 X14 K → (∀ (y1 : Int32) (s : ST), X36 y1 s → Ex sc (d + 1) 67 36 [pu, .int y1, pu, pu] [] (hpS s) (kI K)) → (∀ (y1 : Int32) (s : ST), X14 y1 s → Ex sc (d + 1) 67 14 [pu, .int y1, pu, pu] [] (hpS s) (kI K)) → Ex sc (d + 1) 67 4 [.ref 35, .int x1, .int x2, pu] [] (hpS s) (kI K) := by
  have hq : prog[67]? = some pm67 := rfl
  intro n
  induction n with
  | zero =>
    intro x1 x2 s k
    exact k.elim
  | succ n ih =>
    intro x1 x2 s k hX36 hX14
    rw [w_67_L4] at k
    refine Ex.seg hq 3 (j := 7) (L' := [.ref 35, .int x1, .int x2, pu]) (S' := [.int (s.1 3502), .int x2]) (h' := hpS s) rfl ?_
    refine Ex.i2 hq rfl (fun c => ?_) (fun c => ?_)
    · have k := k.1 c
      refine Ex.fg (L := [pu, .int x1, pu, pu]) ⟨Or.inr ⟨rfl, rfl⟩, ⟨Or.inl rfl, ⟨Or.inr ⟨rfl, rfl⟩, ⟨Or.inl rfl, trivial⟩⟩⟩⟩ ?_
      exact hX36 x1 s k
    · have k := k.2 c
      refine Ex.seg hq 1 (j := 9) (L' := [.ref 35, .int x1, .int x2, pu]) (S' := [.ref 35]) (h' := hpS s) rfl ?_
      refine Ex.cl hq rfl rfl ?_
      refine Rn.mono (q_81 (d := d + 0) s k) ?_
      rintro _ _ ⟨r2, s1, rfl, rfl, k⟩
      show Ex sc (d + 1) 67 10 [.ref 35, .int x1, .int x2, pu] [.int r2] (hpS s1) _
      refine Ex.cl hq rfl rfl ?_
      refine Rn.mono (q_68 (d := d + 0) r2 s1 k) ?_
      rintro _ _ ⟨r4, s3, rfl, rfl, k⟩
      show Ex sc (d + 1) 67 11 [.ref 35, .int x1, .int x2, pu] [.int r4] (hpS s3) _
      refine Ex.seg hq 2 (j := 13) (L' := [.ref 35, .int x1, .int x2, .int r4]) (S' := [.int r4]) (h' := hpS s3) rfl ?_
      refine Ex.i1 hq rfl (fun c => ?_) (fun c => ?_)
      · have k := k.1 c
        refine Ex.seg hq 3 (j := 18) (L' := [.ref 35, .int x1, .int x2, .int r4]) (S' := [.int (x1 &&& r4)]) (h' := hpS s3) rfl ?_
        refine Ex.i1 hq rfl (fun c => ?_) (fun c => ?_)
        · have k := k.1 c
          refine Ex.seg hq 12 (j := 4) (L' := [.ref 35, .int (x1 ||| r4), .int (x2 + (1 : Int32)), .int r4]) (S' := []) (h' := hpS (sI s3 3504 ((s3.1 3504) + (1 : Int32)))) rfl ?_
          refine Ex.fg (L := [.ref 35, .int (x1 ||| r4), .int (x2 + (1 : Int32)), pu]) ⟨Or.inl rfl, ⟨Or.inl rfl, ⟨Or.inl rfl, ⟨Or.inr ⟨rfl, rfl⟩, trivial⟩⟩⟩⟩ ?_
          exact ih (x1 ||| r4) (x2 + (1 : Int32)) (sI s3 3504 ((s3.1 3504) + (1 : Int32))) k hX36 hX14
        · have k := k.2 c
          refine Ex.seg hq 4 (j := 23) (L' := [.ref 35, .int x1, .int x2, .int r4]) (S' := [.int (s3.1 3504), .int (6 : Int32), .ref 35]) (h' := hpS s3) rfl ?_
          refine Ex.cl hq rfl rfl ?_
          refine Rn.mono (q_85 (d := d + 0) (6 : Int32) (s3.1 3504) s3 k) ?_
          rintro _ _ ⟨s5, rfl, rfl, k⟩
          show Ex sc (d + 1) 67 24 [.ref 35, .int x1, .int x2, .int r4] [] (hpS s5) _
          refine Ex.seg hq 12 (j := 4) (L' := [.ref 35, .int (x1 ||| r4), .int (x2 + (1 : Int32)), .int r4]) (S' := []) (h' := hpS (sI s5 3504 ((s5.1 3504) + (1 : Int32)))) rfl ?_
          refine Ex.fg (L := [.ref 35, .int (x1 ||| r4), .int (x2 + (1 : Int32)), pu]) ⟨Or.inl rfl, ⟨Or.inl rfl, ⟨Or.inl rfl, ⟨Or.inr ⟨rfl, rfl⟩, trivial⟩⟩⟩⟩ ?_
          exact ih (x1 ||| r4) (x2 + (1 : Int32)) (sI s5 3504 ((s5.1 3504) + (1 : Int32))) k hX36 hX14
      · have k := k.2 c
        refine Ex.fg (L := [pu, .int x1, pu, pu]) ⟨Or.inr ⟨rfl, rfl⟩, ⟨Or.inl rfl, ⟨Or.inr ⟨rfl, rfl⟩, ⟨Or.inr ⟨rfl, rfl⟩, trivial⟩⟩⟩⟩ ?_
        exact hX14 x1 s3 k
/-- RowAuditor$Parser.stepLetters()I -/
def w_67  (s : ST) (K : Int32 → ST → Prop) : Prop := (∃ m, w_67_L4 m (0 : Int32) (0 : Int32) s (fun y1 s7 => K y1 s7) (fun y1 s8 => K y1 s8) K)
theorem q_67 {d : Nat} {K : Int32 → ST → Prop}  (s : ST) (k : w_67  s K) : Rn sc (d + 1) 67 [.ref 35] (hpS s) (kI K) := by
  have hq : prog[67]? = some pm67 := rfl
  refine Rn.of (L := [.ref 35, pu, pu, pu]) hq rfl rfl ?_
  unfold w_67 at k
  refine Ex.seg hq 4 (j := 4) (L' := [.ref 35, .int (0 : Int32), .int (0 : Int32), pu]) (S' := []) (h' := hpS s) rfl ?_
  obtain ⟨m, k⟩ := k
  refine q_67_L4 (d := d) m (0 : Int32) (0 : Int32) s k ?_ ?_
  · intro y1 s7 k
    refine Ex.seg hq 1 (j := 37) (L' := [pu, .int y1, pu, pu]) (S' := [.int y1]) (h' := hpS s7) rfl ?_
    exact Ex.rt hq rfl rfl ⟨y1, s7, rfl, rfl, k⟩
  · intro y1 s8 k
    refine Ex.seg hq 2 (j := 37) (L' := [pu, .int y1, pu, pu]) (S' := [.int y1]) (h' := hpS s8) rfl ?_
    exact Ex.rt hq rfl rfl ⟨y1, s8, rfl, rfl, k⟩
/-- RowAuditor$Parser.comparison(I)I -/
def w_72 (p1 : Int32) (s : ST) (K : Int32 → ST → Prop) : Prop := (((p1).toInt < 60 ∨ 62 < (p1).toInt → w_85 (1 : Int32) (s.1 3504) s (fun s1 => K (12 : Int32) s1)) ∧ (p1 = (60 : Int32) → K (10 : Int32) s) ∧ (p1 = (61 : Int32) → K (12 : Int32) s) ∧ (p1 = (62 : Int32) → K (11 : Int32) s))
theorem q_72 {d : Nat} {K : Int32 → ST → Prop} (p1 : Int32) (s : ST) (k : w_72 p1 s K) : Rn sc (d + 1) 72 [.ref 35, .int p1] (hpS s) (kI K) := by
  have hq : prog[72]? = some pm72 := rfl
  refine Rn.of (L := [.ref 35, .int p1]) hq rfl rfl ?_
  unfold w_72 at k
  refine Ex.seg hq 1 (j := 1) (L' := [.ref 35, .int p1]) (S' := [.int p1]) (h' := hpS s) rfl ?_
  refine Ex.tsw hq rfl (fun c => ?_) (fun t c ht => ?_) (by decide)
  · have k := k.1 c
    refine Ex.seg hq 4 (j := 12) (L' := [.ref 35, .int p1]) (S' := [.int (s.1 3504), .int (1 : Int32), .ref 35]) (h' := hpS s) rfl ?_
    refine Ex.cl hq rfl rfl ?_
    refine Rn.mono (q_85 (d := d + 0) (1 : Int32) (s.1 3504) s k) ?_
    rintro _ _ ⟨s1, rfl, rfl, k⟩
    show Ex sc (d + 1) 72 13 [.ref 35, .int p1] [] (hpS s1) _
    refine Ex.seg hq 1 (j := 14) (L' := [.ref 35, .int p1]) (S' := [.int (12 : Int32)]) (h' := hpS s1) rfl ?_
    exact Ex.rt hq rfl rfl ⟨(12 : Int32), s1, rfl, rfl, k⟩
  · have k := k.2
    rcases (show (p1).toInt = 60 ∨ (p1).toInt = 61 ∨ (p1).toInt = 62 by omega) with e | e | e
    · have cx : p1 = (60 : Int32) := Int32.toInt_inj.mp (by rw [e]; rfl)
      have k := k.1 cx
      rw [e] at ht
      have ht : (some 2 : Option Nat) = some t := ht
      cases ht
      refine Ex.seg hq 1 (j := 3) (L' := [.ref 35, .int p1]) (S' := [.int (10 : Int32)]) (h' := hpS s) rfl ?_
      exact Ex.rt hq rfl rfl ⟨(10 : Int32), s, rfl, rfl, k⟩
    · have cx : p1 = (61 : Int32) := Int32.toInt_inj.mp (by rw [e]; rfl)
      have k := k.2.1 cx
      rw [e] at ht
      have ht : (some 6 : Option Nat) = some t := ht
      cases ht
      refine Ex.seg hq 1 (j := 7) (L' := [.ref 35, .int p1]) (S' := [.int (12 : Int32)]) (h' := hpS s) rfl ?_
      exact Ex.rt hq rfl rfl ⟨(12 : Int32), s, rfl, rfl, k⟩
    · have cx : p1 = (62 : Int32) := Int32.toInt_inj.mp (by rw [e]; rfl)
      have k := k.2.2 cx
      rw [e] at ht
      have ht : (some 4 : Option Nat) = some t := ht
      cases ht
      refine Ex.seg hq 1 (j := 5) (L' := [.ref 35, .int p1]) (S' := [.int (11 : Int32)]) (h' := hpS s) rfl ?_
      exact Ex.rt hq rfl rfl ⟨(11 : Int32), s, rfl, rfl, k⟩
/-- RowAuditor$Parser.isFactorSign(I)Z -/
def w_75 (p0 : Int32) (s : ST) (K : Int32 → ST → Prop) : Prop := ((p0 = (42 : Int32) → K (1 : Int32) s) ∧ (¬ (p0 = (42 : Int32)) → ((p0 = (47 : Int32) → K (1 : Int32) s) ∧ (¬ (p0 = (47 : Int32)) → ((¬ p0 = (37 : Int32) → K (0 : Int32) s) ∧ (¬ (¬ p0 = (37 : Int32)) → K (1 : Int32) s))))))
theorem q_75 {d : Nat} {K : Int32 → ST → Prop} (p0 : Int32) (s : ST) (k : w_75 p0 s K) : Rn sc (d + 0) 75 [.int p0] (hpS s) (kZ K) := by
  have hq : prog[75]? = some pm75 := rfl
  refine Rn.of (L := [.int p0]) hq rfl rfl ?_
  unfold w_75 at k
  refine Ex.seg hq 2 (j := 2) (L' := [.int p0]) (S' := [.int (42 : Int32), .int p0]) (h' := hpS s) rfl ?_
  refine Ex.i2 hq rfl (fun c => ?_) (fun c => ?_)
  · have k := k.1 c
    refine Ex.seg hq 2 (j := 12) (L' := [.int p0]) (S' := [.int (1 : Int32)]) (h' := hpS s) rfl ?_
    exact Ex.zr hq rfl rfl (Or.inr rfl) ⟨(1 : Int32), s, rfl, (Or.inr rfl), rfl, k⟩
  · have k := k.2 c
    refine Ex.seg hq 2 (j := 5) (L' := [.int p0]) (S' := [.int (47 : Int32), .int p0]) (h' := hpS s) rfl ?_
    refine Ex.i2 hq rfl (fun c => ?_) (fun c => ?_)
    · have k := k.1 c
      refine Ex.seg hq 2 (j := 12) (L' := [.int p0]) (S' := [.int (1 : Int32)]) (h' := hpS s) rfl ?_
      exact Ex.zr hq rfl rfl (Or.inr rfl) ⟨(1 : Int32), s, rfl, (Or.inr rfl), rfl, k⟩
    · have k := k.2 c
      refine Ex.seg hq 2 (j := 8) (L' := [.int p0]) (S' := [.int (37 : Int32), .int p0]) (h' := hpS s) rfl ?_
      refine Ex.i2 hq rfl (fun c => ?_) (fun c => ?_)
      · have k := k.1 c
        refine Ex.seg hq 1 (j := 12) (L' := [.int p0]) (S' := [.int (0 : Int32)]) (h' := hpS s) rfl ?_
        exact Ex.zr hq rfl rfl (Or.inl rfl) ⟨(0 : Int32), s, rfl, (Or.inl rfl), rfl, k⟩
      · have k := k.2 c
        refine Ex.seg hq 2 (j := 12) (L' := [.int p0]) (S' := [.int (1 : Int32)]) (h' := hpS s) rfl ?_
        exact Ex.zr hq rfl rfl (Or.inr rfl) ⟨(1 : Int32), s, rfl, (Or.inr rfl), rfl, k⟩
end WP
