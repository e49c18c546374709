/-! ===== weakest preconditions, printed by wip/whole/genwp.py ===== -/
section WP
variable {sc : Nat × (Nat → Int32)}
/-- RowAuditor$View.isKnown(I)Z -/
def w_118 (p1 : Int32) (s : ST) (K : Int32 → ST → Prop) : Prop := ((p1 < 0 → K (0 : Int32) s) ∧ (¬ (p1 < 0) → (((150 : Int32) ≤ p1 → K (0 : Int32) s) ∧ (¬ ((150 : Int32) ≤ p1) → (pin p1 150 = true ∧ ((((s.2.1 9) (p1).toNatClampNeg) ≤ 0 → K (0 : Int32) s) ∧ (¬ (((s.2.1 9) (p1).toNatClampNeg) ≤ 0) → K (1 : Int32) s)))))))
theorem q_118 {d : Nat} {K : Int32 → ST → Prop} (p1 : Int32) (s : ST) (k : w_118 p1 s K) : Rn sc (d + 0) 118 [.ref 8, .int p1] (hpS s) (kZ K) := by
  have hq : prog[118]? = some pm118 := rfl
  refine Rn.of (L := [.ref 8, .int p1]) hq rfl rfl ?_
  unfold w_118 at k
  refine Ex.seg hq 1 (j := 1) (L' := [.ref 8, .int p1]) (S' := [.int p1]) (h' := hpS s) rfl ?_
  refine Ex.i1 hq rfl (fun c => ?_) (fun c => ?_)
  · have k := k.1 c
    refine Ex.seg hq 1 (j := 13) (L' := [.ref 8, .int p1]) (S' := [.int (0 : Int32)]) (h' := hpS s) rfl ?_
    exact Ex.zr hq rfl rfl (Or.inl rfl) ⟨(0 : Int32), s, rfl, (Or.inl rfl), rfl, k⟩
  · have k := k.2 c
    refine Ex.seg hq 2 (j := 4) (L' := [.ref 8, .int p1]) (S' := [.int (150 : Int32), .int p1]) (h' := hpS s) rfl ?_
    refine Ex.i2 hq rfl (fun c => ?_) (fun c => ?_)
    · have k := k.1 c
      refine Ex.seg hq 1 (j := 13) (L' := [.ref 8, .int p1]) (S' := [.int (0 : Int32)]) (h' := hpS s) rfl ?_
      exact Ex.zr hq rfl rfl (Or.inl rfl) ⟨(0 : Int32), s, rfl, (Or.inl rfl), rfl, k⟩
    · have k := k.2 c
      refine Ex.seg hq 3 (j := 8) (L' := [.ref 8, .int p1]) (S' := [.int p1, .ref 9]) (h' := hpS s) rfl ?_
      obtain ⟨hin, k⟩ := k
      refine Ex.ial hq rfl rfl hin ?_
      refine Ex.i1 hq rfl (fun c => ?_) (fun c => ?_)
      · have k := k.1 c
        refine Ex.seg hq 1 (j := 13) (L' := [.ref 8, .int p1]) (S' := [.int (0 : Int32)]) (h' := hpS s) rfl ?_
        exact Ex.zr hq rfl rfl (Or.inl rfl) ⟨(0 : Int32), s, rfl, (Or.inl rfl), rfl, k⟩
      · have k := k.2 c
        refine Ex.seg hq 2 (j := 13) (L' := [.ref 8, .int p1]) (S' := [.int (1 : Int32)]) (h' := hpS s) rfl ?_
        exact Ex.zr hq rfl rfl (Or.inr rfl) ⟨(1 : Int32), s, rfl, (Or.inr rfl), rfl, k⟩
/-- RowAuditor$View.placeOf(I)I -/
def w_120 (p1 : Int32) (s : ST) (K : Int32 → ST → Prop) : Prop := ((p1 < 0 → K (-1 : Int32) s) ∧ (¬ (p1 < 0) → (((150 : Int32) ≤ p1 → K (-1 : Int32) s) ∧ (¬ ((150 : Int32) ≤ p1) → (pin p1 150 = true ∧ ((((s.2.1 9) (p1).toNatClampNeg) ≤ 0 → K (-1 : Int32) s) ∧ (¬ (((s.2.1 9) (p1).toNatClampNeg) ≤ 0) → (pin p1 150 = true ∧ K ((s.2.1 10) (p1).toNatClampNeg) s))))))))
theorem q_120 {d : Nat} {K : Int32 → ST → Prop} (p1 : Int32) (s : ST) (k : w_120 p1 s K) : Rn sc (d + 0) 120 [.ref 8, .int p1] (hpS s) (kI K) := by
  have hq : prog[120]? = some pm120 := rfl
  refine Rn.of (L := [.ref 8, .int p1]) hq rfl rfl ?_
  unfold w_120 at k
  refine Ex.seg hq 1 (j := 1) (L' := [.ref 8, .int p1]) (S' := [.int p1]) (h' := hpS s) rfl ?_
  refine Ex.i1 hq rfl (fun c => ?_) (fun c => ?_)
  · have k := k.1 c
    refine Ex.seg hq 1 (j := 16) (L' := [.ref 8, .int p1]) (S' := [.int (-1 : Int32)]) (h' := hpS s) rfl ?_
    exact Ex.rt hq rfl rfl ⟨(-1 : Int32), s, rfl, rfl, k⟩
  · have k := k.2 c
    refine Ex.seg hq 2 (j := 4) (L' := [.ref 8, .int p1]) (S' := [.int (150 : Int32), .int p1]) (h' := hpS s) rfl ?_
    refine Ex.i2 hq rfl (fun c => ?_) (fun c => ?_)
    · have k := k.1 c
      refine Ex.seg hq 1 (j := 16) (L' := [.ref 8, .int p1]) (S' := [.int (-1 : Int32)]) (h' := hpS s) rfl ?_
      exact Ex.rt hq rfl rfl ⟨(-1 : Int32), s, rfl, rfl, k⟩
    · have k := k.2 c
      refine Ex.seg hq 3 (j := 8) (L' := [.ref 8, .int p1]) (S' := [.int p1, .ref 9]) (h' := hpS s) rfl ?_
      obtain ⟨hin, k⟩ := k
      refine Ex.ial hq rfl rfl hin ?_
      refine Ex.i1 hq rfl (fun c => ?_) (fun c => ?_)
      · have k := k.1 c
        refine Ex.seg hq 1 (j := 16) (L' := [.ref 8, .int p1]) (S' := [.int (-1 : Int32)]) (h' := hpS s) rfl ?_
        exact Ex.rt hq rfl rfl ⟨(-1 : Int32), s, rfl, rfl, k⟩
      · have k := k.2 c
        refine Ex.seg hq 3 (j := 13) (L' := [.ref 8, .int p1]) (S' := [.int p1, .ref 10]) (h' := hpS s) rfl ?_
        obtain ⟨hin, k⟩ := k
        refine Ex.ial hq rfl rfl hin ?_
        refine Ex.seg hq 1 (j := 16) (L' := [.ref 8, .int p1]) (S' := [.int ((s.2.1 10) (p1).toNatClampNeg)]) (h' := hpS s) rfl ?_
        exact Ex.rt hq rfl rfl ⟨((s.2.1 10) (p1).toNatClampNeg), s, rfl, rfl, k⟩
def w_30_L2 : Nat → Int32 → Int32 → ST → (ST → Prop) → (Int32 → ST → Prop) → (Int32 → ST → Prop) → Prop
  | 0, _, _, _, _, _, _ => False
  | n + 1, x1, x2, s, X24, X20, K => (((s.1 102) ≤ x2 → X24  s) ∧ (¬ ((s.1 102) ≤ x2) → w_118 x2 s (fun r2 s1 => ((r2 = 0 → w_30_L2 n x1 (x2 + (1 : Int32)) s1 X24 X20 K) ∧ (¬ (r2 = 0) → w_120 x2 s1 (fun r4 s3 => w_32 r4 x1 s3 (fun r6 s5 => ((r6 = 0 → w_30_L2 n x1 (x2 + (1 : Int32)) s5 X24 X20 K) ∧ (¬ (r6 = 0) → X20 x2 s5)))))))))
theorem q_30_L2 {d : Nat} {X24 : ST → Prop} {X20 : Int32 → ST → Prop} {K : Int32 → ST → Prop} : ∀ (n : Nat) (x1 : Int32) (x2 : Int32) (s : ST), w_30_L2 n x1 x2 s X24 X20 K → (∀ (s : ST), X24  s → Ex sc (d + 4) 30 24 [pu, pu, pu] [] (hpS s) (kI K)) → (∀ (y2 : Int32) (s : ST), X20 y2 s → Ex sc (d + 4) 30 20 [pu, pu, .int y2] [] (hpS s) (kI K)) → Ex sc (d + 4) 30 2 [.ref 50, .int x1, .int x2] [] (hpS s) (kI K) := by
  have hq : prog[30]? = some pm30 := rfl
  intro n
  induction n with
  | zero =>
    intro x1 x2 s k
    exact k.elim
  | succ n ih =>
    intro x1 x2 s k hX24 hX20
    rw [w_30_L2] at k
    refine Ex.seg hq 4 (j := 6) (L' := [.ref 50, .int x1, .int x2]) (S' := [.int (s.1 102), .int x2]) (h' := hpS s) rfl ?_
    refine Ex.i2 hq rfl (fun c => ?_) (fun c => ?_)
    · have k := k.1 c
      refine Ex.fg (L := [pu, pu, pu]) ⟨Or.inr ⟨rfl, rfl⟩, ⟨Or.inr ⟨rfl, rfl⟩, ⟨Or.inr ⟨rfl, rfl⟩, trivial⟩⟩⟩ ?_
      exact hX24  s k
    · have k := k.2 c
      refine Ex.seg hq 3 (j := 10) (L' := [.ref 50, .int x1, .int x2]) (S' := [.int x2, .ref 8]) (h' := hpS s) rfl ?_
      refine Ex.cl hq rfl rfl ?_
      refine Rn.mono (q_118 (d := d + 3) x2 s k) ?_
      rintro _ _ ⟨r2, s1, rfl, hzr2, rfl, k⟩
      show Ex sc (d + 4) 30 11 [.ref 50, .int x1, .int x2] [.int r2] (hpS s1) _
      refine Ex.i1 hq rfl (fun c => ?_) (fun c => ?_)
      · have k := k.1 c
        refine Ex.seg hq 2 (j := 2) (L' := [.ref 50, .int x1, .int (x2 + (1 : Int32))]) (S' := []) (h' := hpS s1) rfl ?_
        exact ih x1 (x2 + (1 : Int32)) s1 k hX24 hX20
      · have k := k.2 c
        refine Ex.seg hq 4 (j := 16) (L' := [.ref 50, .int x1, .int x2]) (S' := [.int x2, .ref 8, .ref 50]) (h' := hpS s1) rfl ?_
        refine Ex.cl hq rfl rfl ?_
        refine Rn.mono (q_120 (d := d + 3) x2 s1 k) ?_
        rintro _ _ ⟨r4, s3, rfl, rfl, k⟩
        show Ex sc (d + 4) 30 17 [.ref 50, .int x1, .int x2] [.int r4, .ref 50] (hpS s3) _
        refine Ex.seg hq 1 (j := 18) (L' := [.ref 50, .int x1, .int x2]) (S' := [.int x1, .int r4, .ref 50]) (h' := hpS s3) rfl ?_
        refine Ex.cl hq rfl rfl ?_
        refine Rn.mono (q_32 (d := d + 0) r4 x1 s3 k) ?_
        rintro _ _ ⟨r6, s5, rfl, hzr6, rfl, k⟩
        show Ex sc (d + 4) 30 19 [.ref 50, .int x1, .int x2] [.int r6] (hpS s5) _
        refine Ex.i1 hq rfl (fun c => ?_) (fun c => ?_)
        · have k := k.1 c
          refine Ex.seg hq 2 (j := 2) (L' := [.ref 50, .int x1, .int (x2 + (1 : Int32))]) (S' := []) (h' := hpS s5) rfl ?_
          exact ih x1 (x2 + (1 : Int32)) s5 k hX24 hX20
        · have k := k.2 c
          refine Ex.fg (L := [pu, pu, .int x2]) ⟨Or.inr ⟨rfl, rfl⟩, ⟨Or.inr ⟨rfl, rfl⟩, ⟨Or.inl rfl, trivial⟩⟩⟩ ?_
          exact hX20 x2 s5 k
/-- RowAuditor$Fitter.leastFirst(I)I -/
def w_30 (p1 : Int32) (s : ST) (K : Int32 → ST → Prop) : Prop := (∃ m, w_30_L2 m p1 (0 : Int32) s (fun s7 => K (-1 : Int32) s7) (fun y2 s8 => K y2 s8) K)
theorem q_30 {d : Nat} {K : Int32 → ST → Prop} (p1 : Int32) (s : ST) (k : w_30 p1 s K) : Rn sc (d + 4) 30 [.ref 50, .int p1] (hpS s) (kI K) := by
  have hq : prog[30]? = some pm30 := rfl
  refine Rn.of (L := [.ref 50, .int p1, pu]) hq rfl rfl ?_
  unfold w_30 at k
  refine Ex.seg hq 2 (j := 2) (L' := [.ref 50, .int p1, .int (0 : Int32)]) (S' := []) (h' := hpS s) rfl ?_
  obtain ⟨m, k⟩ := k
  refine q_30_L2 (d := d) m p1 (0 : Int32) s k ?_ ?_
  · intro s7 k
    refine Ex.seg hq 1 (j := 25) (L' := [pu, pu, pu]) (S' := [.int (-1 : Int32)]) (h' := hpS s7) rfl ?_
    exact Ex.rt hq rfl rfl ⟨(-1 : Int32), s7, rfl, rfl, k⟩
  · intro y2 s8 k
    refine Ex.seg hq 1 (j := 21) (L' := [pu, pu, .int y2]) (S' := [.int y2]) (h' := hpS s8) rfl ?_
    exact Ex.rt hq rfl rfl ⟨y2, s8, rfl, rfl, k⟩
def w_31_L2 : Nat → Int32 → Int32 → Int32 → Int32 → ST → (ST → Prop) → (Int32 → ST → Prop) → (Int32 → ST → Prop) → Prop
  | 0, _, _, _, _, _, _, _, _ => False
  | n + 1, x1, x2, x3, x4, s, X29, X25, K => (((s.1 102) ≤ x4 → X29  s) ∧ (¬ ((s.1 102) ≤ x4) → w_120 x4 s (fun r2 s1 => ((r2 ≤ x2 → w_31_L2 n x1 x2 x3 (x4 + (1 : Int32)) s1 X29 X25 K) ∧ (¬ (r2 ≤ x2) → (((s1.1 5009) ≤ r2 → w_31_L2 n x1 x2 x3 (x4 + (1 : Int32)) s1 X29 X25 K) ∧ (¬ ((s1.1 5009) ≤ r2) → w_36 x1 r2 x3 s1 (fun r4 s3 => ((r4 = 0 → w_31_L2 n x1 x2 x3 (x4 + (1 : Int32)) s3 X29 X25 K) ∧ (¬ (r4 = 0) → X25 x4 s3))))))))))
theorem q_31_L2 {d : Nat} {X29 : ST → Prop} {X25 : Int32 → ST → Prop} {K : Int32 → ST → Prop} : ∀ (n : Nat) (x1 : Int32) (x2 : Int32) (x3 : Int32) (x4 : Int32) (s : ST), w_31_L2 n x1 x2 x3 x4 s X29 X25 K → (∀ (s : ST), X29  s → Ex sc (d + 3) 31 29 [pu, pu, pu, pu, pu, pu] [] (hpS s) (kI K)) → (∀ (y4 : Int32) (s : ST), X25 y4 s → Ex sc (d + 3) 31 25 [pu, pu, pu, pu, .int y4, pu] [] (hpS s) (kI K)) → Ex sc (d + 3) 31 2 [.ref 50, .int x1, .int x2, .int x3, .int x4, pu] [] (hpS s) (kI K) := by
  have hq : prog[31]? = some pm31 := rfl
  intro n
  induction n with
  | zero =>
    intro x1 x2 x3 x4 s k
    exact k.elim
  | succ n ih =>
    intro x1 x2 x3 x4 s k hX29 hX25
    rw [w_31_L2] at k
    refine Ex.seg hq 4 (j := 6) (L' := [.ref 50, .int x1, .int x2, .int x3, .int x4, pu]) (S' := [.int (s.1 102), .int x4]) (h' := hpS s) rfl ?_
    refine Ex.i2 hq rfl (fun c => ?_) (fun c => ?_)
    · have k := k.1 c
      refine Ex.fg (L := [pu, pu, pu, pu, pu, pu]) ⟨Or.inr ⟨rfl, rfl⟩, ⟨Or.inr ⟨rfl, rfl⟩, ⟨Or.inr ⟨rfl, rfl⟩, ⟨Or.inr ⟨rfl, rfl⟩, ⟨Or.inr ⟨rfl, rfl⟩, ⟨Or.inl rfl, trivial⟩⟩⟩⟩⟩⟩ ?_
      exact hX29  s k
    · have k := k.2 c
      refine Ex.seg hq 3 (j := 10) (L' := [.ref 50, .int x1, .int x2, .int x3, .int x4, pu]) (S' := [.int x4, .ref 8]) (h' := hpS s) rfl ?_
      refine Ex.cl hq rfl rfl ?_
      refine Rn.mono (q_120 (d := d + 2) x4 s k) ?_
      rintro _ _ ⟨r2, s1, rfl, rfl, k⟩
      show Ex sc (d + 3) 31 11 [.ref 50, .int x1, .int x2, .int x3, .int x4, pu] [.int r2] (hpS s1) _
      refine Ex.seg hq 3 (j := 14) (L' := [.ref 50, .int x1, .int x2, .int x3, .int x4, .int r2]) (S' := [.int x2, .int r2]) (h' := hpS s1) rfl ?_
      refine Ex.i2 hq rfl (fun c => ?_) (fun c => ?_)
      · have k := k.1 c
        refine Ex.seg hq 2 (j := 2) (L' := [.ref 50, .int x1, .int x2, .int x3, .int (x4 + (1 : Int32)), .int r2]) (S' := []) (h' := hpS s1) rfl ?_
        refine Ex.fg (L := [.ref 50, .int x1, .int x2, .int x3, .int (x4 + (1 : Int32)), pu]) ⟨Or.inl rfl, ⟨Or.inl rfl, ⟨Or.inl rfl, ⟨Or.inl rfl, ⟨Or.inl rfl, ⟨Or.inr ⟨rfl, rfl⟩, trivial⟩⟩⟩⟩⟩⟩ ?_
        exact ih x1 x2 x3 (x4 + (1 : Int32)) s1 k hX29 hX25
      · have k := k.2 c
        refine Ex.seg hq 3 (j := 18) (L' := [.ref 50, .int x1, .int x2, .int x3, .int x4, .int r2]) (S' := [.int (s1.1 5009), .int r2]) (h' := hpS s1) rfl ?_
        refine Ex.i2 hq rfl (fun c => ?_) (fun c => ?_)
        · have k := k.1 c
          refine Ex.seg hq 2 (j := 2) (L' := [.ref 50, .int x1, .int x2, .int x3, .int (x4 + (1 : Int32)), .int r2]) (S' := []) (h' := hpS s1) rfl ?_
          refine Ex.fg (L := [.ref 50, .int x1, .int x2, .int x3, .int (x4 + (1 : Int32)), pu]) ⟨Or.inl rfl, ⟨Or.inl rfl, ⟨Or.inl rfl, ⟨Or.inl rfl, ⟨Or.inl rfl, ⟨Or.inr ⟨rfl, rfl⟩, trivial⟩⟩⟩⟩⟩⟩ ?_
          exact ih x1 x2 x3 (x4 + (1 : Int32)) s1 k hX29 hX25
        · have k := k.2 c
          refine Ex.seg hq 4 (j := 23) (L' := [.ref 50, .int x1, .int x2, .int x3, .int x4, .int r2]) (S' := [.int x3, .int r2, .int x1, .ref 50]) (h' := hpS s1) rfl ?_
          refine Ex.cl hq rfl rfl ?_
          refine Rn.mono (q_36 (d := d + 0) x1 r2 x3 s1 k) ?_
          rintro _ _ ⟨r4, s3, rfl, hzr4, rfl, k⟩
          show Ex sc (d + 3) 31 24 [.ref 50, .int x1, .int x2, .int x3, .int x4, .int r2] [.int r4] (hpS s3) _
          refine Ex.i1 hq rfl (fun c => ?_) (fun c => ?_)
          · have k := k.1 c
            refine Ex.seg hq 2 (j := 2) (L' := [.ref 50, .int x1, .int x2, .int x3, .int (x4 + (1 : Int32)), .int r2]) (S' := []) (h' := hpS s3) rfl ?_
            refine Ex.fg (L := [.ref 50, .int x1, .int x2, .int x3, .int (x4 + (1 : Int32)), pu]) ⟨Or.inl rfl, ⟨Or.inl rfl, ⟨Or.inl rfl, ⟨Or.inl rfl, ⟨Or.inl rfl, ⟨Or.inr ⟨rfl, rfl⟩, trivial⟩⟩⟩⟩⟩⟩ ?_
            exact ih x1 x2 x3 (x4 + (1 : Int32)) s3 k hX29 hX25
          · have k := k.2 c
            refine Ex.fg (L := [pu, pu, pu, pu, .int x4, pu]) ⟨Or.inr ⟨rfl, rfl⟩, ⟨Or.inr ⟨rfl, rfl⟩, ⟨Or.inr ⟨rfl, rfl⟩, ⟨Or.inr ⟨rfl, rfl⟩, ⟨Or.inl rfl, ⟨Or.inr ⟨rfl, rfl⟩, trivial⟩⟩⟩⟩⟩⟩ ?_
            exact hX25 x4 s3 k
/-- RowAuditor$Fitter.leastNext(III)I -/
def w_31 (p1 : Int32) (p2 : Int32) (p3 : Int32) (s : ST) (K : Int32 → ST → Prop) : Prop := (∃ m, w_31_L2 m p1 p2 p3 (0 : Int32) s (fun s5 => K (-1 : Int32) s5) (fun y4 s6 => K y4 s6) K)
theorem q_31 {d : Nat} {K : Int32 → ST → Prop} (p1 : Int32) (p2 : Int32) (p3 : Int32) (s : ST) (k : w_31 p1 p2 p3 s K) : Rn sc (d + 3) 31 [.ref 50, .int p1, .int p2, .int p3] (hpS s) (kI K) := by
  have hq : prog[31]? = some pm31 := rfl
  refine Rn.of (L := [.ref 50, .int p1, .int p2, .int p3, pu, pu]) hq rfl rfl ?_
  unfold w_31 at k
  refine Ex.seg hq 2 (j := 2) (L' := [.ref 50, .int p1, .int p2, .int p3, .int (0 : Int32), pu]) (S' := []) (h' := hpS s) rfl ?_
  obtain ⟨m, k⟩ := k
  refine q_31_L2 (d := d) m p1 p2 p3 (0 : Int32) s k ?_ ?_
  · intro s5 k
    refine Ex.seg hq 1 (j := 30) (L' := [pu, pu, pu, pu, pu, pu]) (S' := [.int (-1 : Int32)]) (h' := hpS s5) rfl ?_
    exact Ex.rt hq rfl rfl ⟨(-1 : Int32), s5, rfl, rfl, k⟩
  · intro y4 s6 k
    refine Ex.seg hq 1 (j := 26) (L' := [pu, pu, pu, pu, .int y4, pu]) (S' := [.int y4]) (h' := hpS s6) rfl ?_
    exact Ex.rt hq rfl rfl ⟨y4, s6, rfl, rfl, k⟩
def w_29_L18 : Nat → Int32 → Int32 → Int32 → Int32 → ST → (Int32 → ST → Prop) → (Int32 → ST → Prop) → Prop
  | 0, _, _, _, _, _, _, _ => False
  | n + 1, x2, x3, x4, x5, s, X42, K => ((x2 < x5 → X42 x3 s) ∧ (¬ (x2 < x5) → ((x3 = (-1 : Int32) → X42 x3 s) ∧ (¬ (x3 = (-1 : Int32)) → w_119 x3 s (fun r6 s5 => w_120 x3 s5 (fun r8 s7 => w_31 x5 r8 (x4 - r6) s7 (fun r10 s9 => w_29_L18 n x2 r10 (x4 - r6) (x5 + (1 : Int32)) s9 X42 K)))))))
theorem q_29_L18 {d : Nat} {X42 : Int32 → ST → Prop} {K : Int32 → ST → Prop} : ∀ (n : Nat) (x2 : Int32) (x3 : Int32) (x4 : Int32) (x5 : Int32) (s : ST), w_29_L18 n x2 x3 x4 x5 s X42 K → (∀ (y3 : Int32) (s : ST), X42 y3 s → Ex sc (d + 5) 29 42 [pu, pu, pu, .int y3, pu, pu] [] (hpS s) (kI K)) → Ex sc (d + 5) 29 18 [.ref 50, pu, .int x2, .int x3, .int x4, .int x5] [] (hpS s) (kI K) := by
  have hq : prog[29]? = some pm29 := rfl
  intro n
  induction n with
  | zero =>
    intro x2 x3 x4 x5 s k
    exact k.elim
  | succ n ih =>
    intro x2 x3 x4 x5 s k hX42
    rw [w_29_L18] at k
    refine Ex.seg hq 2 (j := 20) (L' := [.ref 50, pu, .int x2, .int x3, .int x4, .int x5]) (S' := [.int x2, .int x5]) (h' := hpS s) rfl ?_
    refine Ex.i2 hq rfl (fun c => ?_) (fun c => ?_)
    · have k := k.1 c
      refine Ex.fg (L := [pu, pu, pu, .int x3, pu, pu]) ⟨Or.inr ⟨rfl, rfl⟩, ⟨Or.inl rfl, ⟨Or.inr ⟨rfl, rfl⟩, ⟨Or.inl rfl, ⟨Or.inr ⟨rfl, rfl⟩, ⟨Or.inr ⟨rfl, rfl⟩, trivial⟩⟩⟩⟩⟩⟩ ?_
      exact hX42 x3 s k
    · have k := k.2 c
      refine Ex.seg hq 2 (j := 23) (L' := [.ref 50, pu, .int x2, .int x3, .int x4, .int x5]) (S' := [.int (-1 : Int32), .int x3]) (h' := hpS s) rfl ?_
      refine Ex.i2 hq rfl (fun c => ?_) (fun c => ?_)
      · have k := k.1 c
        refine Ex.fg (L := [pu, pu, pu, .int x3, pu, pu]) ⟨Or.inr ⟨rfl, rfl⟩, ⟨Or.inl rfl, ⟨Or.inr ⟨rfl, rfl⟩, ⟨Or.inl rfl, ⟨Or.inr ⟨rfl, rfl⟩, ⟨Or.inr ⟨rfl, rfl⟩, trivial⟩⟩⟩⟩⟩⟩ ?_
        exact hX42 x3 s k
      · have k := k.2 c
        refine Ex.seg hq 4 (j := 28) (L' := [.ref 50, pu, .int x2, .int x3, .int x4, .int x5]) (S' := [.int x3, .ref 8, .int x4]) (h' := hpS s) rfl ?_
        refine Ex.cl hq rfl rfl ?_
        refine Rn.mono (q_119 (d := d + 4) x3 s k) ?_
        rintro _ _ ⟨r6, s5, rfl, rfl, k⟩
        show Ex sc (d + 5) 29 29 [.ref 50, pu, .int x2, .int x3, .int x4, .int x5] [.int r6, .int x4] (hpS s5) _
        refine Ex.seg hq 7 (j := 36) (L' := [.ref 50, pu, .int x2, .int x3, .int (x4 - r6), .int x5]) (S' := [.int x3, .ref 8, .int x5, .ref 50]) (h' := hpS s5) rfl ?_
        refine Ex.cl hq rfl rfl ?_
        refine Rn.mono (q_120 (d := d + 4) x3 s5 k) ?_
        rintro _ _ ⟨r8, s7, rfl, rfl, k⟩
        show Ex sc (d + 5) 29 37 [.ref 50, pu, .int x2, .int x3, .int (x4 - r6), .int x5] [.int r8, .int x5, .ref 50] (hpS s7) _
        refine Ex.seg hq 1 (j := 38) (L' := [.ref 50, pu, .int x2, .int x3, .int (x4 - r6), .int x5]) (S' := [.int (x4 - r6), .int r8, .int x5, .ref 50]) (h' := hpS s7) rfl ?_
        refine Ex.cl hq rfl rfl ?_
        refine Rn.mono (q_31 (d := d + 1) x5 r8 (x4 - r6) s7 k) ?_
        rintro _ _ ⟨r10, s9, rfl, rfl, k⟩
        show Ex sc (d + 5) 29 39 [.ref 50, pu, .int x2, .int x3, .int (x4 - r6), .int x5] [.int r10] (hpS s9) _
        refine Ex.seg hq 3 (j := 18) (L' := [.ref 50, pu, .int x2, .int r10, .int (x4 - r6), .int (x5 + (1 : Int32))]) (S' := []) (h' := hpS s9) rfl ?_
        exact ih x2 r10 (x4 - r6) (x5 + (1 : Int32)) s9 k hX42
/-- RowAuditor$Fitter.firstFitting(II)I -/
def w_29 (p1 : Int32) (p2 : Int32) (s : ST) (K : Int32 → ST → Prop) : Prop := w_181 p2 (0 : Int32) ((s.1 5007) - (1 : Int32)) s (fun r2 s1 => ((¬ r2 = 0 → w_30 p1 s1 (fun r4 s3 => (∃ m, w_29_L18 m p2 r4 p1 (1 : Int32) s3 (fun y3 s11 => K y3 s11) K))) ∧ (¬ (¬ r2 = 0) → K (-1 : Int32) s1)))
theorem q_29 {d : Nat} {K : Int32 → ST → Prop} (p1 : Int32) (p2 : Int32) (s : ST) (k : w_29 p1 p2 s K) : Rn sc (d + 5) 29 [.ref 50, .int p1, .int p2] (hpS s) (kI K) := by
  have hq : prog[29]? = some pm29 := rfl
  refine Rn.of (L := [.ref 50, .int p1, .int p2, pu, pu, pu]) hq rfl rfl ?_
  unfold w_29 at k
  refine Ex.seg hq 6 (j := 6) (L' := [.ref 50, .int p1, .int p2, pu, pu, pu]) (S' := [.int ((s.1 5007) - (1 : Int32)), .int (0 : Int32), .int p2]) (h' := hpS s) rfl ?_
  refine Ex.cl hq rfl rfl ?_
  refine Rn.mono (q_181 (d := d + 4) p2 (0 : Int32) ((s.1 5007) - (1 : Int32)) s k) ?_
  rintro _ _ ⟨r2, s1, rfl, hzr2, rfl, k⟩
  show Ex sc (d + 5) 29 7 [.ref 50, .int p1, .int p2, pu, pu, pu] [.int r2] (hpS s1) _
  refine Ex.i1 hq rfl (fun c => ?_) (fun c => ?_)
  · have k := k.1 c
    refine Ex.seg hq 2 (j := 12) (L' := [.ref 50, .int p1, .int p2, pu, pu, pu]) (S' := [.int p1, .ref 50]) (h' := hpS s1) rfl ?_
    refine Ex.cl hq rfl rfl ?_
    refine Rn.mono (q_30 (d := d + 0) p1 s1 k) ?_
    rintro _ _ ⟨r4, s3, rfl, rfl, k⟩
    show Ex sc (d + 5) 29 13 [.ref 50, .int p1, .int p2, pu, pu, pu] [.int r4] (hpS s3) _
    refine Ex.seg hq 5 (j := 18) (L' := [.ref 50, .int p1, .int p2, .int r4, .int p1, .int (1 : Int32)]) (S' := []) (h' := hpS s3) rfl ?_
    obtain ⟨m, k⟩ := k
    refine Ex.fg (L := [.ref 50, pu, .int p2, .int r4, .int p1, .int (1 : Int32)]) ⟨Or.inl rfl, ⟨Or.inr ⟨rfl, rfl⟩, ⟨Or.inl rfl, ⟨Or.inl rfl, ⟨Or.inl rfl, ⟨Or.inl rfl, trivial⟩⟩⟩⟩⟩⟩ ?_
    refine q_29_L18 (d := d) m p2 r4 p1 (1 : Int32) s3 k ?_
    · intro y3 s11 k
      refine Ex.seg hq 1 (j := 43) (L' := [pu, pu, pu, .int y3, pu, pu]) (S' := [.int y3]) (h' := hpS s11) rfl ?_
      exact Ex.rt hq rfl rfl ⟨y3, s11, rfl, rfl, k⟩
  · have k := k.2 c
    refine Ex.seg hq 1 (j := 9) (L' := [.ref 50, .int p1, .int p2, pu, pu, pu]) (S' := [.int (-1 : Int32)]) (h' := hpS s1) rfl ?_
    exact Ex.rt hq rfl rfl ⟨(-1 : Int32), s1, rfl, rfl, k⟩
/-- RowAuditor$Flow.addNode()I -/
def w_44  (s : ST) (K : Int32 → ST → Prop) : Prop := (((s.1 3710) < (163 : Int32) → (pin (s.1 3710) 163 = true ∧ K (((s.1 3710) + (1 : Int32)) - (1 : Int32)) (sA (sI s 3710 ((s.1 3710) + (1 : Int32))) 40 (upd (s.2.1 40) ((s.1 3710)).toNatClampNeg (-1 : Int32))))) ∧ (¬ ((s.1 3710) < (163 : Int32)) → K (2 : Int32) s))
theorem q_44 {d : Nat} {K : Int32 → ST → Prop}  (s : ST) (k : w_44  s K) : Rn sc (d + 0) 44 [.ref 37] (hpS s) (kI K) := by
  have hq : prog[44]? = some pm44 := rfl
  refine Rn.of (L := [.ref 37]) hq rfl rfl ?_
  unfold w_44 at k
  refine Ex.seg hq 3 (j := 3) (L' := [.ref 37]) (S' := [.int (163 : Int32), .int (s.1 3710)]) (h' := hpS s) rfl ?_
  refine Ex.i2 hq rfl (fun c => ?_) (fun c => ?_)
  · have k := k.1 c
    refine Ex.seg hq 5 (j := 11) (L' := [.ref 37]) (S' := [.int (-1 : Int32), .int (s.1 3710), .ref 40]) (h' := hpS s) rfl ?_
    obtain ⟨hin, k⟩ := k
    refine Ex.ias hq rfl rfl hin (h' := hpS (sA s 40 (upd (s.2.1 40) ((s.1 3710)).toNatClampNeg (-1 : Int32)))) (hset_40 _ _) ?_
    refine Ex.seg hq 10 (j := 22) (L' := [.ref 37]) (S' := [.int (((s.1 3710) + (1 : Int32)) - (1 : Int32))]) (h' := hpS (sA (sI s 3710 ((s.1 3710) + (1 : Int32))) 40 (upd (s.2.1 40) ((s.1 3710)).toNatClampNeg (-1 : Int32)))) rfl ?_
    exact Ex.rt hq rfl rfl ⟨(((s.1 3710) + (1 : Int32)) - (1 : Int32)), (sA (sI s 3710 ((s.1 3710) + (1 : Int32))) 40 (upd (s.2.1 40) ((s.1 3710)).toNatClampNeg (-1 : Int32))), rfl, rfl, k⟩
  · have k := k.2 c
    refine Ex.seg hq 1 (j := 5) (L' := [.ref 37]) (S' := [.int (2 : Int32)]) (h' := hpS s) rfl ?_
    exact Ex.rt hq rfl rfl ⟨(2 : Int32), s, rfl, rfl, k⟩
/-- RowAuditor$Flow.addEdge(III)V -/
def w_46 (p1 : Int32) (p2 : Int32) (p3 : Int32) (s : ST) (K : ST → Prop) : Prop := (pin (s.1 3711) 624 = true ∧ (pin (s.1 3711) 624 = true ∧ (pin p1 163 = true ∧ (pin (s.1 3711) 624 = true ∧ (pin p1 163 = true ∧ K (sA (sA (sA (sA (sI s 3711 ((s.1 3711) + (1 : Int32))) 42 (upd (s.2.1 42) ((s.1 3711)).toNatClampNeg p2)) 43 (upd (s.2.1 43) ((s.1 3711)).toNatClampNeg p3)) 41 (upd (s.2.1 41) ((s.1 3711)).toNatClampNeg ((s.2.1 40) (p1).toNatClampNeg))) 40 (upd (s.2.1 40) (p1).toNatClampNeg (s.1 3711))))))))
theorem q_46 {d : Nat} {K : ST → Prop} (p1 : Int32) (p2 : Int32) (p3 : Int32) (s : ST) (k : w_46 p1 p2 p3 s K) : Rn sc (d + 0) 46 [.ref 37, .int p1, .int p2, .int p3] (hpS s) (kV K) := by
  have hq : prog[46]? = some pm46 := rfl
  refine Rn.of (L := [.ref 37, .int p1, .int p2, .int p3]) hq rfl rfl ?_
  unfold w_46 at k
  refine Ex.seg hq 5 (j := 5) (L' := [.ref 37, .int p1, .int p2, .int p3]) (S' := [.int p2, .int (s.1 3711), .ref 42]) (h' := hpS s) rfl ?_
  obtain ⟨hin, k⟩ := k
  refine Ex.ias hq rfl rfl hin (h' := hpS (sA s 42 (upd (s.2.1 42) ((s.1 3711)).toNatClampNeg p2))) (hset_42 _ _) ?_
  refine Ex.seg hq 5 (j := 11) (L' := [.ref 37, .int p1, .int p2, .int p3]) (S' := [.int p3, .int (s.1 3711), .ref 43]) (h' := hpS (sA s 42 (upd (s.2.1 42) ((s.1 3711)).toNatClampNeg p2))) rfl ?_
  obtain ⟨hin, k⟩ := k
  refine Ex.ias hq rfl rfl hin (h' := hpS (sA (sA s 42 (upd (s.2.1 42) ((s.1 3711)).toNatClampNeg p2)) 43 (upd (s.2.1 43) ((s.1 3711)).toNatClampNeg p3))) (hset_43 _ _) ?_
  refine Ex.seg hq 7 (j := 19) (L' := [.ref 37, .int p1, .int p2, .int p3]) (S' := [.int p1, .ref 40, .int (s.1 3711), .ref 41]) (h' := hpS (sA (sA s 42 (upd (s.2.1 42) ((s.1 3711)).toNatClampNeg p2)) 43 (upd (s.2.1 43) ((s.1 3711)).toNatClampNeg p3))) rfl ?_
  obtain ⟨hin, k⟩ := k
  refine Ex.ial hq rfl rfl hin ?_
  obtain ⟨hin, k⟩ := k
  refine Ex.ias hq rfl rfl hin (h' := hpS (sA (sA (sA s 42 (upd (s.2.1 42) ((s.1 3711)).toNatClampNeg p2)) 43 (upd (s.2.1 43) ((s.1 3711)).toNatClampNeg p3)) 41 (upd (s.2.1 41) ((s.1 3711)).toNatClampNeg ((s.2.1 40) (p1).toNatClampNeg)))) (hset_41 _ _) ?_
  refine Ex.seg hq 5 (j := 26) (L' := [.ref 37, .int p1, .int p2, .int p3]) (S' := [.int (s.1 3711), .int p1, .ref 40]) (h' := hpS (sA (sA (sA s 42 (upd (s.2.1 42) ((s.1 3711)).toNatClampNeg p2)) 43 (upd (s.2.1 43) ((s.1 3711)).toNatClampNeg p3)) 41 (upd (s.2.1 41) ((s.1 3711)).toNatClampNeg ((s.2.1 40) (p1).toNatClampNeg)))) rfl ?_
  obtain ⟨hin, k⟩ := k
  refine Ex.ias hq rfl rfl hin (h' := hpS (sA (sA (sA (sA s 42 (upd (s.2.1 42) ((s.1 3711)).toNatClampNeg p2)) 43 (upd (s.2.1 43) ((s.1 3711)).toNatClampNeg p3)) 41 (upd (s.2.1 41) ((s.1 3711)).toNatClampNeg ((s.2.1 40) (p1).toNatClampNeg))) 40 (upd (s.2.1 40) (p1).toNatClampNeg (s.1 3711)))) (hset_40 _ _) ?_
  refine Ex.seg hq 6 (j := 33) (L' := [.ref 37, .int p1, .int p2, .int p3]) (S' := []) (h' := hpS (sA (sA (sA (sA (sI s 3711 ((s.1 3711) + (1 : Int32))) 42 (upd (s.2.1 42) ((s.1 3711)).toNatClampNeg p2)) 43 (upd (s.2.1 43) ((s.1 3711)).toNatClampNeg p3)) 41 (upd (s.2.1 41) ((s.1 3711)).toNatClampNeg ((s.2.1 40) (p1).toNatClampNeg))) 40 (upd (s.2.1 40) (p1).toNatClampNeg (s.1 3711)))) rfl ?_
  exact Ex.rt hq rfl rfl ⟨(sA (sA (sA (sA (sI s 3711 ((s.1 3711) + (1 : Int32))) 42 (upd (s.2.1 42) ((s.1 3711)).toNatClampNeg p2)) 43 (upd (s.2.1 43) ((s.1 3711)).toNatClampNeg p3)) 41 (upd (s.2.1 41) ((s.1 3711)).toNatClampNeg ((s.2.1 40) (p1).toNatClampNeg))) 40 (upd (s.2.1 40) (p1).toNatClampNeg (s.1 3711))), rfl, rfl, k⟩
/-- RowAuditor$Flow.link(III)V -/
def w_45 (p1 : Int32) (p2 : Int32) (p3 : Int32) (s : ST) (K : ST → Prop) : Prop := (((624 : Int32) < ((s.1 3711) + (2 : Int32)) → K s) ∧ (¬ ((624 : Int32) < ((s.1 3711) + (2 : Int32))) → w_181 p1 (0 : Int32) ((s.1 3710) - (1 : Int32)) s (fun r2 s1 => ((r2 = 0 → K s1) ∧ (¬ (r2 = 0) → w_181 p2 (0 : Int32) ((s1.1 3710) - (1 : Int32)) s1 (fun r4 s3 => ((r4 = 0 → K s3) ∧ (¬ (r4 = 0) → w_46 p1 p2 p3 s3 (fun s5 => w_46 p2 p1 (0 : Int32) s5 (fun s7 => K s7))))))))))
theorem q_45 {d : Nat} {K : ST → Prop} (p1 : Int32) (p2 : Int32) (p3 : Int32) (s : ST) (k : w_45 p1 p2 p3 s K) : Rn sc (d + 1) 45 [.ref 37, .int p1, .int p2, .int p3] (hpS s) (kV K) := by
  have hq : prog[45]? = some pm45 := rfl
  refine Rn.of (L := [.ref 37, .int p1, .int p2, .int p3]) hq rfl rfl ?_
  unfold w_45 at k
  refine Ex.seg hq 5 (j := 5) (L' := [.ref 37, .int p1, .int p2, .int p3]) (S' := [.int (624 : Int32), .int ((s.1 3711) + (2 : Int32))]) (h' := hpS s) rfl ?_
  refine Ex.i2 hq rfl (fun c => ?_) (fun c => ?_)
  · have k := k.1 c
    exact Ex.rt hq rfl rfl ⟨s, rfl, rfl, k⟩
  · have k := k.2 c
    refine Ex.seg hq 6 (j := 12) (L' := [.ref 37, .int p1, .int p2, .int p3]) (S' := [.int ((s.1 3710) - (1 : Int32)), .int (0 : Int32), .int p1]) (h' := hpS s) rfl ?_
    refine Ex.cl hq rfl rfl ?_
    refine Rn.mono (q_181 (d := d + 0) p1 (0 : Int32) ((s.1 3710) - (1 : Int32)) s k) ?_
    rintro _ _ ⟨r2, s1, rfl, hzr2, rfl, k⟩
    show Ex sc (d + 1) 45 13 [.ref 37, .int p1, .int p2, .int p3] [.int r2] (hpS s1) _
    refine Ex.i1 hq rfl (fun c => ?_) (fun c => ?_)
    · have k := k.1 c
      exact Ex.rt hq rfl rfl ⟨s1, rfl, rfl, k⟩
    · have k := k.2 c
      refine Ex.seg hq 6 (j := 20) (L' := [.ref 37, .int p1, .int p2, .int p3]) (S' := [.int ((s1.1 3710) - (1 : Int32)), .int (0 : Int32), .int p2]) (h' := hpS s1) rfl ?_
      refine Ex.cl hq rfl rfl ?_
      refine Rn.mono (q_181 (d := d + 0) p2 (0 : Int32) ((s1.1 3710) - (1 : Int32)) s1 k) ?_
      rintro _ _ ⟨r4, s3, rfl, hzr4, rfl, k⟩
      show Ex sc (d + 1) 45 21 [.ref 37, .int p1, .int p2, .int p3] [.int r4] (hpS s3) _
      refine Ex.i1 hq rfl (fun c => ?_) (fun c => ?_)
      · have k := k.1 c
        exact Ex.rt hq rfl rfl ⟨s3, rfl, rfl, k⟩
      · have k := k.2 c
        refine Ex.seg hq 4 (j := 26) (L' := [.ref 37, .int p1, .int p2, .int p3]) (S' := [.int p3, .int p2, .int p1, .ref 37]) (h' := hpS s3) rfl ?_
        refine Ex.cl hq rfl rfl ?_
        refine Rn.mono (q_46 (d := d + 0) p1 p2 p3 s3 k) ?_
        rintro _ _ ⟨s5, rfl, rfl, k⟩
        show Ex sc (d + 1) 45 27 [.ref 37, .int p1, .int p2, .int p3] [] (hpS s5) _
        refine Ex.seg hq 4 (j := 31) (L' := [.ref 37, .int p1, .int p2, .int p3]) (S' := [.int (0 : Int32), .int p1, .int p2, .ref 37]) (h' := hpS s5) rfl ?_
        refine Ex.cl hq rfl rfl ?_
        refine Rn.mono (q_46 (d := d + 0) p2 p1 (0 : Int32) s5 k) ?_
        rintro _ _ ⟨s7, rfl, rfl, k⟩
        show Ex sc (d + 1) 45 32 [.ref 37, .int p1, .int p2, .int p3] [] (hpS s7) _
        exact Ex.rt hq rfl rfl ⟨s7, rfl, rfl, k⟩
def w_41_L8 : Nat → Int32 → Int32 → ST → (Int32 → ST → Prop) → (ST → Prop) → Prop
  | 0, _, _, _, _, _ => False
  | n + 1, x1, x2, s, X16, K => (((2 : Int32) < x2 → X16 x1 s) ∧ (¬ ((2 : Int32) < x2) → w_44 s (fun r2 s1 => w_41_L8 n x1 (x2 + (1 : Int32)) s1 X16 K)))
theorem q_41_L8 {d : Nat} {X16 : Int32 → ST → Prop} {K : ST → Prop} : ∀ (n : Nat) (x1 : Int32) (x2 : Int32) (s : ST), w_41_L8 n x1 x2 s X16 K → (∀ (y1 : Int32) (s : ST), X16 y1 s → Ex sc (d + 2) 41 16 [.ref 37, .int y1, pu] [] (hpS s) (kV K)) → Ex sc (d + 2) 41 8 [.ref 37, .int x1, .int x2] [] (hpS s) (kV K) := by
  have hq : prog[41]? = some pm41 := rfl
  intro n
  induction n with
  | zero =>
    intro x1 x2 s k
    exact k.elim
  | succ n ih =>
    intro x1 x2 s k hX16
    rw [w_41_L8] at k
    refine Ex.seg hq 2 (j := 10) (L' := [.ref 37, .int x1, .int x2]) (S' := [.int (2 : Int32), .int x2]) (h' := hpS s) rfl ?_
    refine Ex.i2 hq rfl (fun c => ?_) (fun c => ?_)
    · have k := k.1 c
      refine Ex.fg (L := [.ref 37, .int x1, pu]) ⟨Or.inl rfl, ⟨Or.inl rfl, ⟨Or.inr ⟨rfl, rfl⟩, trivial⟩⟩⟩ ?_
      exact hX16 x1 s k
    · have k := k.2 c
      refine Ex.seg hq 1 (j := 12) (L' := [.ref 37, .int x1, .int x2]) (S' := [.ref 37]) (h' := hpS s) rfl ?_
      refine Ex.cl hq rfl rfl ?_
      refine Rn.mono (q_44 (d := d + 1) s k) ?_
      rintro _ _ ⟨r2, s1, rfl, rfl, k⟩
      show Ex sc (d + 2) 41 13 [.ref 37, .int x1, .int x2] [.int r2] (hpS s1) _
      refine Ex.seg hq 3 (j := 8) (L' := [.ref 37, .int x1, .int (x2 + (1 : Int32))]) (S' := []) (h' := hpS s1) rfl ?_
      exact ih x1 (x2 + (1 : Int32)) s1 k hX16
def w_41_L18 : Nat → Int32 → Int32 → ST → (Int32 → ST → Prop) → (ST → Prop) → Prop
  | 0, _, _, _, _, _ => False
  | n + 1, x1, x2, s, X42, K => (((s.1 101) ≤ x2 → X42 x1 s) ∧ (¬ ((s.1 101) ≤ x2) → (((10 : Int32) ≤ x2 → X42 x1 s) ∧ (¬ ((10 : Int32) ≤ x2) → w_44 s (fun r5 s4 => (pin x2 10 = true ∧ w_4 x2 (sA s4 38 (upd (s4.2.1 38) (x2).toNatClampNeg r5)) (fun r7 s6 => (pin x2 10 = true ∧ w_41_L18 n x1 (x2 + (1 : Int32)) (sA s6 39 (upd (s6.2.1 39) (x2).toNatClampNeg r7)) X42 K))))))))
theorem q_41_L18 {d : Nat} {X42 : Int32 → ST → Prop} {K : ST → Prop} : ∀ (n : Nat) (x1 : Int32) (x2 : Int32) (s : ST), w_41_L18 n x1 x2 s X42 K → (∀ (y1 : Int32) (s : ST), X42 y1 s → Ex sc (d + 2) 41 42 [.ref 37, .int y1, pu] [] (hpS s) (kV K)) → Ex sc (d + 2) 41 18 [.ref 37, .int x1, .int x2] [] (hpS s) (kV K) := by
  have hq : prog[41]? = some pm41 := rfl
  intro n
  induction n with
  | zero =>
    intro x1 x2 s k
    exact k.elim
  | succ n ih =>
    intro x1 x2 s k hX42
    rw [w_41_L18] at k
    refine Ex.seg hq 4 (j := 22) (L' := [.ref 37, .int x1, .int x2]) (S' := [.int (s.1 101), .int x2]) (h' := hpS s) rfl ?_
    refine Ex.i2 hq rfl (fun c => ?_) (fun c => ?_)
    · have k := k.1 c
      refine Ex.fg (L := [.ref 37, .int x1, pu]) ⟨Or.inl rfl, ⟨Or.inl rfl, ⟨Or.inr ⟨rfl, rfl⟩, trivial⟩⟩⟩ ?_
      exact hX42 x1 s k
    · have k := k.2 c
      refine Ex.seg hq 2 (j := 25) (L' := [.ref 37, .int x1, .int x2]) (S' := [.int (10 : Int32), .int x2]) (h' := hpS s) rfl ?_
      refine Ex.i2 hq rfl (fun c => ?_) (fun c => ?_)
      · have k := k.1 c
        refine Ex.fg (L := [.ref 37, .int x1, pu]) ⟨Or.inl rfl, ⟨Or.inl rfl, ⟨Or.inr ⟨rfl, rfl⟩, trivial⟩⟩⟩ ?_
        exact hX42 x1 s k
      · have k := k.2 c
        refine Ex.seg hq 4 (j := 30) (L' := [.ref 37, .int x1, .int x2]) (S' := [.ref 37, .int x2, .ref 38]) (h' := hpS s) rfl ?_
        refine Ex.cl hq rfl rfl ?_
        refine Rn.mono (q_44 (d := d + 1) s k) ?_
        rintro _ _ ⟨r5, s4, rfl, rfl, k⟩
        show Ex sc (d + 2) 41 31 [.ref 37, .int x1, .int x2] [.int r5, .int x2, .ref 38] (hpS s4) _
        obtain ⟨hin, k⟩ := k
        refine Ex.ias hq rfl rfl hin (h' := hpS (sA s4 38 (upd (s4.2.1 38) (x2).toNatClampNeg r5))) (hset_38 _ _) ?_
        refine Ex.seg hq 6 (j := 38) (L' := [.ref 37, .int x1, .int x2]) (S' := [.int x2, .ref 1, .int x2, .ref 39]) (h' := hpS (sA s4 38 (upd (s4.2.1 38) (x2).toNatClampNeg r5))) rfl ?_
        refine Ex.cl hq rfl rfl ?_
        refine Rn.mono (q_4 (d := d + 1) x2 (sA s4 38 (upd (s4.2.1 38) (x2).toNatClampNeg r5)) k) ?_
        rintro _ _ ⟨r7, s6, rfl, rfl, k⟩
        show Ex sc (d + 2) 41 39 [.ref 37, .int x1, .int x2] [.int r7, .int x2, .ref 39] (hpS s6) _
        obtain ⟨hin, k⟩ := k
        refine Ex.ias hq rfl rfl hin (h' := hpS (sA s6 39 (upd (s6.2.1 39) (x2).toNatClampNeg r7))) (hset_39 _ _) ?_
        refine Ex.seg hq 2 (j := 18) (L' := [.ref 37, .int x1, .int (x2 + (1 : Int32))]) (S' := []) (h' := hpS (sA s6 39 (upd (s6.2.1 39) (x2).toNatClampNeg r7))) rfl ?_
        exact ih x1 (x2 + (1 : Int32)) (sA s6 39 (upd (s6.2.1 39) (x2).toNatClampNeg r7)) k hX42
/-- RowAuditor$Flow.lay(I)V -/
def w_41 (p1 : Int32) (s : ST) (K : ST → Prop) : Prop := (∃ m, w_41_L8 m p1 (0 : Int32) (sI (sI s 3710 (0 : Int32)) 3711 (0 : Int32)) (fun y1 s3 => (∃ m, w_41_L18 m y1 (0 : Int32) s3 (fun y1 s8 => w_181 y1 (0 : Int32) (9 : Int32) s8 (fun r10 s9 => ((r10 = 0 → K s9) ∧ (¬ (r10 = 0) → (pin y1 10 = true ∧ (pin y1 10 = true ∧ w_45 (0 : Int32) ((s9.2.1 38) (y1).toNatClampNeg) ((s9.2.1 39) (y1).toNatClampNeg) s9 (fun s11 => K s11))))))) K)) K)
theorem q_41 {d : Nat} {K : ST → Prop} (p1 : Int32) (s : ST) (k : w_41 p1 s K) : Rn sc (d + 2) 41 [.ref 37, .int p1] (hpS s) (kV K) := by
  have hq : prog[41]? = some pm41 := rfl
  refine Rn.of (L := [.ref 37, .int p1, pu]) hq rfl rfl ?_
  unfold w_41 at k
  refine Ex.seg hq 8 (j := 8) (L' := [.ref 37, .int p1, .int (0 : Int32)]) (S' := []) (h' := hpS (sI (sI s 3710 (0 : Int32)) 3711 (0 : Int32))) rfl ?_
  obtain ⟨m, k⟩ := k
  refine q_41_L8 (d := d) m p1 (0 : Int32) (sI (sI s 3710 (0 : Int32)) 3711 (0 : Int32)) k ?_
  · intro y1 s3 k
    refine Ex.seg hq 2 (j := 18) (L' := [.ref 37, .int y1, .int (0 : Int32)]) (S' := []) (h' := hpS s3) rfl ?_
    obtain ⟨m, k⟩ := k
    refine q_41_L18 (d := d) m y1 (0 : Int32) s3 k ?_
    · intro y1 s8 k
      refine Ex.seg hq 3 (j := 45) (L' := [.ref 37, .int y1, pu]) (S' := [.int (9 : Int32), .int (0 : Int32), .int y1]) (h' := hpS s8) rfl ?_
      refine Ex.cl hq rfl rfl ?_
      refine Rn.mono (q_181 (d := d + 1) y1 (0 : Int32) (9 : Int32) s8 k) ?_
      rintro _ _ ⟨r10, s9, rfl, hzr10, rfl, k⟩
      show Ex sc (d + 2) 41 46 [.ref 37, .int y1, pu] [.int r10] (hpS s9) _
      refine Ex.i1 hq rfl (fun c => ?_) (fun c => ?_)
      · have k := k.1 c
        exact Ex.rt hq rfl rfl ⟨s9, rfl, rfl, k⟩
      · have k := k.2 c
        refine Ex.seg hq 5 (j := 52) (L' := [.ref 37, .int y1, pu]) (S' := [.int y1, .ref 38, .int (0 : Int32), .ref 37]) (h' := hpS s9) rfl ?_
        obtain ⟨hin, k⟩ := k
        refine Ex.ial hq rfl rfl hin ?_
        refine Ex.seg hq 3 (j := 56) (L' := [.ref 37, .int y1, pu]) (S' := [.int y1, .ref 39, .int ((s9.2.1 38) (y1).toNatClampNeg), .int (0 : Int32), .ref 37]) (h' := hpS s9) rfl ?_
        obtain ⟨hin, k⟩ := k
        refine Ex.ial hq rfl rfl hin ?_
        refine Ex.cl hq rfl rfl ?_
        refine Rn.mono (q_45 (d := d + 0) (0 : Int32) ((s9.2.1 38) (y1).toNatClampNeg) ((s9.2.1 39) (y1).toNatClampNeg) s9 k) ?_
        rintro _ _ ⟨s11, rfl, rfl, k⟩
        show Ex sc (d + 2) 41 58 [.ref 37, .int y1, pu] [] (hpS s11) _
        exact Ex.rt hq rfl rfl ⟨s11, rfl, rfl, k⟩
/-- RowAuditor$Flow.give(III)V -/
def w_43 (p1 : Int32) (p2 : Int32) (p3 : Int32) (s : ST) (K : ST → Prop) : Prop := (pin p1 10 = true ∧ (pin p1 10 = true ∧ w_45 ((s.2.1 38) (p1).toNatClampNeg) p2 (if ((s.2.1 39) (p1).toNatClampNeg) < p3 then ((s.2.1 39) (p1).toNatClampNeg) else p3) s (fun s1 => (pin p1 10 = true ∧ (pin p1 10 = true ∧ w_44 (sA s1 39 (upd (s1.2.1 39) (p1).toNatClampNeg (((s1.2.1 39) (p1).toNatClampNeg) - (if ((s.2.1 39) (p1).toNatClampNeg) < p3 then ((s.2.1 39) (p1).toNatClampNeg) else p3)))) (fun r4 s3 => (pin p1 10 = true ∧ (pin p1 10 = true ∧ (pin p1 10 = true ∧ w_45 ((s.2.1 38) (p1).toNatClampNeg) ((upd (s3.2.1 38) (p1).toNatClampNeg r4) (p1).toNatClampNeg) ((s3.2.1 39) (p1).toNatClampNeg) (sA s3 38 (upd (s3.2.1 38) (p1).toNatClampNeg r4)) (fun s5 => K s5))))))))))
theorem q_43 {d : Nat} {K : ST → Prop} (p1 : Int32) (p2 : Int32) (p3 : Int32) (s : ST) (k : w_43 p1 p2 p3 s K) : Rn sc (d + 2) 43 [.ref 37, .int p1, .int p2, .int p3] (hpS s) (kV K) := by
  have hq : prog[43]? = some pm43 := rfl
  refine Rn.of (L := [.ref 37, .int p1, .int p2, .int p3, pu, pu]) hq rfl rfl ?_
  unfold w_43 at k
  refine Ex.seg hq 4 (j := 4) (L' := [.ref 37, .int p1, .int p2, .int p3, pu, pu]) (S' := [.int p1, .ref 39, .int p3]) (h' := hpS s) rfl ?_
  obtain ⟨hin, k⟩ := k
  refine Ex.ial hq rfl rfl hin ?_
  refine Ex.seg hq 5 (j := 10) (L' := [.ref 37, .int p1, .int p2, .int p3, .int (if ((s.2.1 39) (p1).toNatClampNeg) < p3 then ((s.2.1 39) (p1).toNatClampNeg) else p3), pu]) (S' := [.int p1, .ref 38]) (h' := hpS s) rfl ?_
  obtain ⟨hin, k⟩ := k
  refine Ex.ial hq rfl rfl hin ?_
  refine Ex.seg hq 5 (j := 16) (L' := [.ref 37, .int p1, .int p2, .int p3, .int (if ((s.2.1 39) (p1).toNatClampNeg) < p3 then ((s.2.1 39) (p1).toNatClampNeg) else p3), .int ((s.2.1 38) (p1).toNatClampNeg)]) (S' := [.int (if ((s.2.1 39) (p1).toNatClampNeg) < p3 then ((s.2.1 39) (p1).toNatClampNeg) else p3), .int p2, .int ((s.2.1 38) (p1).toNatClampNeg), .ref 37]) (h' := hpS s) rfl ?_
  refine Ex.cl hq rfl rfl ?_
  refine Rn.mono (q_45 (d := d + 0) ((s.2.1 38) (p1).toNatClampNeg) p2 (if ((s.2.1 39) (p1).toNatClampNeg) < p3 then ((s.2.1 39) (p1).toNatClampNeg) else p3) s k) ?_
  rintro _ _ ⟨s1, rfl, rfl, k⟩
  show Ex sc (d + 2) 43 17 [.ref 37, .int p1, .int p2, .int p3, .int (if ((s.2.1 39) (p1).toNatClampNeg) < p3 then ((s.2.1 39) (p1).toNatClampNeg) else p3), .int ((s.2.1 38) (p1).toNatClampNeg)] [] (hpS s1) _
  refine Ex.seg hq 4 (j := 21) (L' := [.ref 37, .int p1, .int p2, .int p3, .int (if ((s.2.1 39) (p1).toNatClampNeg) < p3 then ((s.2.1 39) (p1).toNatClampNeg) else p3), .int ((s.2.1 38) (p1).toNatClampNeg)]) (S' := [.int p1, .ref 39, .int p1, .ref 39]) (h' := hpS s1) rfl ?_
  obtain ⟨hin, k⟩ := k
  refine Ex.ial hq rfl rfl hin ?_
  refine Ex.seg hq 2 (j := 24) (L' := [.ref 37, .int p1, .int p2, .int p3, .int (if ((s.2.1 39) (p1).toNatClampNeg) < p3 then ((s.2.1 39) (p1).toNatClampNeg) else p3), .int ((s.2.1 38) (p1).toNatClampNeg)]) (S' := [.int (((s1.2.1 39) (p1).toNatClampNeg) - (if ((s.2.1 39) (p1).toNatClampNeg) < p3 then ((s.2.1 39) (p1).toNatClampNeg) else p3)), .int p1, .ref 39]) (h' := hpS s1) rfl ?_
  obtain ⟨hin, k⟩ := k
  refine Ex.ias hq rfl rfl hin (h' := hpS (sA s1 39 (upd (s1.2.1 39) (p1).toNatClampNeg (((s1.2.1 39) (p1).toNatClampNeg) - (if ((s.2.1 39) (p1).toNatClampNeg) < p3 then ((s.2.1 39) (p1).toNatClampNeg) else p3))))) (hset_39 _ _) ?_
  refine Ex.seg hq 4 (j := 29) (L' := [.ref 37, .int p1, .int p2, .int p3, .int (if ((s.2.1 39) (p1).toNatClampNeg) < p3 then ((s.2.1 39) (p1).toNatClampNeg) else p3), .int ((s.2.1 38) (p1).toNatClampNeg)]) (S' := [.ref 37, .int p1, .ref 38]) (h' := hpS (sA s1 39 (upd (s1.2.1 39) (p1).toNatClampNeg (((s1.2.1 39) (p1).toNatClampNeg) - (if ((s.2.1 39) (p1).toNatClampNeg) < p3 then ((s.2.1 39) (p1).toNatClampNeg) else p3))))) rfl ?_
  refine Ex.cl hq rfl rfl ?_
  refine Rn.mono (q_44 (d := d + 1) (sA s1 39 (upd (s1.2.1 39) (p1).toNatClampNeg (((s1.2.1 39) (p1).toNatClampNeg) - (if ((s.2.1 39) (p1).toNatClampNeg) < p3 then ((s.2.1 39) (p1).toNatClampNeg) else p3)))) k) ?_
  rintro _ _ ⟨r4, s3, rfl, rfl, k⟩
  show Ex sc (d + 2) 43 30 [.ref 37, .int p1, .int p2, .int p3, .int (if ((s.2.1 39) (p1).toNatClampNeg) < p3 then ((s.2.1 39) (p1).toNatClampNeg) else p3), .int ((s.2.1 38) (p1).toNatClampNeg)] [.int r4, .int p1, .ref 38] (hpS s3) _
  obtain ⟨hin, k⟩ := k
  refine Ex.ias hq rfl rfl hin (h' := hpS (sA s3 38 (upd (s3.2.1 38) (p1).toNatClampNeg r4))) (hset_38 _ _) ?_
  refine Ex.seg hq 5 (j := 36) (L' := [.ref 37, .int p1, .int p2, .int p3, .int (if ((s.2.1 39) (p1).toNatClampNeg) < p3 then ((s.2.1 39) (p1).toNatClampNeg) else p3), .int ((s.2.1 38) (p1).toNatClampNeg)]) (S' := [.int p1, .ref 38, .int ((s.2.1 38) (p1).toNatClampNeg), .ref 37]) (h' := hpS (sA s3 38 (upd (s3.2.1 38) (p1).toNatClampNeg r4))) rfl ?_
  obtain ⟨hin, k⟩ := k
  refine Ex.ial hq rfl rfl hin ?_
  refine Ex.seg hq 3 (j := 40) (L' := [.ref 37, .int p1, .int p2, .int p3, .int (if ((s.2.1 39) (p1).toNatClampNeg) < p3 then ((s.2.1 39) (p1).toNatClampNeg) else p3), .int ((s.2.1 38) (p1).toNatClampNeg)]) (S' := [.int p1, .ref 39, .int ((upd (s3.2.1 38) (p1).toNatClampNeg r4) (p1).toNatClampNeg), .int ((s.2.1 38) (p1).toNatClampNeg), .ref 37]) (h' := hpS (sA s3 38 (upd (s3.2.1 38) (p1).toNatClampNeg r4))) rfl ?_
  obtain ⟨hin, k⟩ := k
  refine Ex.ial hq rfl rfl hin ?_
  refine Ex.cl hq rfl rfl ?_
  refine Rn.mono (q_45 (d := d + 0) ((s.2.1 38) (p1).toNatClampNeg) ((upd (s3.2.1 38) (p1).toNatClampNeg r4) (p1).toNatClampNeg) ((s3.2.1 39) (p1).toNatClampNeg) (sA s3 38 (upd (s3.2.1 38) (p1).toNatClampNeg r4)) k) ?_
  rintro _ _ ⟨s5, rfl, rfl, k⟩
  show Ex sc (d + 2) 43 42 [.ref 37, .int p1, .int p2, .int p3, .int (if ((s.2.1 39) (p1).toNatClampNeg) < p3 then ((s.2.1 39) (p1).toNatClampNeg) else p3), .int ((s.2.1 38) (p1).toNatClampNeg)] [] (hpS s5) _
  exact Ex.rt hq rfl rfl ⟨s5, rfl, rfl, k⟩
/-- RowAuditor$Flow.pass(I)V -/
def w_42 (p1 : Int32) (s : ST) (K : ST → Prop) : Prop := w_9 p1 (0 : Int32) s (fun r2 s1 => w_9 p1 (1 : Int32) s1 (fun r4 s3 => w_16 p1 s3 (fun r6 s5 => w_181 r4 (0 : Int32) (9 : Int32) s5 (fun r8 s7 => ((¬ r8 = 0 → ((¬ r2 = 0 → ((¬ r2 = (1 : Int32) → ((¬ r2 = (2 : Int32) → K s7) ∧ (¬ (¬ r2 = (2 : Int32)) → w_181 r6 (0 : Int32) (9 : Int32) s7 (fun r10 s9 => ((r10 = 0 → K s9) ∧ (¬ (r10 = 0) → (pin r6 10 = true ∧ w_119 p1 s9 (fun r12 s11 => w_43 r4 ((s9.2.1 38) (r6).toNatClampNeg) r12 s11 (fun s13 => (pin r6 10 = true ∧ w_119 p1 s13 (fun r16 s15 => (pin r6 10 = true ∧ K (sA s15 39 (upd (s15.2.1 39) (r6).toNatClampNeg (((s13.2.1 39) (r6).toNatClampNeg) + r16))))))))))))))) ∧ (¬ (¬ r2 = (1 : Int32)) → w_119 p1 s7 (fun r18 s17 => w_43 r4 (2 : Int32) r18 s17 (fun s19 => K s19))))) ∧ (¬ (¬ r2 = 0) → (pin r4 10 = true ∧ w_119 p1 s7 (fun r22 s21 => (pin r4 10 = true ∧ K (sA s21 39 (upd (s21.2.1 39) (r4).toNatClampNeg (((s7.2.1 39) (r4).toNatClampNeg) + r22))))))))) ∧ (¬ (¬ r8 = 0) → K s7))))))
theorem q_42 {d : Nat} {K : ST → Prop} (p1 : Int32) (s : ST) (k : w_42 p1 s K) : Rn sc (d + 3) 42 [.ref 37, .int p1] (hpS s) (kV K) := by
  have hq : prog[42]? = some pm42 := rfl
  refine Rn.of (L := [.ref 37, .int p1, pu, pu, pu]) hq rfl rfl ?_
  unfold w_42 at k
  refine Ex.seg hq 4 (j := 4) (L' := [.ref 37, .int p1, pu, pu, pu]) (S' := [.int (0 : Int32), .int p1, .ref 1]) (h' := hpS s) rfl ?_
  refine Ex.cl hq rfl rfl ?_
  refine Rn.mono (q_9 (d := d + 2) p1 (0 : Int32) s k) ?_
  rintro _ _ ⟨r2, s1, rfl, rfl, k⟩
  show Ex sc (d + 3) 42 5 [.ref 37, .int p1, pu, pu, pu] [.int r2] (hpS s1) _
  refine Ex.seg hq 5 (j := 10) (L' := [.ref 37, .int p1, .int r2, pu, pu]) (S' := [.int (1 : Int32), .int p1, .ref 1]) (h' := hpS s1) rfl ?_
  refine Ex.cl hq rfl rfl ?_
  refine Rn.mono (q_9 (d := d + 2) p1 (1 : Int32) s1 k) ?_
  rintro _ _ ⟨r4, s3, rfl, rfl, k⟩
  show Ex sc (d + 3) 42 11 [.ref 37, .int p1, .int r2, pu, pu] [.int r4] (hpS s3) _
  refine Ex.seg hq 4 (j := 15) (L' := [.ref 37, .int p1, .int r2, .int r4, pu]) (S' := [.int p1, .ref 1]) (h' := hpS s3) rfl ?_
  refine Ex.cl hq rfl rfl ?_
  refine Rn.mono (q_16 (d := d + 1) p1 s3 k) ?_
  rintro _ _ ⟨r6, s5, rfl, rfl, k⟩
  show Ex sc (d + 3) 42 16 [.ref 37, .int p1, .int r2, .int r4, pu] [.int r6] (hpS s5) _
  refine Ex.seg hq 4 (j := 20) (L' := [.ref 37, .int p1, .int r2, .int r4, .int r6]) (S' := [.int (9 : Int32), .int (0 : Int32), .int r4]) (h' := hpS s5) rfl ?_
  refine Ex.cl hq rfl rfl ?_
  refine Rn.mono (q_181 (d := d + 2) r4 (0 : Int32) (9 : Int32) s5 k) ?_
  rintro _ _ ⟨r8, s7, rfl, hzr8, rfl, k⟩
  show Ex sc (d + 3) 42 21 [.ref 37, .int p1, .int r2, .int r4, .int r6] [.int r8] (hpS s7) _
  refine Ex.i1 hq rfl (fun c => ?_) (fun c => ?_)
  · have k := k.1 c
    refine Ex.seg hq 1 (j := 24) (L' := [.ref 37, .int p1, .int r2, .int r4, .int r6]) (S' := [.int r2]) (h' := hpS s7) rfl ?_
    refine Ex.i1 hq rfl (fun c => ?_) (fun c => ?_)
    · have k := k.1 c
      refine Ex.seg hq 2 (j := 39) (L' := [.ref 37, .int p1, .int r2, .int r4, .int r6]) (S' := [.int (1 : Int32), .int r2]) (h' := hpS s7) rfl ?_
      refine Ex.i2 hq rfl (fun c => ?_) (fun c => ?_)
      · have k := k.1 c
        refine Ex.seg hq 2 (j := 51) (L' := [.ref 37, .int p1, .int r2, .int r4, .int r6]) (S' := [.int (2 : Int32), .int r2]) (h' := hpS s7) rfl ?_
        refine Ex.i2 hq rfl (fun c => ?_) (fun c => ?_)
        · have k := k.1 c
          exact Ex.rt hq rfl rfl ⟨s7, rfl, rfl, k⟩
        · have k := k.2 c
          refine Ex.seg hq 3 (j := 55) (L' := [.ref 37, .int p1, .int r2, .int r4, .int r6]) (S' := [.int (9 : Int32), .int (0 : Int32), .int r6]) (h' := hpS s7) rfl ?_
          refine Ex.cl hq rfl rfl ?_
          refine Rn.mono (q_181 (d := d + 2) r6 (0 : Int32) (9 : Int32) s7 k) ?_
          rintro _ _ ⟨r10, s9, rfl, hzr10, rfl, k⟩
          show Ex sc (d + 3) 42 56 [.ref 37, .int p1, .int r2, .int r4, .int r6] [.int r10] (hpS s9) _
          refine Ex.i1 hq rfl (fun c => ?_) (fun c => ?_)
          · have k := k.1 c
            exact Ex.rt hq rfl rfl ⟨s9, rfl, rfl, k⟩
          · have k := k.2 c
            refine Ex.seg hq 5 (j := 62) (L' := [.ref 37, .int p1, .int r2, .int r4, .int r6]) (S' := [.int r6, .ref 38, .int r4, .ref 37]) (h' := hpS s9) rfl ?_
            obtain ⟨hin, k⟩ := k
            refine Ex.ial hq rfl rfl hin ?_
            refine Ex.seg hq 3 (j := 66) (L' := [.ref 37, .int p1, .int r2, .int r4, .int r6]) (S' := [.int p1, .ref 8, .int ((s9.2.1 38) (r6).toNatClampNeg), .int r4, .ref 37]) (h' := hpS s9) rfl ?_
            refine Ex.cl hq rfl rfl ?_
            refine Rn.mono (q_119 (d := d + 2) p1 s9 k) ?_
            rintro _ _ ⟨r12, s11, rfl, rfl, k⟩
            show Ex sc (d + 3) 42 67 [.ref 37, .int p1, .int r2, .int r4, .int r6] [.int r12, .int ((s9.2.1 38) (r6).toNatClampNeg), .int r4, .ref 37] (hpS s11) _
            refine Ex.cl hq rfl rfl ?_
            refine Rn.mono (q_43 (d := d + 0) r4 ((s9.2.1 38) (r6).toNatClampNeg) r12 s11 k) ?_
            rintro _ _ ⟨s13, rfl, rfl, k⟩
            show Ex sc (d + 3) 42 68 [.ref 37, .int p1, .int r2, .int r4, .int r6] [] (hpS s13) _
            refine Ex.seg hq 4 (j := 72) (L' := [.ref 37, .int p1, .int r2, .int r4, .int r6]) (S' := [.int r6, .ref 39, .int r6, .ref 39]) (h' := hpS s13) rfl ?_
            obtain ⟨hin, k⟩ := k
            refine Ex.ial hq rfl rfl hin ?_
            refine Ex.seg hq 3 (j := 76) (L' := [.ref 37, .int p1, .int r2, .int r4, .int r6]) (S' := [.int p1, .ref 8, .int ((s13.2.1 39) (r6).toNatClampNeg), .int r6, .ref 39]) (h' := hpS s13) rfl ?_
            refine Ex.cl hq rfl rfl ?_
            refine Rn.mono (q_119 (d := d + 2) p1 s13 k) ?_
            rintro _ _ ⟨r16, s15, rfl, rfl, k⟩
            show Ex sc (d + 3) 42 77 [.ref 37, .int p1, .int r2, .int r4, .int r6] [.int r16, .int ((s13.2.1 39) (r6).toNatClampNeg), .int r6, .ref 39] (hpS s15) _
            refine Ex.seg hq 1 (j := 78) (L' := [.ref 37, .int p1, .int r2, .int r4, .int r6]) (S' := [.int (((s13.2.1 39) (r6).toNatClampNeg) + r16), .int r6, .ref 39]) (h' := hpS s15) rfl ?_
            obtain ⟨hin, k⟩ := k
            refine Ex.ias hq rfl rfl hin (h' := hpS (sA s15 39 (upd (s15.2.1 39) (r6).toNatClampNeg (((s13.2.1 39) (r6).toNatClampNeg) + r16)))) (hset_39 _ _) ?_
            exact Ex.rt hq rfl rfl ⟨(sA s15 39 (upd (s15.2.1 39) (r6).toNatClampNeg (((s13.2.1 39) (r6).toNatClampNeg) + r16))), rfl, rfl, k⟩
      · have k := k.2 c
        refine Ex.seg hq 6 (j := 46) (L' := [.ref 37, .int p1, .int r2, .int r4, .int r6]) (S' := [.int p1, .ref 8, .int (2 : Int32), .int r4, .ref 37]) (h' := hpS s7) rfl ?_
        refine Ex.cl hq rfl rfl ?_
        refine Rn.mono (q_119 (d := d + 2) p1 s7 k) ?_
        rintro _ _ ⟨r18, s17, rfl, rfl, k⟩
        show Ex sc (d + 3) 42 47 [.ref 37, .int p1, .int r2, .int r4, .int r6] [.int r18, .int (2 : Int32), .int r4, .ref 37] (hpS s17) _
        refine Ex.cl hq rfl rfl ?_
        refine Rn.mono (q_43 (d := d + 0) r4 (2 : Int32) r18 s17 k) ?_
        rintro _ _ ⟨s19, rfl, rfl, k⟩
        show Ex sc (d + 3) 42 48 [.ref 37, .int p1, .int r2, .int r4, .int r6] [] (hpS s19) _
        refine Ex.seg hq 1 (j := 79) (L' := [.ref 37, .int p1, .int r2, .int r4, .int r6]) (S' := []) (h' := hpS s19) rfl ?_
        exact Ex.rt hq rfl rfl ⟨s19, rfl, rfl, k⟩
    · have k := k.2 c
      refine Ex.seg hq 4 (j := 29) (L' := [.ref 37, .int p1, .int r2, .int r4, .int r6]) (S' := [.int r4, .ref 39, .int r4, .ref 39]) (h' := hpS s7) rfl ?_
      obtain ⟨hin, k⟩ := k
      refine Ex.ial hq rfl rfl hin ?_
      refine Ex.seg hq 3 (j := 33) (L' := [.ref 37, .int p1, .int r2, .int r4, .int r6]) (S' := [.int p1, .ref 8, .int ((s7.2.1 39) (r4).toNatClampNeg), .int r4, .ref 39]) (h' := hpS s7) rfl ?_
      refine Ex.cl hq rfl rfl ?_
      refine Rn.mono (q_119 (d := d + 2) p1 s7 k) ?_
      rintro _ _ ⟨r22, s21, rfl, rfl, k⟩
      show Ex sc (d + 3) 42 34 [.ref 37, .int p1, .int r2, .int r4, .int r6] [.int r22, .int ((s7.2.1 39) (r4).toNatClampNeg), .int r4, .ref 39] (hpS s21) _
      refine Ex.seg hq 1 (j := 35) (L' := [.ref 37, .int p1, .int r2, .int r4, .int r6]) (S' := [.int (((s7.2.1 39) (r4).toNatClampNeg) + r22), .int r4, .ref 39]) (h' := hpS s21) rfl ?_
      obtain ⟨hin, k⟩ := k
      refine Ex.ias hq rfl rfl hin (h' := hpS (sA s21 39 (upd (s21.2.1 39) (r4).toNatClampNeg (((s7.2.1 39) (r4).toNatClampNeg) + r22)))) (hset_39 _ _) ?_
      refine Ex.seg hq 1 (j := 79) (L' := [.ref 37, .int p1, .int r2, .int r4, .int r6]) (S' := []) (h' := hpS (sA s21 39 (upd (s21.2.1 39) (r4).toNatClampNeg (((s7.2.1 39) (r4).toNatClampNeg) + r22)))) rfl ?_
      exact Ex.rt hq rfl rfl ⟨(sA s21 39 (upd (s21.2.1 39) (r4).toNatClampNeg (((s7.2.1 39) (r4).toNatClampNeg) + r22))), rfl, rfl, k⟩
  · have k := k.2 c
    exact Ex.rt hq rfl rfl ⟨s7, rfl, rfl, k⟩
def w_302_R44_L5 : Nat → Int32 → Int32 → Int32 → ST → (ST → Prop) → (ST → Prop) → Prop
  | 0, _, _, _, _, _, _ => False
  | n + 1, x1, x2, x3, s, X14, K => ((x3 ≤ x2 → X14  s) ∧ (¬ (x3 ≤ x2) → (pin x2 163 = true ∧ w_302_R44_L5 n x1 (x2 + (1 : Int32)) x3 (sA s 44 (upd (s.2.1 44) (x2).toNatClampNeg x1)) X14 K)))
theorem q_302_R44_L5 {d : Nat} {X14 : ST → Prop} {K : ST → Prop} : ∀ (n : Nat) (x1 : Int32) (x2 : Int32) (x3 : Int32) (s : ST), w_302_R44_L5 n x1 x2 x3 s X14 K → (∀ (s : ST), X14  s → Ex sc (d + 0) 302 14 [pu, pu, pu, pu] [] (hpS s) (kV K)) → Ex sc (d + 0) 302 5 [.ref 44, .int x1, .int x2, .int x3] [] (hpS s) (kV K) := by
  have hq : prog[302]? = some pm302 := rfl
  intro n
  induction n with
  | zero =>
    intro x1 x2 x3 s k
    exact k.elim
  | succ n ih =>
    intro x1 x2 x3 s k hX14
    rw [w_302_R44_L5] at k
    refine Ex.seg hq 2 (j := 7) (L' := [.ref 44, .int x1, .int x2, .int x3]) (S' := [.int x3, .int x2]) (h' := hpS s) rfl ?_
    refine Ex.i2 hq rfl (fun c => ?_) (fun c => ?_)
    · have k := k.1 c
      refine Ex.fg (L := [pu, pu, pu, pu]) ⟨Or.inr ⟨rfl, rfl⟩, ⟨Or.inr ⟨rfl, rfl⟩, ⟨Or.inr ⟨rfl, rfl⟩, ⟨Or.inr ⟨rfl, rfl⟩, trivial⟩⟩⟩⟩ ?_
      exact hX14  s k
    · have k := k.2 c
      refine Ex.seg hq 3 (j := 11) (L' := [.ref 44, .int x1, .int x2, .int x3]) (S' := [.int x1, .int x2, .ref 44]) (h' := hpS s) rfl ?_
      obtain ⟨hin, k⟩ := k
      refine Ex.ias hq rfl rfl hin (h' := hpS (sA s 44 (upd (s.2.1 44) (x2).toNatClampNeg x1))) (hset_44 _ _) ?_
      refine Ex.seg hq 2 (j := 5) (L' := [.ref 44, .int x1, .int (x2 + (1 : Int32)), .int x3]) (S' := []) (h' := hpS (sA s 44 (upd (s.2.1 44) (x2).toNatClampNeg x1))) rfl ?_
      exact ih x1 (x2 + (1 : Int32)) x3 (sA s 44 (upd (s.2.1 44) (x2).toNatClampNeg x1)) k hX14
/-- java/util/Arrays.fill([II)V -/
def w_302_R44 (p1 : Int32) (s : ST) (K : ST → Prop) : Prop := (∃ m, w_302_R44_L5 m p1 (0 : Int32) (Int32.ofNat 163) s (fun s1 => K s1) K)
theorem q_302_R44 {d : Nat} {K : ST → Prop} (p1 : Int32) (s : ST) (k : w_302_R44 p1 s K) : Rn sc (d + 0) 302 [.ref 44, .int p1] (hpS s) (kV K) := by
  have hq : prog[302]? = some pm302 := rfl
  refine Rn.of (L := [.ref 44, .int p1, pu, pu]) hq rfl rfl ?_
  unfold w_302_R44 at k
  refine Ex.seg hq 5 (j := 5) (L' := [.ref 44, .int p1, .int (0 : Int32), .int (Int32.ofNat 163)]) (S' := []) (h' := hpS s) rfl ?_
  obtain ⟨m, k⟩ := k
  refine q_302_R44_L5 (d := d) m p1 (0 : Int32) (Int32.ofNat 163) s k ?_
  · intro s1 k
    exact Ex.rt hq rfl rfl ⟨s1, rfl, rfl, k⟩
/-- RowAuditor$Flow.isEdge(I)Z -/
def w_51 (p1 : Int32) (s : ST) (K : Int32 → ST → Prop) : Prop := w_181 p1 (0 : Int32) ((s.1 3711) - (1 : Int32)) s (fun r2 s1 => K r2 s1)
theorem q_51 {d : Nat} {K : Int32 → ST → Prop} (p1 : Int32) (s : ST) (k : w_51 p1 s K) : Rn sc (d + 1) 51 [.ref 37, .int p1] (hpS s) (kZ K) := by
  have hq : prog[51]? = some pm51 := rfl
  refine Rn.of (L := [.ref 37, .int p1]) hq rfl rfl ?_
  unfold w_51 at k
  refine Ex.seg hq 6 (j := 6) (L' := [.ref 37, .int p1]) (S' := [.int ((s.1 3711) - (1 : Int32)), .int (0 : Int32), .int p1]) (h' := hpS s) rfl ?_
  refine Ex.cl hq rfl rfl ?_
  refine Rn.mono (q_181 (d := d + 0) p1 (0 : Int32) ((s.1 3711) - (1 : Int32)) s k) ?_
  rintro _ _ ⟨r2, s1, rfl, hzr2, rfl, k⟩
  show Ex sc (d + 1) 51 7 [.ref 37, .int p1] [.int r2] (hpS s1) _
  exact Ex.zr hq rfl rfl hzr2 ⟨r2, s1, rfl, hzr2, rfl, k⟩
def w_48_L32 : Nat → Int32 → Int32 → Int32 → ST → (Int32 → Int32 → ST → Prop) → (Int32 → ST → Prop) → Prop
  | 0, _, _, _, _, _, _ => False
  | n + 1, x1, x2, x3, s, X76, K => w_51 x3 s (fun r4 s3 => ((r4 = 0 → X76 x1 x2 s3) ∧ (¬ (r4 = 0) → (pin x3 624 = true ∧ (pin x3 624 = true ∧ ((((s3.2.1 43) (x3).toNatClampNeg) ≤ 0 → (pin x3 624 = true ∧ w_48_L32 n x1 x2 (if ((s3.2.1 41) (x3).toNatClampNeg) < (x3 - (1 : Int32)) then ((s3.2.1 41) (x3).toNatClampNeg) else (x3 - (1 : Int32))) s3 X76 K)) ∧ (¬ (((s3.2.1 43) (x3).toNatClampNeg) ≤ 0) → (pin ((s3.2.1 42) (x3).toNatClampNeg) 163 = true ∧ ((¬ ((s3.2.1 44) (((s3.2.1 42) (x3).toNatClampNeg)).toNatClampNeg) = (-1 : Int32) → (pin x3 624 = true ∧ w_48_L32 n x1 x2 (if ((s3.2.1 41) (x3).toNatClampNeg) < (x3 - (1 : Int32)) then ((s3.2.1 41) (x3).toNatClampNeg) else (x3 - (1 : Int32))) s3 X76 K)) ∧ (¬ (¬ ((s3.2.1 44) (((s3.2.1 42) (x3).toNatClampNeg)).toNatClampNeg) = (-1 : Int32)) → (((163 : Int32) ≤ x1 → (pin x3 624 = true ∧ w_48_L32 n x1 x2 (if ((s3.2.1 41) (x3).toNatClampNeg) < (x3 - (1 : Int32)) then ((s3.2.1 41) (x3).toNatClampNeg) else (x3 - (1 : Int32))) s3 X76 K)) ∧ (¬ ((163 : Int32) ≤ x1) → (pin ((s3.2.1 42) (x3).toNatClampNeg) 163 = true ∧ (pin x1 163 = true ∧ (pin x3 624 = true ∧ w_48_L32 n (x1 + (1 : Int32)) x2 (if ((s3.2.1 41) (x3).toNatClampNeg) < (x3 - (1 : Int32)) then ((s3.2.1 41) (x3).toNatClampNeg) else (x3 - (1 : Int32))) (sA (sA s3 44 (upd (s3.2.1 44) (((s3.2.1 42) (x3).toNatClampNeg)).toNatClampNeg x3)) 45 (upd (s3.2.1 45) (x1).toNatClampNeg ((s3.2.1 42) (x3).toNatClampNeg))) X76 K)))))))))))))))
theorem q_48_L32 {d : Nat} {X76 : Int32 → Int32 → ST → Prop} {K : Int32 → ST → Prop} : ∀ (n : Nat) (x1 : Int32) (x2 : Int32) (x3 : Int32) (s : ST), w_48_L32 n x1 x2 x3 s X76 K → (∀ (y1 : Int32) (y2 : Int32) (s : ST), X76 y1 y2 s → Ex sc (d + 2) 48 76 [.ref 37, .int y1, .int y2, pu, pu] [] (hpS s) (kZ K)) → Ex sc (d + 2) 48 32 [.ref 37, .int x1, .int x2, .int x3, pu] [] (hpS s) (kZ K) := by
  have hq : prog[48]? = some pm48 := rfl
  intro n
  induction n with
  | zero =>
    intro x1 x2 x3 s k
    exact k.elim
  | succ n ih =>
    intro x1 x2 x3 s k hX76
    rw [w_48_L32] at k
    refine Ex.seg hq 2 (j := 34) (L' := [.ref 37, .int x1, .int x2, .int x3, pu]) (S' := [.int x3, .ref 37]) (h' := hpS s) rfl ?_
    refine Ex.cl hq rfl rfl ?_
    refine Rn.mono (q_51 (d := d + 0) x3 s k) ?_
    rintro _ _ ⟨r4, s3, rfl, hzr4, rfl, k⟩
    show Ex sc (d + 2) 48 35 [.ref 37, .int x1, .int x2, .int x3, pu] [.int r4] (hpS s3) _
    refine Ex.i1 hq rfl (fun c => ?_) (fun c => ?_)
    · have k := k.1 c
      refine Ex.fg (L := [.ref 37, .int x1, .int x2, pu, pu]) ⟨Or.inl rfl, ⟨Or.inl rfl, ⟨Or.inl rfl, ⟨Or.inr ⟨rfl, rfl⟩, ⟨Or.inl rfl, trivial⟩⟩⟩⟩⟩ ?_
      exact hX76 x1 x2 s3 k
    · have k := k.2 c
      refine Ex.seg hq 3 (j := 39) (L' := [.ref 37, .int x1, .int x2, .int x3, pu]) (S' := [.int x3, .ref 42]) (h' := hpS s3) rfl ?_
      obtain ⟨hin, k⟩ := k
      refine Ex.ial hq rfl rfl hin ?_
      refine Ex.seg hq 4 (j := 44) (L' := [.ref 37, .int x1, .int x2, .int x3, .int ((s3.2.1 42) (x3).toNatClampNeg)]) (S' := [.int x3, .ref 43]) (h' := hpS s3) rfl ?_
      obtain ⟨hin, k⟩ := k
      refine Ex.ial hq rfl rfl hin ?_
      refine Ex.i1 hq rfl (fun c => ?_) (fun c => ?_)
      · have k := k.1 c
        refine Ex.seg hq 6 (j := 72) (L' := [.ref 37, .int x1, .int x2, .int x3, .int ((s3.2.1 42) (x3).toNatClampNeg)]) (S' := [.int x3, .ref 41, .int (x3 - (1 : Int32))]) (h' := hpS s3) rfl ?_
        obtain ⟨hin, k⟩ := k
        refine Ex.ial hq rfl rfl hin ?_
        refine Ex.seg hq 3 (j := 32) (L' := [.ref 37, .int x1, .int x2, .int (if ((s3.2.1 41) (x3).toNatClampNeg) < (x3 - (1 : Int32)) then ((s3.2.1 41) (x3).toNatClampNeg) else (x3 - (1 : Int32))), .int ((s3.2.1 42) (x3).toNatClampNeg)]) (S' := []) (h' := hpS s3) rfl ?_
        refine Ex.fg (L := [.ref 37, .int x1, .int x2, .int (if ((s3.2.1 41) (x3).toNatClampNeg) < (x3 - (1 : Int32)) then ((s3.2.1 41) (x3).toNatClampNeg) else (x3 - (1 : Int32))), pu]) ⟨Or.inl rfl, ⟨Or.inl rfl, ⟨Or.inl rfl, ⟨Or.inl rfl, ⟨Or.inr ⟨rfl, rfl⟩, trivial⟩⟩⟩⟩⟩ ?_
        exact ih x1 x2 (if ((s3.2.1 41) (x3).toNatClampNeg) < (x3 - (1 : Int32)) then ((s3.2.1 41) (x3).toNatClampNeg) else (x3 - (1 : Int32))) s3 k hX76
      · have k := k.2 c
        refine Ex.seg hq 3 (j := 49) (L' := [.ref 37, .int x1, .int x2, .int x3, .int ((s3.2.1 42) (x3).toNatClampNeg)]) (S' := [.int ((s3.2.1 42) (x3).toNatClampNeg), .ref 44]) (h' := hpS s3) rfl ?_
        obtain ⟨hin, k⟩ := k
        refine Ex.ial hq rfl rfl hin ?_
        refine Ex.seg hq 1 (j := 51) (L' := [.ref 37, .int x1, .int x2, .int x3, .int ((s3.2.1 42) (x3).toNatClampNeg)]) (S' := [.int (-1 : Int32), .int ((s3.2.1 44) (((s3.2.1 42) (x3).toNatClampNeg)).toNatClampNeg)]) (h' := hpS s3) rfl ?_
        refine Ex.i2 hq rfl (fun c => ?_) (fun c => ?_)
        · have k := k.1 c
          refine Ex.seg hq 6 (j := 72) (L' := [.ref 37, .int x1, .int x2, .int x3, .int ((s3.2.1 42) (x3).toNatClampNeg)]) (S' := [.int x3, .ref 41, .int (x3 - (1 : Int32))]) (h' := hpS s3) rfl ?_
          obtain ⟨hin, k⟩ := k
          refine Ex.ial hq rfl rfl hin ?_
          refine Ex.seg hq 3 (j := 32) (L' := [.ref 37, .int x1, .int x2, .int (if ((s3.2.1 41) (x3).toNatClampNeg) < (x3 - (1 : Int32)) then ((s3.2.1 41) (x3).toNatClampNeg) else (x3 - (1 : Int32))), .int ((s3.2.1 42) (x3).toNatClampNeg)]) (S' := []) (h' := hpS s3) rfl ?_
          refine Ex.fg (L := [.ref 37, .int x1, .int x2, .int (if ((s3.2.1 41) (x3).toNatClampNeg) < (x3 - (1 : Int32)) then ((s3.2.1 41) (x3).toNatClampNeg) else (x3 - (1 : Int32))), pu]) ⟨Or.inl rfl, ⟨Or.inl rfl, ⟨Or.inl rfl, ⟨Or.inl rfl, ⟨Or.inr ⟨rfl, rfl⟩, trivial⟩⟩⟩⟩⟩ ?_
          exact ih x1 x2 (if ((s3.2.1 41) (x3).toNatClampNeg) < (x3 - (1 : Int32)) then ((s3.2.1 41) (x3).toNatClampNeg) else (x3 - (1 : Int32))) s3 k hX76
        · have k := k.2 c
          refine Ex.seg hq 2 (j := 54) (L' := [.ref 37, .int x1, .int x2, .int x3, .int ((s3.2.1 42) (x3).toNatClampNeg)]) (S' := [.int (163 : Int32), .int x1]) (h' := hpS s3) rfl ?_
          refine Ex.i2 hq rfl (fun c => ?_) (fun c => ?_)
          · have k := k.1 c
            refine Ex.seg hq 6 (j := 72) (L' := [.ref 37, .int x1, .int x2, .int x3, .int ((s3.2.1 42) (x3).toNatClampNeg)]) (S' := [.int x3, .ref 41, .int (x3 - (1 : Int32))]) (h' := hpS s3) rfl ?_
            obtain ⟨hin, k⟩ := k
            refine Ex.ial hq rfl rfl hin ?_
            refine Ex.seg hq 3 (j := 32) (L' := [.ref 37, .int x1, .int x2, .int (if ((s3.2.1 41) (x3).toNatClampNeg) < (x3 - (1 : Int32)) then ((s3.2.1 41) (x3).toNatClampNeg) else (x3 - (1 : Int32))), .int ((s3.2.1 42) (x3).toNatClampNeg)]) (S' := []) (h' := hpS s3) rfl ?_
            refine Ex.fg (L := [.ref 37, .int x1, .int x2, .int (if ((s3.2.1 41) (x3).toNatClampNeg) < (x3 - (1 : Int32)) then ((s3.2.1 41) (x3).toNatClampNeg) else (x3 - (1 : Int32))), pu]) ⟨Or.inl rfl, ⟨Or.inl rfl, ⟨Or.inl rfl, ⟨Or.inl rfl, ⟨Or.inr ⟨rfl, rfl⟩, trivial⟩⟩⟩⟩⟩ ?_
            exact ih x1 x2 (if ((s3.2.1 41) (x3).toNatClampNeg) < (x3 - (1 : Int32)) then ((s3.2.1 41) (x3).toNatClampNeg) else (x3 - (1 : Int32))) s3 k hX76
          · have k := k.2 c
            refine Ex.seg hq 4 (j := 59) (L' := [.ref 37, .int x1, .int x2, .int x3, .int ((s3.2.1 42) (x3).toNatClampNeg)]) (S' := [.int x3, .int ((s3.2.1 42) (x3).toNatClampNeg), .ref 44]) (h' := hpS s3) rfl ?_
            obtain ⟨hin, k⟩ := k
            refine Ex.ias hq rfl rfl hin (h' := hpS (sA s3 44 (upd (s3.2.1 44) (((s3.2.1 42) (x3).toNatClampNeg)).toNatClampNeg x3))) (hset_44 _ _) ?_
            refine Ex.seg hq 4 (j := 64) (L' := [.ref 37, .int x1, .int x2, .int x3, .int ((s3.2.1 42) (x3).toNatClampNeg)]) (S' := [.int ((s3.2.1 42) (x3).toNatClampNeg), .int x1, .ref 45]) (h' := hpS (sA s3 44 (upd (s3.2.1 44) (((s3.2.1 42) (x3).toNatClampNeg)).toNatClampNeg x3))) rfl ?_
            obtain ⟨hin, k⟩ := k
            refine Ex.ias hq rfl rfl hin (h' := hpS (sA (sA s3 44 (upd (s3.2.1 44) (((s3.2.1 42) (x3).toNatClampNeg)).toNatClampNeg x3)) 45 (upd (s3.2.1 45) (x1).toNatClampNeg ((s3.2.1 42) (x3).toNatClampNeg)))) (hset_45 _ _) ?_
            refine Ex.seg hq 7 (j := 72) (L' := [.ref 37, .int (x1 + (1 : Int32)), .int x2, .int x3, .int ((s3.2.1 42) (x3).toNatClampNeg)]) (S' := [.int x3, .ref 41, .int (x3 - (1 : Int32))]) (h' := hpS (sA (sA s3 44 (upd (s3.2.1 44) (((s3.2.1 42) (x3).toNatClampNeg)).toNatClampNeg x3)) 45 (upd (s3.2.1 45) (x1).toNatClampNeg ((s3.2.1 42) (x3).toNatClampNeg)))) rfl ?_
            obtain ⟨hin, k⟩ := k
            refine Ex.ial hq rfl rfl hin ?_
            refine Ex.seg hq 3 (j := 32) (L' := [.ref 37, .int (x1 + (1 : Int32)), .int x2, .int (if ((s3.2.1 41) (x3).toNatClampNeg) < (x3 - (1 : Int32)) then ((s3.2.1 41) (x3).toNatClampNeg) else (x3 - (1 : Int32))), .int ((s3.2.1 42) (x3).toNatClampNeg)]) (S' := []) (h' := hpS (sA (sA s3 44 (upd (s3.2.1 44) (((s3.2.1 42) (x3).toNatClampNeg)).toNatClampNeg x3)) 45 (upd (s3.2.1 45) (x1).toNatClampNeg ((s3.2.1 42) (x3).toNatClampNeg)))) rfl ?_
            refine Ex.fg (L := [.ref 37, .int (x1 + (1 : Int32)), .int x2, .int (if ((s3.2.1 41) (x3).toNatClampNeg) < (x3 - (1 : Int32)) then ((s3.2.1 41) (x3).toNatClampNeg) else (x3 - (1 : Int32))), pu]) ⟨Or.inl rfl, ⟨Or.inl rfl, ⟨Or.inl rfl, ⟨Or.inl rfl, ⟨Or.inr ⟨rfl, rfl⟩, trivial⟩⟩⟩⟩⟩ ?_
            exact ih (x1 + (1 : Int32)) x2 (if ((s3.2.1 41) (x3).toNatClampNeg) < (x3 - (1 : Int32)) then ((s3.2.1 41) (x3).toNatClampNeg) else (x3 - (1 : Int32))) (sA (sA s3 44 (upd (s3.2.1 44) (((s3.2.1 42) (x3).toNatClampNeg)).toNatClampNeg x3)) 45 (upd (s3.2.1 45) (x1).toNatClampNeg ((s3.2.1 42) (x3).toNatClampNeg))) k hX76
def w_48_L18 : Nat → Int32 → Int32 → ST → (ST → Prop) → (Int32 → ST → Prop) → Prop
  | 0, _, _, _, _, _ => False
  | n + 1, x1, x2, s, X78, K => ((x1 ≤ x2 → X78  s) ∧ (¬ (x1 ≤ x2) → (((163 : Int32) ≤ x2 → X78  s) ∧ (¬ ((163 : Int32) ≤ x2) → (pin x2 163 = true ∧ (pin ((s.2.1 45) (x2).toNatClampNeg) 163 = true ∧ (∃ m, w_48_L32 m x1 x2 ((s.2.1 40) (((s.2.1 45) (x2).toNatClampNeg)).toNatClampNeg) s (fun y1 y2 s3 => w_48_L18 n y1 (y2 + (1 : Int32)) s3 X78 K) K)))))))
theorem q_48_L18 {d : Nat} {X78 : ST → Prop} {K : Int32 → ST → Prop} : ∀ (n : Nat) (x1 : Int32) (x2 : Int32) (s : ST), w_48_L18 n x1 x2 s X78 K → (∀ (s : ST), X78  s → Ex sc (d + 2) 48 78 [.ref 37, pu, pu, pu, pu] [] (hpS s) (kZ K)) → Ex sc (d + 2) 48 18 [.ref 37, .int x1, .int x2, pu, pu] [] (hpS s) (kZ K) := by
  have hq : prog[48]? = some pm48 := rfl
  intro n
  induction n with
  | zero =>
    intro x1 x2 s k
    exact k.elim
  | succ n ih =>
    intro x1 x2 s k hX78
    rw [w_48_L18] at k
    refine Ex.seg hq 2 (j := 20) (L' := [.ref 37, .int x1, .int x2, pu, pu]) (S' := [.int x1, .int x2]) (h' := hpS s) rfl ?_
    refine Ex.i2 hq rfl (fun c => ?_) (fun c => ?_)
    · have k := k.1 c
      refine Ex.fg (L := [.ref 37, pu, pu, pu, pu]) ⟨Or.inl rfl, ⟨Or.inr ⟨rfl, rfl⟩, ⟨Or.inr ⟨rfl, rfl⟩, ⟨Or.inl rfl, ⟨Or.inl rfl, trivial⟩⟩⟩⟩⟩ ?_
      exact hX78  s k
    · have k := k.2 c
      refine Ex.seg hq 2 (j := 23) (L' := [.ref 37, .int x1, .int x2, pu, pu]) (S' := [.int (163 : Int32), .int x2]) (h' := hpS s) rfl ?_
      refine Ex.i2 hq rfl (fun c => ?_) (fun c => ?_)
      · have k := k.1 c
        refine Ex.fg (L := [.ref 37, pu, pu, pu, pu]) ⟨Or.inl rfl, ⟨Or.inr ⟨rfl, rfl⟩, ⟨Or.inr ⟨rfl, rfl⟩, ⟨Or.inl rfl, ⟨Or.inl rfl, trivial⟩⟩⟩⟩⟩ ?_
        exact hX78  s k
      · have k := k.2 c
        refine Ex.seg hq 5 (j := 29) (L' := [.ref 37, .int x1, .int x2, pu, pu]) (S' := [.int x2, .ref 45, .ref 40]) (h' := hpS s) rfl ?_
        obtain ⟨hin, k⟩ := k
        refine Ex.ial hq rfl rfl hin ?_
        obtain ⟨hin, k⟩ := k
        refine Ex.ial hq rfl rfl hin ?_
        refine Ex.seg hq 1 (j := 32) (L' := [.ref 37, .int x1, .int x2, .int ((s.2.1 40) (((s.2.1 45) (x2).toNatClampNeg)).toNatClampNeg), pu]) (S' := []) (h' := hpS s) rfl ?_
        obtain ⟨m, k⟩ := k
        refine q_48_L32 (d := d) m x1 x2 ((s.2.1 40) (((s.2.1 45) (x2).toNatClampNeg)).toNatClampNeg) s k ?_
        · intro y1 y2 s3 k
          refine Ex.seg hq 2 (j := 18) (L' := [.ref 37, .int y1, .int (y2 + (1 : Int32)), pu, pu]) (S' := []) (h' := hpS s3) rfl ?_
          exact ih y1 (y2 + (1 : Int32)) s3 k hX78
/-- RowAuditor$Flow.findPath()Z -/
def w_48  (s : ST) (K : Int32 → ST → Prop) : Prop := w_302_R44 (-1 : Int32) s (fun s1 => (pin (0 : Int32) 163 = true ∧ (pin (0 : Int32) 163 = true ∧ (∃ m, w_48_L18 m (1 : Int32) (0 : Int32) (sA (sA s1 44 (upd (s1.2.1 44) ((0 : Int32)).toNatClampNeg (-2 : Int32))) 45 (upd (s1.2.1 45) ((0 : Int32)).toNatClampNeg (0 : Int32))) (fun s4 => (pin (1 : Int32) 163 = true ∧ ((((s4.2.1 44) ((1 : Int32)).toNatClampNeg) = (-1 : Int32) → K (0 : Int32) s4) ∧ (¬ (((s4.2.1 44) ((1 : Int32)).toNatClampNeg) = (-1 : Int32)) → K (1 : Int32) s4)))) K))))
theorem q_48 {d : Nat} {K : Int32 → ST → Prop}  (s : ST) (k : w_48  s K) : Rn sc (d + 2) 48 [.ref 37] (hpS s) (kZ K) := by
  have hq : prog[48]? = some pm48 := rfl
  refine Rn.of (L := [.ref 37, pu, pu, pu, pu]) hq rfl rfl ?_
  unfold w_48 at k
  refine Ex.seg hq 3 (j := 3) (L' := [.ref 37, pu, pu, pu, pu]) (S' := [.int (-1 : Int32), .ref 44]) (h' := hpS s) rfl ?_
  refine Ex.cl hq rfl rfl ?_
  refine Rn.mono (q_302_R44 (d := d + 1) (-1 : Int32) s k) ?_
  rintro _ _ ⟨s1, rfl, rfl, k⟩
  show Ex sc (d + 2) 48 4 [.ref 37, pu, pu, pu, pu] [] (hpS s1) _
  refine Ex.seg hq 4 (j := 8) (L' := [.ref 37, pu, pu, pu, pu]) (S' := [.int (-2 : Int32), .int (0 : Int32), .ref 44]) (h' := hpS s1) rfl ?_
  obtain ⟨hin, k⟩ := k
  refine Ex.ias hq rfl rfl hin (h' := hpS (sA s1 44 (upd (s1.2.1 44) ((0 : Int32)).toNatClampNeg (-2 : Int32)))) (hset_44 _ _) ?_
  refine Ex.seg hq 4 (j := 13) (L' := [.ref 37, pu, pu, pu, pu]) (S' := [.int (0 : Int32), .int (0 : Int32), .ref 45]) (h' := hpS (sA s1 44 (upd (s1.2.1 44) ((0 : Int32)).toNatClampNeg (-2 : Int32)))) rfl ?_
  obtain ⟨hin, k⟩ := k
  refine Ex.ias hq rfl rfl hin (h' := hpS (sA (sA s1 44 (upd (s1.2.1 44) ((0 : Int32)).toNatClampNeg (-2 : Int32))) 45 (upd (s1.2.1 45) ((0 : Int32)).toNatClampNeg (0 : Int32)))) (hset_45 _ _) ?_
  refine Ex.seg hq 4 (j := 18) (L' := [.ref 37, .int (1 : Int32), .int (0 : Int32), pu, pu]) (S' := []) (h' := hpS (sA (sA s1 44 (upd (s1.2.1 44) ((0 : Int32)).toNatClampNeg (-2 : Int32))) 45 (upd (s1.2.1 45) ((0 : Int32)).toNatClampNeg (0 : Int32)))) rfl ?_
  obtain ⟨m, k⟩ := k
  refine q_48_L18 (d := d) m (1 : Int32) (0 : Int32) (sA (sA s1 44 (upd (s1.2.1 44) ((0 : Int32)).toNatClampNeg (-2 : Int32))) 45 (upd (s1.2.1 45) ((0 : Int32)).toNatClampNeg (0 : Int32))) k ?_
  · intro s4 k
    refine Ex.seg hq 3 (j := 81) (L' := [.ref 37, pu, pu, pu, pu]) (S' := [.int (1 : Int32), .ref 44]) (h' := hpS s4) rfl ?_
    obtain ⟨hin, k⟩ := k
    refine Ex.ial hq rfl rfl hin ?_
    refine Ex.seg hq 1 (j := 83) (L' := [.ref 37, pu, pu, pu, pu]) (S' := [.int (-1 : Int32), .int ((s4.2.1 44) ((1 : Int32)).toNatClampNeg)]) (h' := hpS s4) rfl ?_
    refine Ex.i2 hq rfl (fun c => ?_) (fun c => ?_)
    · have k := k.1 c
      refine Ex.seg hq 1 (j := 87) (L' := [.ref 37, pu, pu, pu, pu]) (S' := [.int (0 : Int32)]) (h' := hpS s4) rfl ?_
      exact Ex.zr hq rfl rfl (Or.inl rfl) ⟨(0 : Int32), s4, rfl, (Or.inl rfl), rfl, k⟩
    · have k := k.2 c
      refine Ex.seg hq 2 (j := 87) (L' := [.ref 37, pu, pu, pu, pu]) (S' := [.int (1 : Int32)]) (h' := hpS s4) rfl ?_
      exact Ex.zr hq rfl rfl (Or.inr rfl) ⟨(1 : Int32), s4, rfl, (Or.inr rfl), rfl, k⟩
/-- RowAuditor$Flow.edgeBefore(I)I -/
def w_50 (p1 : Int32) (s : ST) (K : Int32 → ST → Prop) : Prop := (pin (p1 ^^^ (1 : Int32)) 624 = true ∧ (pin ((s.2.1 42) ((p1 ^^^ (1 : Int32))).toNatClampNeg) 163 = true ∧ K ((s.2.1 44) (((s.2.1 42) ((p1 ^^^ (1 : Int32))).toNatClampNeg)).toNatClampNeg) s))
theorem q_50 {d : Nat} {K : Int32 → ST → Prop} (p1 : Int32) (s : ST) (k : w_50 p1 s K) : Rn sc (d + 0) 50 [.ref 37, .int p1] (hpS s) (kI K) := by
  have hq : prog[50]? = some pm50 := rfl
  refine Rn.of (L := [.ref 37, .int p1]) hq rfl rfl ?_
  unfold w_50 at k
  refine Ex.seg hq 7 (j := 7) (L' := [.ref 37, .int p1]) (S' := [.int (p1 ^^^ (1 : Int32)), .ref 42, .ref 44]) (h' := hpS s) rfl ?_
  obtain ⟨hin, k⟩ := k
  refine Ex.ial hq rfl rfl hin ?_
  obtain ⟨hin, k⟩ := k
  refine Ex.ial hq rfl rfl hin ?_
  exact Ex.rt hq rfl rfl ⟨((s.2.1 44) (((s.2.1 42) ((p1 ^^^ (1 : Int32))).toNatClampNeg)).toNatClampNeg), s, rfl, rfl, k⟩
def w_49_L9 : Nat → Int32 → Int32 → Int32 → ST → (Int32 → ST → Prop) → (Int32 → ST → Prop) → Prop
  | 0, _, _, _, _, _, _ => False
  | n + 1, x1, x2, x3, s, X29, K => (((163 : Int32) ≤ x3 → X29 x1 s) ∧ (¬ ((163 : Int32) ≤ x3) → w_51 x2 s (fun r2 s1 => ((r2 = 0 → X29 x1 s1) ∧ (¬ (r2 = 0) → (pin x2 624 = true ∧ w_50 x2 s1 (fun r4 s3 => w_49_L9 n (if ((s1.2.1 43) (x2).toNatClampNeg) < x1 then ((s1.2.1 43) (x2).toNatClampNeg) else x1) r4 (x3 + (1 : Int32)) s3 X29 K)))))))
theorem q_49_L9 {d : Nat} {X29 : Int32 → ST → Prop} {K : Int32 → ST → Prop} : ∀ (n : Nat) (x1 : Int32) (x2 : Int32) (x3 : Int32) (s : ST), w_49_L9 n x1 x2 x3 s X29 K → (∀ (y1 : Int32) (s : ST), X29 y1 s → Ex sc (d + 2) 49 29 [.ref 37, .int y1, pu, pu] [] (hpS s) (kI K)) → Ex sc (d + 2) 49 9 [.ref 37, .int x1, .int x2, .int x3] [] (hpS s) (kI K) := by
  have hq : prog[49]? = some pm49 := rfl
  intro n
  induction n with
  | zero =>
    intro x1 x2 x3 s k
    exact k.elim
  | succ n ih =>
    intro x1 x2 x3 s k hX29
    rw [w_49_L9] at k
    refine Ex.seg hq 2 (j := 11) (L' := [.ref 37, .int x1, .int x2, .int x3]) (S' := [.int (163 : Int32), .int x3]) (h' := hpS s) rfl ?_
    refine Ex.i2 hq rfl (fun c => ?_) (fun c => ?_)
    · have k := k.1 c
      refine Ex.fg (L := [.ref 37, .int x1, pu, pu]) ⟨Or.inl rfl, ⟨Or.inl rfl, ⟨Or.inr ⟨rfl, rfl⟩, ⟨Or.inr ⟨rfl, rfl⟩, trivial⟩⟩⟩⟩ ?_
      exact hX29 x1 s k
    · have k := k.2 c
      refine Ex.seg hq 2 (j := 14) (L' := [.ref 37, .int x1, .int x2, .int x3]) (S' := [.int x2, .ref 37]) (h' := hpS s) rfl ?_
      refine Ex.cl hq rfl rfl ?_
      refine Rn.mono (q_51 (d := d + 0) x2 s k) ?_
      rintro _ _ ⟨r2, s1, rfl, hzr2, rfl, k⟩
      show Ex sc (d + 2) 49 15 [.ref 37, .int x1, .int x2, .int x3] [.int r2] (hpS s1) _
      refine Ex.i1 hq rfl (fun c => ?_) (fun c => ?_)
      · have k := k.1 c
        refine Ex.fg (L := [.ref 37, .int x1, pu, pu]) ⟨Or.inl rfl, ⟨Or.inl rfl, ⟨Or.inr ⟨rfl, rfl⟩, ⟨Or.inr ⟨rfl, rfl⟩, trivial⟩⟩⟩⟩ ?_
        exact hX29 x1 s1 k
      · have k := k.2 c
        refine Ex.seg hq 4 (j := 20) (L' := [.ref 37, .int x1, .int x2, .int x3]) (S' := [.int x2, .ref 43, .int x1]) (h' := hpS s1) rfl ?_
        obtain ⟨hin, k⟩ := k
        refine Ex.ial hq rfl rfl hin ?_
        refine Ex.seg hq 4 (j := 25) (L' := [.ref 37, .int (if ((s1.2.1 43) (x2).toNatClampNeg) < x1 then ((s1.2.1 43) (x2).toNatClampNeg) else x1), .int x2, .int x3]) (S' := [.int x2, .ref 37]) (h' := hpS s1) rfl ?_
        refine Ex.cl hq rfl rfl ?_
        refine Rn.mono (q_50 (d := d + 1) x2 s1 k) ?_
        rintro _ _ ⟨r4, s3, rfl, rfl, k⟩
        show Ex sc (d + 2) 49 26 [.ref 37, .int (if ((s1.2.1 43) (x2).toNatClampNeg) < x1 then ((s1.2.1 43) (x2).toNatClampNeg) else x1), .int x2, .int x3] [.int r4] (hpS s3) _
        refine Ex.seg hq 3 (j := 9) (L' := [.ref 37, .int (if ((s1.2.1 43) (x2).toNatClampNeg) < x1 then ((s1.2.1 43) (x2).toNatClampNeg) else x1), .int r4, .int (x3 + (1 : Int32))]) (S' := []) (h' := hpS s3) rfl ?_
        exact ih (if ((s1.2.1 43) (x2).toNatClampNeg) < x1 then ((s1.2.1 43) (x2).toNatClampNeg) else x1) r4 (x3 + (1 : Int32)) s3 k hX29
def w_49_L36 : Nat → Int32 → Int32 → Int32 → ST → (Int32 → ST → Prop) → (Int32 → ST → Prop) → Prop
  | 0, _, _, _, _, _, _ => False
  | n + 1, x1, x2, x3, s, X67, K => (((163 : Int32) ≤ x3 → X67 x1 s) ∧ (¬ ((163 : Int32) ≤ x3) → w_51 x2 s (fun r7 s6 => ((r7 = 0 → X67 x1 s6) ∧ (¬ (r7 = 0) → (pin x2 624 = true ∧ (pin x2 624 = true ∧ (pin (x2 ^^^ (1 : Int32)) 624 = true ∧ (pin (x2 ^^^ (1 : Int32)) 624 = true ∧ w_50 x2 (sA s6 43 (upd (upd (s6.2.1 43) (x2).toNatClampNeg (((s6.2.1 43) (x2).toNatClampNeg) - x1)) ((x2 ^^^ (1 : Int32))).toNatClampNeg (((upd (s6.2.1 43) (x2).toNatClampNeg (((s6.2.1 43) (x2).toNatClampNeg) - x1)) ((x2 ^^^ (1 : Int32))).toNatClampNeg) + x1))) (fun r9 s8 => w_49_L36 n x1 r9 (x3 + (1 : Int32)) s8 X67 K))))))))))
theorem q_49_L36 {d : Nat} {X67 : Int32 → ST → Prop} {K : Int32 → ST → Prop} : ∀ (n : Nat) (x1 : Int32) (x2 : Int32) (x3 : Int32) (s : ST), w_49_L36 n x1 x2 x3 s X67 K → (∀ (y1 : Int32) (s : ST), X67 y1 s → Ex sc (d + 2) 49 67 [pu, .int y1, pu, pu] [] (hpS s) (kI K)) → Ex sc (d + 2) 49 36 [.ref 37, .int x1, .int x2, .int x3] [] (hpS s) (kI K) := by
  have hq : prog[49]? = some pm49 := rfl
  intro n
  induction n with
  | zero =>
    intro x1 x2 x3 s k
    exact k.elim
  | succ n ih =>
    intro x1 x2 x3 s k hX67
    rw [w_49_L36] at k
    refine Ex.seg hq 2 (j := 38) (L' := [.ref 37, .int x1, .int x2, .int x3]) (S' := [.int (163 : Int32), .int x3]) (h' := hpS s) rfl ?_
    refine Ex.i2 hq rfl (fun c => ?_) (fun c => ?_)
    · have k := k.1 c
      refine Ex.fg (L := [pu, .int x1, pu, pu]) ⟨Or.inr ⟨rfl, rfl⟩, ⟨Or.inl rfl, ⟨Or.inr ⟨rfl, rfl⟩, ⟨Or.inr ⟨rfl, rfl⟩, trivial⟩⟩⟩⟩ ?_
      exact hX67 x1 s k
    · have k := k.2 c
      refine Ex.seg hq 2 (j := 41) (L' := [.ref 37, .int x1, .int x2, .int x3]) (S' := [.int x2, .ref 37]) (h' := hpS s) rfl ?_
      refine Ex.cl hq rfl rfl ?_
      refine Rn.mono (q_51 (d := d + 0) x2 s k) ?_
      rintro _ _ ⟨r7, s6, rfl, hzr7, rfl, k⟩
      show Ex sc (d + 2) 49 42 [.ref 37, .int x1, .int x2, .int x3] [.int r7] (hpS s6) _
      refine Ex.i1 hq rfl (fun c => ?_) (fun c => ?_)
      · have k := k.1 c
        refine Ex.fg (L := [pu, .int x1, pu, pu]) ⟨Or.inr ⟨rfl, rfl⟩, ⟨Or.inl rfl, ⟨Or.inr ⟨rfl, rfl⟩, ⟨Or.inr ⟨rfl, rfl⟩, trivial⟩⟩⟩⟩ ?_
        exact hX67 x1 s6 k
      · have k := k.2 c
        refine Ex.seg hq 4 (j := 47) (L' := [.ref 37, .int x1, .int x2, .int x3]) (S' := [.int x2, .ref 43, .int x2, .ref 43]) (h' := hpS s6) rfl ?_
        obtain ⟨hin, k⟩ := k
        refine Ex.ial hq rfl rfl hin ?_
        refine Ex.seg hq 2 (j := 50) (L' := [.ref 37, .int x1, .int x2, .int x3]) (S' := [.int (((s6.2.1 43) (x2).toNatClampNeg) - x1), .int x2, .ref 43]) (h' := hpS s6) rfl ?_
        obtain ⟨hin, k⟩ := k
        refine Ex.ias hq rfl rfl hin (h' := hpS (sA s6 43 (upd (s6.2.1 43) (x2).toNatClampNeg (((s6.2.1 43) (x2).toNatClampNeg) - x1)))) (hset_43 _ _) ?_
        refine Ex.seg hq 6 (j := 57) (L' := [.ref 37, .int x1, .int x2, .int x3]) (S' := [.int (x2 ^^^ (1 : Int32)), .ref 43, .int (x2 ^^^ (1 : Int32)), .ref 43]) (h' := hpS (sA s6 43 (upd (s6.2.1 43) (x2).toNatClampNeg (((s6.2.1 43) (x2).toNatClampNeg) - x1)))) rfl ?_
        obtain ⟨hin, k⟩ := k
        refine Ex.ial hq rfl rfl hin ?_
        refine Ex.seg hq 2 (j := 60) (L' := [.ref 37, .int x1, .int x2, .int x3]) (S' := [.int (((upd (s6.2.1 43) (x2).toNatClampNeg (((s6.2.1 43) (x2).toNatClampNeg) - x1)) ((x2 ^^^ (1 : Int32))).toNatClampNeg) + x1), .int (x2 ^^^ (1 : Int32)), .ref 43]) (h' := hpS (sA s6 43 (upd (s6.2.1 43) (x2).toNatClampNeg (((s6.2.1 43) (x2).toNatClampNeg) - x1)))) rfl ?_
        obtain ⟨hin, k⟩ := k
        refine Ex.ias hq rfl rfl hin (h' := hpS (sA s6 43 (upd (upd (s6.2.1 43) (x2).toNatClampNeg (((s6.2.1 43) (x2).toNatClampNeg) - x1)) ((x2 ^^^ (1 : Int32))).toNatClampNeg (((upd (s6.2.1 43) (x2).toNatClampNeg (((s6.2.1 43) (x2).toNatClampNeg) - x1)) ((x2 ^^^ (1 : Int32))).toNatClampNeg) + x1)))) (hset_43 _ _) ?_
        refine Ex.seg hq 2 (j := 63) (L' := [.ref 37, .int x1, .int x2, .int x3]) (S' := [.int x2, .ref 37]) (h' := hpS (sA s6 43 (upd (upd (s6.2.1 43) (x2).toNatClampNeg (((s6.2.1 43) (x2).toNatClampNeg) - x1)) ((x2 ^^^ (1 : Int32))).toNatClampNeg (((upd (s6.2.1 43) (x2).toNatClampNeg (((s6.2.1 43) (x2).toNatClampNeg) - x1)) ((x2 ^^^ (1 : Int32))).toNatClampNeg) + x1)))) rfl ?_
        refine Ex.cl hq rfl rfl ?_
        refine Rn.mono (q_50 (d := d + 1) x2 (sA s6 43 (upd (upd (s6.2.1 43) (x2).toNatClampNeg (((s6.2.1 43) (x2).toNatClampNeg) - x1)) ((x2 ^^^ (1 : Int32))).toNatClampNeg (((upd (s6.2.1 43) (x2).toNatClampNeg (((s6.2.1 43) (x2).toNatClampNeg) - x1)) ((x2 ^^^ (1 : Int32))).toNatClampNeg) + x1))) k) ?_
        rintro _ _ ⟨r9, s8, rfl, rfl, k⟩
        show Ex sc (d + 2) 49 64 [.ref 37, .int x1, .int x2, .int x3] [.int r9] (hpS s8) _
        refine Ex.seg hq 3 (j := 36) (L' := [.ref 37, .int x1, .int r9, .int (x3 + (1 : Int32))]) (S' := []) (h' := hpS s8) rfl ?_
        exact ih x1 r9 (x3 + (1 : Int32)) s8 k hX67
/-- RowAuditor$Flow.fillPath()I -/
def w_49  (s : ST) (K : Int32 → ST → Prop) : Prop := (pin (1 : Int32) 163 = true ∧ (∃ m, w_49_L9 m (1000000000 : Int32) ((s.2.1 44) ((1 : Int32)).toNatClampNeg) (0 : Int32) s (fun y1 s5 => (pin (1 : Int32) 163 = true ∧ (∃ m, w_49_L36 m y1 ((s5.2.1 44) ((1 : Int32)).toNatClampNeg) (0 : Int32) s5 (fun y1 s10 => K y1 s10) K))) K))
theorem q_49 {d : Nat} {K : Int32 → ST → Prop}  (s : ST) (k : w_49  s K) : Rn sc (d + 2) 49 [.ref 37] (hpS s) (kI K) := by
  have hq : prog[49]? = some pm49 := rfl
  refine Rn.of (L := [.ref 37, pu, pu, pu]) hq rfl rfl ?_
  unfold w_49 at k
  refine Ex.seg hq 5 (j := 5) (L' := [.ref 37, .int (1000000000 : Int32), pu, pu]) (S' := [.int (1 : Int32), .ref 44]) (h' := hpS s) rfl ?_
  obtain ⟨hin, k⟩ := k
  refine Ex.ial hq rfl rfl hin ?_
  refine Ex.seg hq 3 (j := 9) (L' := [.ref 37, .int (1000000000 : Int32), .int ((s.2.1 44) ((1 : Int32)).toNatClampNeg), .int (0 : Int32)]) (S' := []) (h' := hpS s) rfl ?_
  obtain ⟨m, k⟩ := k
  refine q_49_L9 (d := d) m (1000000000 : Int32) ((s.2.1 44) ((1 : Int32)).toNatClampNeg) (0 : Int32) s k ?_
  · intro y1 s5 k
    refine Ex.seg hq 3 (j := 32) (L' := [.ref 37, .int y1, pu, pu]) (S' := [.int (1 : Int32), .ref 44]) (h' := hpS s5) rfl ?_
    obtain ⟨hin, k⟩ := k
    refine Ex.ial hq rfl rfl hin ?_
    refine Ex.seg hq 3 (j := 36) (L' := [.ref 37, .int y1, .int ((s5.2.1 44) ((1 : Int32)).toNatClampNeg), .int (0 : Int32)]) (S' := []) (h' := hpS s5) rfl ?_
    obtain ⟨m, k⟩ := k
    refine q_49_L36 (d := d) m y1 ((s5.2.1 44) ((1 : Int32)).toNatClampNeg) (0 : Int32) s5 k ?_
    · intro y1 s10 k
      refine Ex.seg hq 1 (j := 68) (L' := [pu, .int y1, pu, pu]) (S' := [.int y1]) (h' := hpS s10) rfl ?_
      exact Ex.rt hq rfl rfl ⟨y1, s10, rfl, rfl, k⟩
end WP
