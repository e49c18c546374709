/-! ===== weakest preconditions, printed by wip/whole/genwp.py ===== -/
section WP
variable {sc : Nat × (Nat → Int32)}
def w_157_17 : Nat → Int64 → Int32 → Int32 → ST → (Int64 → ST → Prop) → (Int64 → ST → Prop) → Prop
  | 0, _, _, _, _, _, _ => False
  | n + 1, x1, x3, x4, s, X43, K => (pin (0 : Int32) 4 = true ∧ ((((s.2.1 34) ((0 : Int32)).toNatClampNeg) < x4 → X43 x1 s) ∧ (¬ (((s.2.1 34) ((0 : Int32)).toNatClampNeg) < x4) → (pin (3 : Int32) 4 = true ∧ w_158 ((s.2.1 34) ((3 : Int32)).toNatClampNeg) x4 s (fun r2 s1 => (pin (0 : Int32) 4 = true ∧ w_158 x3 (((s1.2.1 34) ((0 : Int32)).toNatClampNeg) - x4) s1 (fun r4 s3 => w_157_17 n (x1 + (r2 * r4)) x3 (x4 + (1 : Int32)) s3 X43 K)))))))
theorem q_157_17 {d : Nat} {X43 : Int64 → ST → Prop} {K : Int64 → ST → Prop} : ∀ (n : Nat) (x1 : Int64) (x3 : Int32) (x4 : Int32) (s : ST), w_157_17 n x1 x3 x4 s X43 K → (∀ (y1 : Int64) (s : ST), X43 y1 s → Ex sc (d + 1) 157 43 [pu, .long y1, pu, pu, pu] [] (hpS s) (kJ K)) → Ex sc (d + 1) 157 17 [.ref 0, .long x1, pu, .int x3, .int x4] [] (hpS s) (kJ K) := by
  have hq : prog[157]? = some pm157 := rfl
  intro n
  induction n with
  | zero =>
    intro x1 x3 x4 s k
    exact k.elim
  | succ n ih =>
    intro x1 x3 x4 s k hX43
    rw [w_157_17] at k
    refine Ex.seg hq 4 (j := 21) (L' := [.ref 0, .long x1, pu, .int x3, .int x4]) (S' := [.int (0 : Int32), .ref 34, .int x4]) (h' := hpS s) rfl ?_
    obtain ⟨hin, k⟩ := k
    refine Ex.ial hq rfl rfl hin ?_
    refine Ex.i2 hq rfl (fun c => ?_) (fun c => ?_)
    · have k := k.1 c
      refine Ex.fg (L := [pu, .long x1, pu, pu, pu]) ⟨Or.inr ⟨rfl, rfl⟩, ⟨Or.inl rfl, ⟨Or.inl rfl, ⟨Or.inr ⟨rfl, rfl⟩, ⟨Or.inr ⟨rfl, rfl⟩, trivial⟩⟩⟩⟩⟩ ?_
      exact hX43 x1 s k
    · have k := k.2 c
      refine Ex.seg hq 4 (j := 27) (L' := [.ref 0, .long x1, pu, .int x3, .int x4]) (S' := [.int (3 : Int32), .ref 34, .long x1]) (h' := hpS s) rfl ?_
      obtain ⟨hin, k⟩ := k
      refine Ex.ial hq rfl rfl hin ?_
      refine Ex.seg hq 1 (j := 29) (L' := [.ref 0, .long x1, pu, .int x3, .int x4]) (S' := [.int x4, .int ((s.2.1 34) ((3 : Int32)).toNatClampNeg), .long x1]) (h' := hpS s) rfl ?_
      refine Ex.cl hq rfl rfl ?_
      refine Rn.mono (q_158 (d := d + 0) ((s.2.1 34) ((3 : Int32)).toNatClampNeg) x4 s k) ?_
      rintro _ _ ⟨r2, s1, rfl, rfl, k⟩
      show Ex sc (d + 1) 157 30 [.ref 0, .long x1, pu, .int x3, .int x4] [.long r2, .long x1] (hpS s1) _
      refine Ex.seg hq 4 (j := 34) (L' := [.ref 0, .long x1, pu, .int x3, .int x4]) (S' := [.int (0 : Int32), .ref 34, .int x3, .long r2, .long x1]) (h' := hpS s1) rfl ?_
      obtain ⟨hin, k⟩ := k
      refine Ex.ial hq rfl rfl hin ?_
      refine Ex.seg hq 2 (j := 37) (L' := [.ref 0, .long x1, pu, .int x3, .int x4]) (S' := [.int (((s1.2.1 34) ((0 : Int32)).toNatClampNeg) - x4), .int x3, .long r2, .long x1]) (h' := hpS s1) rfl ?_
      refine Ex.cl hq rfl rfl ?_
      refine Rn.mono (q_158 (d := d + 0) x3 (((s1.2.1 34) ((0 : Int32)).toNatClampNeg) - x4) s1 k) ?_
      rintro _ _ ⟨r4, s3, rfl, rfl, k⟩
      show Ex sc (d + 1) 157 38 [.ref 0, .long x1, pu, .int x3, .int x4] [.long r4, .long r2, .long x1] (hpS s3) _
      refine Ex.seg hq 5 (j := 17) (L' := [.ref 0, .long (x1 + (r2 * r4)), pu, .int x3, .int (x4 + (1 : Int32))]) (S' := []) (h' := hpS s3) rfl ?_
      exact ih (x1 + (r2 * r4)) x3 (x4 + (1 : Int32)) s3 k hX43
/-- RowAuditor.waysAsOdd()J -/
def w_157  (s : ST) (K : Int64 → ST → Prop) : Prop := (pin (2 : Int32) 4 = true ∧ (pin (3 : Int32) 4 = true ∧ (pin (1 : Int32) 4 = true ∧ (∃ m, w_157_17 m (0 : Int64) (((s.2.1 34) ((2 : Int32)).toNatClampNeg) - ((s.2.1 34) ((3 : Int32)).toNatClampNeg)) ((s.2.1 34) ((1 : Int32)).toNatClampNeg) s (fun y1 s5 => K y1 s5) K))))
theorem q_157 {d : Nat} {K : Int64 → ST → Prop}  (s : ST) (k : w_157  s K) : Rn sc (d + 1) 157 [.ref 0] (hpS s) (kJ K) := by
  have hq : prog[157]? = some pm157 := rfl
  refine Rn.of (L := [.ref 0, pu, pu, pu, pu]) hq rfl rfl ?_
  unfold w_157 at k
  refine Ex.seg hq 5 (j := 5) (L' := [.ref 0, .long (0 : Int64), pu, pu, pu]) (S' := [.int (2 : Int32), .ref 34]) (h' := hpS s) rfl ?_
  obtain ⟨hin, k⟩ := k
  refine Ex.ial hq rfl rfl hin ?_
  refine Ex.seg hq 3 (j := 9) (L' := [.ref 0, .long (0 : Int64), pu, pu, pu]) (S' := [.int (3 : Int32), .ref 34, .int ((s.2.1 34) ((2 : Int32)).toNatClampNeg)]) (h' := hpS s) rfl ?_
  obtain ⟨hin, k⟩ := k
  refine Ex.ial hq rfl rfl hin ?_
  refine Ex.seg hq 5 (j := 15) (L' := [.ref 0, .long (0 : Int64), pu, .int (((s.2.1 34) ((2 : Int32)).toNatClampNeg) - ((s.2.1 34) ((3 : Int32)).toNatClampNeg)), pu]) (S' := [.int (1 : Int32), .ref 34]) (h' := hpS s) rfl ?_
  obtain ⟨hin, k⟩ := k
  refine Ex.ial hq rfl rfl hin ?_
  refine Ex.seg hq 1 (j := 17) (L' := [.ref 0, .long (0 : Int64), pu, .int (((s.2.1 34) ((2 : Int32)).toNatClampNeg) - ((s.2.1 34) ((3 : Int32)).toNatClampNeg)), .int ((s.2.1 34) ((1 : Int32)).toNatClampNeg)]) (S' := []) (h' := hpS s) rfl ?_
  obtain ⟨m, k⟩ := k
  refine q_157_17 (d := d) m (0 : Int64) (((s.2.1 34) ((2 : Int32)).toNatClampNeg) - ((s.2.1 34) ((3 : Int32)).toNatClampNeg)) ((s.2.1 34) ((1 : Int32)).toNatClampNeg) s k ?_
  · intro y1 s5 k
    refine Ex.seg hq 1 (j := 44) (L' := [pu, .long y1, pu, pu, pu]) (S' := [.long y1]) (h' := hpS s5) rfl ?_
    exact Ex.rt hq rfl rfl ⟨y1, s5, rfl, rfl, k⟩
/-- RowAuditor.ownerOf(IZ)I -/
def w_162 (p0 : Int32) (p1 : Int32) (s : ST) (K : Int32 → ST → Prop) : Prop := ((p1 = 0 → w_183 p0 s (fun r2 s1 => ((r2 = 0 → K (-1 : Int32) s1) ∧ (¬ (r2 = 0) → K p0 s1)))) ∧ (¬ (p1 = 0) → w_181 p0 (0 : Int32) (19 : Int32) s (fun r4 s3 => ((r4 = 0 → K (-1 : Int32) s3) ∧ (¬ (r4 = 0) → K ((16 : Int32) + p0) s3)))))
theorem q_162 {d : Nat} {K : Int32 → ST → Prop} (p0 : Int32) (p1 : Int32) (s : ST) (k : w_162 p0 p1 s K) : Rn sc (d + 2) 162 [.int p0, .int p1] (hpS s) (kI K) := by
  have hq : prog[162]? = some pm162 := rfl
  refine Rn.of (L := [.int p0, .int p1]) hq rfl rfl ?_
  unfold w_162 at k
  refine Ex.seg hq 1 (j := 1) (L' := [.int p0, .int p1]) (S' := [.int p1]) (h' := hpS s) rfl ?_
  refine Ex.i1 hq rfl (fun c => ?_) (fun c => ?_)
  · have k := k.1 c
    refine Ex.seg hq 1 (j := 14) (L' := [.int p0, .int p1]) (S' := [.int p0]) (h' := hpS s) rfl ?_
    refine Ex.cl hq rfl rfl ?_
    refine Rn.mono (q_183 (d := d + 0) p0 s k) ?_
    rintro _ _ ⟨r2, s1, rfl, hzr2, rfl, k⟩
    show Ex sc (d + 2) 162 15 [.int p0, .int p1] [.int r2] (hpS s1) _
    refine Ex.i1 hq rfl (fun c => ?_) (fun c => ?_)
    · have k := k.1 c
      refine Ex.seg hq 1 (j := 19) (L' := [.int p0, .int p1]) (S' := [.int (-1 : Int32)]) (h' := hpS s1) rfl ?_
      exact Ex.rt hq rfl rfl ⟨(-1 : Int32), s1, rfl, rfl, k⟩
    · have k := k.2 c
      refine Ex.seg hq 2 (j := 19) (L' := [.int p0, .int p1]) (S' := [.int p0]) (h' := hpS s1) rfl ?_
      exact Ex.rt hq rfl rfl ⟨p0, s1, rfl, rfl, k⟩
  · have k := k.2 c
    refine Ex.seg hq 3 (j := 5) (L' := [.int p0, .int p1]) (S' := [.int (19 : Int32), .int (0 : Int32), .int p0]) (h' := hpS s) rfl ?_
    refine Ex.cl hq rfl rfl ?_
    refine Rn.mono (q_181 (d := d + 1) p0 (0 : Int32) (19 : Int32) s k) ?_
    rintro _ _ ⟨r4, s3, rfl, hzr4, rfl, k⟩
    show Ex sc (d + 2) 162 6 [.int p0, .int p1] [.int r4] (hpS s3) _
    refine Ex.i1 hq rfl (fun c => ?_) (fun c => ?_)
    · have k := k.1 c
      refine Ex.seg hq 1 (j := 12) (L' := [.int p0, .int p1]) (S' := [.int (-1 : Int32)]) (h' := hpS s3) rfl ?_
      exact Ex.rt hq rfl rfl ⟨(-1 : Int32), s3, rfl, rfl, k⟩
    · have k := k.2 c
      refine Ex.seg hq 4 (j := 12) (L' := [.int p0, .int p1]) (S' := [.int ((16 : Int32) + p0)]) (h' := hpS s3) rfl ?_
      exact Ex.rt hq rfl rfl ⟨((16 : Int32) + p0), s3, rfl, rfl, k⟩
def w_163_27 : Nat → Int32 → Int32 → Int32 → Int32 → Int32 → ST → (Int32 → Int32 → Int32 → ST → Prop) → (Int32 → ST → Prop) → Prop
  | 0, _, _, _, _, _, _, _, _ => False
  | n + 1, x2, x3, x4, x6, x7, s, X44, K => ((x6 ≤ x7 → X44 x2 x3 x4 s) ∧ (¬ (x6 ≤ x7) → (pin x7 36 = true ∧ (((((s.2.1 28) (x7).toNatClampNeg) &&& x2) = 0 → w_163_27 n x2 x3 x4 x6 (x7 + (1 : Int32)) s X44 K) ∧ (¬ ((((s.2.1 28) (x7).toNatClampNeg) &&& x2) = 0) → w_163_27 n (x2 ||| ((s.2.1 28) (x7).toNatClampNeg)) x3 x4 x6 (x7 + (1 : Int32)) s X44 K)))))
theorem q_163_27 {d : Nat} {X44 : Int32 → Int32 → Int32 → ST → Prop} {K : Int32 → ST → Prop} : ∀ (n : Nat) (x2 : Int32) (x3 : Int32) (x4 : Int32) (x6 : Int32) (x7 : Int32) (s : ST), w_163_27 n x2 x3 x4 x6 x7 s X44 K → (∀ (y2 : Int32) (y3 : Int32) (y4 : Int32) (s : ST), X44 y2 y3 y4 s → Ex sc (d + 1) 163 44 [.ref 0, pu, .int y2, .int y3, .int y4, pu, pu, pu, pu] [] (hpS s) (kI K)) → Ex sc (d + 1) 163 27 [.ref 0, pu, .int x2, .int x3, .int x4, .ref 28, .int x6, .int x7, pu] [] (hpS s) (kI K) := by
  have hq : prog[163]? = some pm163 := rfl
  intro n
  induction n with
  | zero =>
    intro x2 x3 x4 x6 x7 s k
    exact k.elim
  | succ n ih =>
    intro x2 x3 x4 x6 x7 s k hX44
    rw [w_163_27] at k
    refine Ex.seg hq 2 (j := 29) (L' := [.ref 0, pu, .int x2, .int x3, .int x4, .ref 28, .int x6, .int x7, pu]) (S' := [.int x6, .int x7]) (h' := hpS s) rfl ?_
    refine Ex.i2 hq rfl (fun c => ?_) (fun c => ?_)
    · have k := k.1 c
      refine Ex.fg (L := [.ref 0, pu, .int x2, .int x3, .int x4, pu, pu, pu, pu]) ⟨Or.inl rfl, ⟨Or.inl rfl, ⟨Or.inl rfl, ⟨Or.inl rfl, ⟨Or.inl rfl, ⟨Or.inr ⟨rfl, rfl⟩, ⟨Or.inr ⟨rfl, rfl⟩, ⟨Or.inr ⟨rfl, rfl⟩, ⟨Or.inl rfl, trivial⟩⟩⟩⟩⟩⟩⟩⟩⟩ ?_
      exact hX44 x2 x3 x4 s k
    · have k := k.2 c
      refine Ex.seg hq 2 (j := 32) (L' := [.ref 0, pu, .int x2, .int x3, .int x4, .ref 28, .int x6, .int x7, pu]) (S' := [.int x7, .ref 28]) (h' := hpS s) rfl ?_
      obtain ⟨hin, k⟩ := k
      refine Ex.ial hq rfl rfl hin ?_
      refine Ex.seg hq 4 (j := 37) (L' := [.ref 0, pu, .int x2, .int x3, .int x4, .ref 28, .int x6, .int x7, .int ((s.2.1 28) (x7).toNatClampNeg)]) (S' := [.int (((s.2.1 28) (x7).toNatClampNeg) &&& x2)]) (h' := hpS s) rfl ?_
      refine Ex.i1 hq rfl (fun c => ?_) (fun c => ?_)
      · have k := k.1 c
        refine Ex.seg hq 2 (j := 27) (L' := [.ref 0, pu, .int x2, .int x3, .int x4, .ref 28, .int x6, .int (x7 + (1 : Int32)), .int ((s.2.1 28) (x7).toNatClampNeg)]) (S' := []) (h' := hpS s) rfl ?_
        refine Ex.fg (L := [.ref 0, pu, .int x2, .int x3, .int x4, .ref 28, .int x6, .int (x7 + (1 : Int32)), pu]) ⟨Or.inl rfl, ⟨Or.inl rfl, ⟨Or.inl rfl, ⟨Or.inl rfl, ⟨Or.inl rfl, ⟨Or.inl rfl, ⟨Or.inl rfl, ⟨Or.inl rfl, ⟨Or.inr ⟨rfl, rfl⟩, trivial⟩⟩⟩⟩⟩⟩⟩⟩⟩ ?_
        exact ih x2 x3 x4 x6 (x7 + (1 : Int32)) s k hX44
      · have k := k.2 c
        refine Ex.seg hq 6 (j := 27) (L' := [.ref 0, pu, .int (x2 ||| ((s.2.1 28) (x7).toNatClampNeg)), .int x3, .int x4, .ref 28, .int x6, .int (x7 + (1 : Int32)), .int ((s.2.1 28) (x7).toNatClampNeg)]) (S' := []) (h' := hpS s) rfl ?_
        refine Ex.fg (L := [.ref 0, pu, .int (x2 ||| ((s.2.1 28) (x7).toNatClampNeg)), .int x3, .int x4, .ref 28, .int x6, .int (x7 + (1 : Int32)), pu]) ⟨Or.inl rfl, ⟨Or.inl rfl, ⟨Or.inl rfl, ⟨Or.inl rfl, ⟨Or.inl rfl, ⟨Or.inl rfl, ⟨Or.inl rfl, ⟨Or.inl rfl, ⟨Or.inr ⟨rfl, rfl⟩, trivial⟩⟩⟩⟩⟩⟩⟩⟩⟩ ?_
        exact ih (x2 ||| ((s.2.1 28) (x7).toNatClampNeg)) x3 x4 x6 (x7 + (1 : Int32)) s k hX44
def w_163_14 : Nat → Int32 → Int32 → ST → (Int32 → ST → Prop) → (Int32 → ST → Prop) → (Int32 → ST → Prop) → Prop
  | 0, _, _, _, _, _, _ => False
  | n + 1, x2, x3, s, X50, X47, K => (((36 : Int32) ≤ x3 → X50 x2 s) ∧ (¬ ((36 : Int32) ≤ x3) → (∃ m, w_163_27 m x2 x3 x2 (Int32.ofNat 36) (0 : Int32) s (fun y2 y3 y4 s3 => ((¬ y2 = y4 → w_163_14 n y2 (y3 + (1 : Int32)) s3 X50 X47 K) ∧ (¬ (¬ y2 = y4) → X47 y2 s3))) K)))
theorem q_163_14 {d : Nat} {X50 : Int32 → ST → Prop} {X47 : Int32 → ST → Prop} {K : Int32 → ST → Prop} : ∀ (n : Nat) (x2 : Int32) (x3 : Int32) (s : ST), w_163_14 n x2 x3 s X50 X47 K → (∀ (y2 : Int32) (s : ST), X50 y2 s → Ex sc (d + 1) 163 50 [pu, pu, .int y2, pu, pu, pu, pu, pu, pu] [] (hpS s) (kI K)) → (∀ (y2 : Int32) (s : ST), X47 y2 s → Ex sc (d + 1) 163 47 [pu, pu, .int y2, pu, pu, pu, pu, pu, pu] [] (hpS s) (kI K)) → Ex sc (d + 1) 163 14 [.ref 0, pu, .int x2, .int x3, pu, pu, pu, pu, pu] [] (hpS s) (kI K) := by
  have hq : prog[163]? = some pm163 := rfl
  intro n
  induction n with
  | zero =>
    intro x2 x3 s k
    exact k.elim
  | succ n ih =>
    intro x2 x3 s k hX50 hX47
    rw [w_163_14] at k
    refine Ex.seg hq 2 (j := 16) (L' := [.ref 0, pu, .int x2, .int x3, pu, pu, pu, pu, pu]) (S' := [.int (36 : Int32), .int x3]) (h' := hpS s) rfl ?_
    refine Ex.i2 hq rfl (fun c => ?_) (fun c => ?_)
    · have k := k.1 c
      refine Ex.fg (L := [pu, pu, .int x2, pu, pu, pu, pu, pu, pu]) ⟨Or.inr ⟨rfl, rfl⟩, ⟨Or.inl rfl, ⟨Or.inl rfl, ⟨Or.inr ⟨rfl, rfl⟩, ⟨Or.inl rfl, ⟨Or.inl rfl, ⟨Or.inl rfl, ⟨Or.inl rfl, ⟨Or.inl rfl, trivial⟩⟩⟩⟩⟩⟩⟩⟩⟩ ?_
      exact hX50 x2 s k
    · have k := k.2 c
      refine Ex.seg hq 10 (j := 27) (L' := [.ref 0, pu, .int x2, .int x3, .int x2, .ref 28, .int (Int32.ofNat 36), .int (0 : Int32), pu]) (S' := []) (h' := hpS s) rfl ?_
      obtain ⟨m, k⟩ := k
      refine q_163_27 (d := d) m x2 x3 x2 (Int32.ofNat 36) (0 : Int32) s k ?_
      · intro y2 y3 y4 s3 k
        refine Ex.seg hq 2 (j := 46) (L' := [.ref 0, pu, .int y2, .int y3, .int y4, pu, pu, pu, pu]) (S' := [.int y4, .int y2]) (h' := hpS s3) rfl ?_
        refine Ex.i2 hq rfl (fun c => ?_) (fun c => ?_)
        · have k := k.1 c
          refine Ex.seg hq 2 (j := 14) (L' := [.ref 0, pu, .int y2, .int (y3 + (1 : Int32)), .int y4, pu, pu, pu, pu]) (S' := []) (h' := hpS s3) rfl ?_
          refine Ex.fg (L := [.ref 0, pu, .int y2, .int (y3 + (1 : Int32)), pu, pu, pu, pu, pu]) ⟨Or.inl rfl, ⟨Or.inl rfl, ⟨Or.inl rfl, ⟨Or.inl rfl, ⟨Or.inr ⟨rfl, rfl⟩, ⟨Or.inl rfl, ⟨Or.inl rfl, ⟨Or.inl rfl, ⟨Or.inl rfl, trivial⟩⟩⟩⟩⟩⟩⟩⟩⟩ ?_
          exact ih y2 (y3 + (1 : Int32)) s3 k hX50 hX47
        · have k := k.2 c
          refine Ex.fg (L := [pu, pu, .int y2, pu, pu, pu, pu, pu, pu]) ⟨Or.inr ⟨rfl, rfl⟩, ⟨Or.inl rfl, ⟨Or.inl rfl, ⟨Or.inr ⟨rfl, rfl⟩, ⟨Or.inr ⟨rfl, rfl⟩, ⟨Or.inl rfl, ⟨Or.inl rfl, ⟨Or.inl rfl, ⟨Or.inl rfl, trivial⟩⟩⟩⟩⟩⟩⟩⟩⟩ ?_
          exact hX47 y2 s3 k
/-- RowAuditor.thingsAround(I)I -/
def w_163 (p0 : Int32) (s : ST) (K : Int32 → ST → Prop) : Prop := w_181 p0 (0 : Int32) (35 : Int32) s (fun r2 s1 => ((r2 = 0 → (∃ m, w_163_14 m (0 : Int32) (0 : Int32) s1 (fun y2 s4 => K y2 s4) (fun y2 s5 => K y2 s5) K)) ∧ (¬ (r2 = 0) → (pin p0 36 = true ∧ (∃ m, w_163_14 m ((s1.2.1 28) (p0).toNatClampNeg) (0 : Int32) s1 (fun y2 s6 => K y2 s6) (fun y2 s7 => K y2 s7) K)))))
theorem q_163 {d : Nat} {K : Int32 → ST → Prop} (p0 : Int32) (s : ST) (k : w_163 p0 s K) : Rn sc (d + 1) 163 [.ref 0, .int p0] (hpS s) (kI K) := by
  have hq : prog[163]? = some pm163 := rfl
  refine Rn.of (L := [.ref 0, .int p0, pu, pu, pu, pu, pu, pu, pu]) hq rfl rfl ?_
  unfold w_163 at k
  refine Ex.seg hq 3 (j := 3) (L' := [.ref 0, .int p0, pu, pu, pu, pu, pu, pu, pu]) (S' := [.int (35 : Int32), .int (0 : Int32), .int p0]) (h' := hpS s) rfl ?_
  refine Ex.cl hq rfl rfl ?_
  refine Rn.mono (q_181 (d := d + 0) p0 (0 : Int32) (35 : Int32) s k) ?_
  rintro _ _ ⟨r2, s1, rfl, hzr2, rfl, k⟩
  show Ex sc (d + 1) 163 4 [.ref 0, .int p0, pu, pu, pu, pu, pu, pu, pu] [.int r2] (hpS s1) _
  refine Ex.i1 hq rfl (fun c => ?_) (fun c => ?_)
  · have k := k.1 c
    refine Ex.seg hq 4 (j := 14) (L' := [.ref 0, .int p0, .int (0 : Int32), .int (0 : Int32), pu, pu, pu, pu, pu]) (S' := []) (h' := hpS s1) rfl ?_
    obtain ⟨m, k⟩ := k
    refine Ex.fg (L := [.ref 0, pu, .int (0 : Int32), .int (0 : Int32), pu, pu, pu, pu, pu]) ⟨Or.inl rfl, ⟨Or.inr ⟨rfl, rfl⟩, ⟨Or.inl rfl, ⟨Or.inl rfl, ⟨Or.inl rfl, ⟨Or.inl rfl, ⟨Or.inl rfl, ⟨Or.inl rfl, ⟨Or.inl rfl, trivial⟩⟩⟩⟩⟩⟩⟩⟩⟩ ?_
    refine q_163_14 (d := d) m (0 : Int32) (0 : Int32) s1 k ?_ ?_
    · intro y2 s4 k
      refine Ex.seg hq 1 (j := 51) (L' := [pu, pu, .int y2, pu, pu, pu, pu, pu, pu]) (S' := [.int y2]) (h' := hpS s4) rfl ?_
      exact Ex.rt hq rfl rfl ⟨y2, s4, rfl, rfl, k⟩
    · intro y2 s5 k
      refine Ex.seg hq 2 (j := 51) (L' := [pu, pu, .int y2, pu, pu, pu, pu, pu, pu]) (S' := [.int y2]) (h' := hpS s5) rfl ?_
      exact Ex.rt hq rfl rfl ⟨y2, s5, rfl, rfl, k⟩
  · have k := k.2 c
    refine Ex.seg hq 3 (j := 8) (L' := [.ref 0, .int p0, pu, pu, pu, pu, pu, pu, pu]) (S' := [.int p0, .ref 28]) (h' := hpS s1) rfl ?_
    obtain ⟨hin, k⟩ := k
    refine Ex.ial hq rfl rfl hin ?_
    refine Ex.seg hq 4 (j := 14) (L' := [.ref 0, .int p0, .int ((s1.2.1 28) (p0).toNatClampNeg), .int (0 : Int32), pu, pu, pu, pu, pu]) (S' := []) (h' := hpS s1) rfl ?_
    obtain ⟨m, k⟩ := k
    refine Ex.fg (L := [.ref 0, pu, .int ((s1.2.1 28) (p0).toNatClampNeg), .int (0 : Int32), pu, pu, pu, pu, pu]) ⟨Or.inl rfl, ⟨Or.inr ⟨rfl, rfl⟩, ⟨Or.inl rfl, ⟨Or.inl rfl, ⟨Or.inl rfl, ⟨Or.inl rfl, ⟨Or.inl rfl, ⟨Or.inl rfl, ⟨Or.inl rfl, trivial⟩⟩⟩⟩⟩⟩⟩⟩⟩ ?_
    refine q_163_14 (d := d) m ((s1.2.1 28) (p0).toNatClampNeg) (0 : Int32) s1 k ?_ ?_
    · intro y2 s6 k
      refine Ex.seg hq 1 (j := 51) (L' := [pu, pu, .int y2, pu, pu, pu, pu, pu, pu]) (S' := [.int y2]) (h' := hpS s6) rfl ?_
      exact Ex.rt hq rfl rfl ⟨y2, s6, rfl, rfl, k⟩
    · intro y2 s7 k
      refine Ex.seg hq 2 (j := 51) (L' := [pu, pu, .int y2, pu, pu, pu, pu, pu, pu]) (S' := [.int y2]) (h' := hpS s7) rfl ?_
      exact Ex.rt hq rfl rfl ⟨y2, s7, rfl, rfl, k⟩
def w_165_11 : Nat → Int32 → Int32 → Int32 → Int64 → Int32 → ST → (Int32 → Int64 → ST → Prop) → (Int32 → ST → Prop) → Prop
  | 0, _, _, _, _, _, _, _, _ => False
  | n + 1, x1, x3, x4, x5, x7, s, X48, K => ((x1 ≤ x7 → X48 x3 x5 s) ∧ (¬ (x1 ≤ x7) → (¬ (65536 : Int64) = 0 ∧ w_125 ((((((((25173 : Int32) * x4) + (13849 : Int32)) &&& (65535 : Int32))).toInt64) * x5) / (65536 : Int64)) s (fun r4 s3 => w_166 r4 x3 s3 (fun r6 s5 => ((¬ r6 = 0 → w_165_11 n x1 x3 ((((25173 : Int32) * x4) + (13849 : Int32)) &&& (65535 : Int32)) x5 (x7 + (1 : Int32)) s5 X48 K) ∧ (¬ (¬ r6 = 0) → (((50 : Int32) ≤ x3 → w_165_11 n x1 x3 ((((25173 : Int32) * x4) + (13849 : Int32)) &&& (65535 : Int32)) x5 (x7 + (1 : Int32)) s5 X48 K) ∧ (¬ ((50 : Int32) ≤ x3) → (pin x3 50 = true ∧ w_165_11 n x1 (x3 + (1 : Int32)) ((((25173 : Int32) * x4) + (13849 : Int32)) &&& (65535 : Int32)) x5 (x7 + (1 : Int32)) (sA s5 33 (upd (s5.2.1 33) (x3).toNatClampNeg r4)) X48 K))))))))))
theorem q_165_11 {d : Nat} {X48 : Int32 → Int64 → ST → Prop} {K : Int32 → ST → Prop} : ∀ (n : Nat) (x1 : Int32) (x3 : Int32) (x4 : Int32) (x5 : Int64) (x7 : Int32) (s : ST), w_165_11 n x1 x3 x4 x5 x7 s X48 K → (∀ (y3 : Int32) (y5 : Int64) (s : ST), X48 y3 y5 s → Ex sc (d + 2) 165 48 [pu, pu, pu, .int y3, pu, .long y5, pu, pu, pu] [] (hpS s) (kI K)) → Ex sc (d + 2) 165 11 [.ref 0, .int x1, pu, .int x3, .int x4, .long x5, pu, .int x7, pu] [] (hpS s) (kI K) := by
  have hq : prog[165]? = some pm165 := rfl
  intro n
  induction n with
  | zero =>
    intro x1 x3 x4 x5 x7 s k
    exact k.elim
  | succ n ih =>
    intro x1 x3 x4 x5 x7 s k hX48
    rw [w_165_11] at k
    refine Ex.seg hq 2 (j := 13) (L' := [.ref 0, .int x1, pu, .int x3, .int x4, .long x5, pu, .int x7, pu]) (S' := [.int x1, .int x7]) (h' := hpS s) rfl ?_
    refine Ex.i2 hq rfl (fun c => ?_) (fun c => ?_)
    · have k := k.1 c
      refine Ex.fg (L := [pu, pu, pu, .int x3, pu, .long x5, pu, pu, pu]) ⟨Or.inr ⟨rfl, rfl⟩, ⟨Or.inr ⟨rfl, rfl⟩, ⟨Or.inl rfl, ⟨Or.inl rfl, ⟨Or.inr ⟨rfl, rfl⟩, ⟨Or.inl rfl, ⟨Or.inl rfl, ⟨Or.inr ⟨rfl, rfl⟩, ⟨Or.inl rfl, trivial⟩⟩⟩⟩⟩⟩⟩⟩⟩ ?_
      exact hX48 x3 x5 s k
    · have k := k.2 c
      refine Ex.seg hq 15 (j := 29) (L' := [.ref 0, .int x1, pu, .int x3, .int ((((25173 : Int32) * x4) + (13849 : Int32)) &&& (65535 : Int32)), .long x5, pu, .int x7, pu]) (S' := [.long (65536 : Int64), .long (((((((25173 : Int32) * x4) + (13849 : Int32)) &&& (65535 : Int32))).toInt64) * x5), .ref 8]) (h' := hpS s) rfl ?_
      obtain ⟨hz, k⟩ := k
      refine Ex.ldv hq rfl hz ?_
      refine Ex.cl hq rfl rfl ?_
      refine Rn.mono (q_125 (d := d + 0) ((((((((25173 : Int32) * x4) + (13849 : Int32)) &&& (65535 : Int32))).toInt64) * x5) / (65536 : Int64)) s k) ?_
      rintro _ _ ⟨r4, s3, rfl, rfl, k⟩
      show Ex sc (d + 2) 165 31 [.ref 0, .int x1, pu, .int x3, .int ((((25173 : Int32) * x4) + (13849 : Int32)) &&& (65535 : Int32)), .long x5, pu, .int x7, pu] [.int r4] (hpS s3) _
      refine Ex.seg hq 4 (j := 35) (L' := [.ref 0, .int x1, pu, .int x3, .int ((((25173 : Int32) * x4) + (13849 : Int32)) &&& (65535 : Int32)), .long x5, pu, .int x7, .int r4]) (S' := [.int x3, .int r4, .ref 0]) (h' := hpS s3) rfl ?_
      refine Ex.cl hq rfl rfl ?_
      refine Rn.mono (q_166 (d := d + 1) r4 x3 s3 k) ?_
      rintro _ _ ⟨r6, s5, rfl, hzr6, rfl, k⟩
      show Ex sc (d + 2) 165 36 [.ref 0, .int x1, pu, .int x3, .int ((((25173 : Int32) * x4) + (13849 : Int32)) &&& (65535 : Int32)), .long x5, pu, .int x7, .int r4] [.int r6] (hpS s5) _
      refine Ex.i1 hq rfl (fun c => ?_) (fun c => ?_)
      · have k := k.1 c
        refine Ex.seg hq 2 (j := 11) (L' := [.ref 0, .int x1, pu, .int x3, .int ((((25173 : Int32) * x4) + (13849 : Int32)) &&& (65535 : Int32)), .long x5, pu, .int (x7 + (1 : Int32)), .int r4]) (S' := []) (h' := hpS s5) rfl ?_
        refine Ex.fg (L := [.ref 0, .int x1, pu, .int x3, .int ((((25173 : Int32) * x4) + (13849 : Int32)) &&& (65535 : Int32)), .long x5, pu, .int (x7 + (1 : Int32)), pu]) ⟨Or.inl rfl, ⟨Or.inl rfl, ⟨Or.inl rfl, ⟨Or.inl rfl, ⟨Or.inl rfl, ⟨Or.inl rfl, ⟨Or.inl rfl, ⟨Or.inl rfl, ⟨Or.inr ⟨rfl, rfl⟩, trivial⟩⟩⟩⟩⟩⟩⟩⟩⟩ ?_
        exact ih x1 x3 ((((25173 : Int32) * x4) + (13849 : Int32)) &&& (65535 : Int32)) x5 (x7 + (1 : Int32)) s5 k hX48
      · have k := k.2 c
        refine Ex.seg hq 2 (j := 39) (L' := [.ref 0, .int x1, pu, .int x3, .int ((((25173 : Int32) * x4) + (13849 : Int32)) &&& (65535 : Int32)), .long x5, pu, .int x7, .int r4]) (S' := [.int (50 : Int32), .int x3]) (h' := hpS s5) rfl ?_
        refine Ex.i2 hq rfl (fun c => ?_) (fun c => ?_)
        · have k := k.1 c
          refine Ex.seg hq 2 (j := 11) (L' := [.ref 0, .int x1, pu, .int x3, .int ((((25173 : Int32) * x4) + (13849 : Int32)) &&& (65535 : Int32)), .long x5, pu, .int (x7 + (1 : Int32)), .int r4]) (S' := []) (h' := hpS s5) rfl ?_
          refine Ex.fg (L := [.ref 0, .int x1, pu, .int x3, .int ((((25173 : Int32) * x4) + (13849 : Int32)) &&& (65535 : Int32)), .long x5, pu, .int (x7 + (1 : Int32)), pu]) ⟨Or.inl rfl, ⟨Or.inl rfl, ⟨Or.inl rfl, ⟨Or.inl rfl, ⟨Or.inl rfl, ⟨Or.inl rfl, ⟨Or.inl rfl, ⟨Or.inl rfl, ⟨Or.inr ⟨rfl, rfl⟩, trivial⟩⟩⟩⟩⟩⟩⟩⟩⟩ ?_
          exact ih x1 x3 ((((25173 : Int32) * x4) + (13849 : Int32)) &&& (65535 : Int32)) x5 (x7 + (1 : Int32)) s5 k hX48
        · have k := k.2 c
          refine Ex.seg hq 4 (j := 44) (L' := [.ref 0, .int x1, pu, .int x3, .int ((((25173 : Int32) * x4) + (13849 : Int32)) &&& (65535 : Int32)), .long x5, pu, .int x7, .int r4]) (S' := [.int r4, .int x3, .ref 33]) (h' := hpS s5) rfl ?_
          obtain ⟨hin, k⟩ := k
          refine Ex.ias hq rfl rfl hin (h' := hpS (sA s5 33 (upd (s5.2.1 33) (x3).toNatClampNeg r4))) (hset_33 _ _) ?_
          refine Ex.seg hq 3 (j := 11) (L' := [.ref 0, .int x1, pu, .int (x3 + (1 : Int32)), .int ((((25173 : Int32) * x4) + (13849 : Int32)) &&& (65535 : Int32)), .long x5, pu, .int (x7 + (1 : Int32)), .int r4]) (S' := []) (h' := hpS (sA s5 33 (upd (s5.2.1 33) (x3).toNatClampNeg r4))) rfl ?_
          refine Ex.fg (L := [.ref 0, .int x1, pu, .int (x3 + (1 : Int32)), .int ((((25173 : Int32) * x4) + (13849 : Int32)) &&& (65535 : Int32)), .long x5, pu, .int (x7 + (1 : Int32)), pu]) ⟨Or.inl rfl, ⟨Or.inl rfl, ⟨Or.inl rfl, ⟨Or.inl rfl, ⟨Or.inl rfl, ⟨Or.inl rfl, ⟨Or.inl rfl, ⟨Or.inl rfl, ⟨Or.inr ⟨rfl, rfl⟩, trivial⟩⟩⟩⟩⟩⟩⟩⟩⟩ ?_
          exact ih x1 (x3 + (1 : Int32)) ((((25173 : Int32) * x4) + (13849 : Int32)) &&& (65535 : Int32)) x5 (x7 + (1 : Int32)) (sA s5 33 (upd (s5.2.1 33) (x3).toNatClampNeg r4)) k hX48
/-- RowAuditor.draw(II)I -/
def w_165 (p0 : Int32) (p1 : Int32) (s : ST) (K : Int32 → ST → Prop) : Prop := w_124 s (fun r2 s1 => (∃ m, w_165_11 m p0 (0 : Int32) p1 ((r2).toInt64) (0 : Int32) s1 (fun y3 y5 s7 => K y3 s7) K))
theorem q_165 {d : Nat} {K : Int32 → ST → Prop} (p0 : Int32) (p1 : Int32) (s : ST) (k : w_165 p0 p1 s K) : Rn sc (d + 2) 165 [.ref 0, .int p0, .int p1] (hpS s) (kI K) := by
  have hq : prog[165]? = some pm165 := rfl
  refine Rn.of (L := [.ref 0, .int p0, .int p1, pu, pu, pu, pu, pu, pu]) hq rfl rfl ?_
  unfold w_165 at k
  refine Ex.seg hq 6 (j := 6) (L' := [.ref 0, .int p0, .int p1, .int (0 : Int32), .int p1, pu, pu, pu, pu]) (S' := [.ref 8]) (h' := hpS s) rfl ?_
  refine Ex.cl hq rfl rfl ?_
  refine Rn.mono (q_124 (d := d + 0) s k) ?_
  rintro _ _ ⟨r2, s1, rfl, rfl, k⟩
  show Ex sc (d + 2) 165 7 [.ref 0, .int p0, .int p1, .int (0 : Int32), .int p1, pu, pu, pu, pu] [.int r2] (hpS s1) _
  refine Ex.seg hq 4 (j := 11) (L' := [.ref 0, .int p0, .int p1, .int (0 : Int32), .int p1, .long ((r2).toInt64), pu, .int (0 : Int32), pu]) (S' := []) (h' := hpS s1) rfl ?_
  obtain ⟨m, k⟩ := k
  refine Ex.fg (L := [.ref 0, .int p0, pu, .int (0 : Int32), .int p1, .long ((r2).toInt64), pu, .int (0 : Int32), pu]) ⟨Or.inl rfl, ⟨Or.inl rfl, ⟨Or.inr ⟨rfl, rfl⟩, ⟨Or.inl rfl, ⟨Or.inl rfl, ⟨Or.inl rfl, ⟨Or.inl rfl, ⟨Or.inl rfl, ⟨Or.inl rfl, trivial⟩⟩⟩⟩⟩⟩⟩⟩⟩ ?_
  refine q_165_11 (d := d) m p0 (0 : Int32) p1 ((r2).toInt64) (0 : Int32) s1 k ?_
  · intro y3 y5 s7 k
    refine Ex.seg hq 1 (j := 49) (L' := [pu, pu, pu, .int y3, pu, .long y5, pu, pu, pu]) (S' := [.int y3]) (h' := hpS s7) rfl ?_
    exact Ex.rt hq rfl rfl ⟨y3, s7, rfl, rfl, k⟩
/-- RowAuditor.ask(III)I -/
def w_168 (p0 : Int32) (p1 : Int32) (p2 : Int32) (s : ST) (K : Int32 → ST → Prop) : Prop := w_183 p0 s (fun r2 s1 => ((r2 = 0 → K (-1 : Int32) s1) ∧ (¬ (r2 = 0) → w_2 p1 s1 (fun r4 s3 => ((r4 = 0 → K (-1 : Int32) s3) ∧ (¬ (r4 = 0) → w_181 p2 ((s3.1 100) + (1 : Int32)) (3999 : Int32) s3 (fun r6 s5 => ((r6 = 0 → K (-1 : Int32) s5) ∧ (¬ (r6 = 0) → (((s5.1 13) < (60 : Int32) → (pin (s5.1 13) 60 = true ∧ (pin (s5.1 13) 60 = true ∧ (pin (s5.1 13) 60 = true ∧ K (((s5.1 13) + (1 : Int32)) - (1 : Int32)) (sA (sA (sA (sI s5 13 ((s5.1 13) + (1 : Int32))) 30 (upd (s5.2.1 30) ((s5.1 13)).toNatClampNeg p1)) 31 (upd (s5.2.1 31) ((s5.1 13)).toNatClampNeg p2)) 32 (upd (s5.2.1 32) ((s5.1 13)).toNatClampNeg (-1 : Int32))))))) ∧ (¬ ((s5.1 13) < (60 : Int32)) → K (-1 : Int32) s5)))))))))))
theorem q_168 {d : Nat} {K : Int32 → ST → Prop} (p0 : Int32) (p1 : Int32) (p2 : Int32) (s : ST) (k : w_168 p0 p1 p2 s K) : Rn sc (d + 2) 168 [.ref 0, .int p0, .int p1, .int p2] (hpS s) (kI K) := by
  have hq : prog[168]? = some pm168 := rfl
  refine Rn.of (L := [.ref 0, .int p0, .int p1, .int p2]) hq rfl rfl ?_
  unfold w_168 at k
  refine Ex.seg hq 1 (j := 1) (L' := [.ref 0, .int p0, .int p1, .int p2]) (S' := [.int p0]) (h' := hpS s) rfl ?_
  refine Ex.cl hq rfl rfl ?_
  refine Rn.mono (q_183 (d := d + 0) p0 s k) ?_
  rintro _ _ ⟨r2, s1, rfl, hzr2, rfl, k⟩
  show Ex sc (d + 2) 168 2 [.ref 0, .int p0, .int p1, .int p2] [.int r2] (hpS s1) _
  refine Ex.i1 hq rfl (fun c => ?_) (fun c => ?_)
  · have k := k.1 c
    refine Ex.seg hq 1 (j := 22) (L' := [.ref 0, .int p0, .int p1, .int p2]) (S' := [.int (-1 : Int32)]) (h' := hpS s1) rfl ?_
    exact Ex.rt hq rfl rfl ⟨(-1 : Int32), s1, rfl, rfl, k⟩
  · have k := k.2 c
    refine Ex.seg hq 3 (j := 6) (L' := [.ref 0, .int p0, .int p1, .int p2]) (S' := [.int p1, .ref 1]) (h' := hpS s1) rfl ?_
    refine Ex.cl hq rfl rfl ?_
    refine Rn.mono (q_2 (d := d + 1) p1 s1 k) ?_
    rintro _ _ ⟨r4, s3, rfl, hzr4, rfl, k⟩
    show Ex sc (d + 2) 168 7 [.ref 0, .int p0, .int p1, .int p2] [.int r4] (hpS s3) _
    refine Ex.i1 hq rfl (fun c => ?_) (fun c => ?_)
    · have k := k.1 c
      refine Ex.seg hq 1 (j := 22) (L' := [.ref 0, .int p0, .int p1, .int p2]) (S' := [.int (-1 : Int32)]) (h' := hpS s3) rfl ?_
      exact Ex.rt hq rfl rfl ⟨(-1 : Int32), s3, rfl, rfl, k⟩
    · have k := k.2 c
      refine Ex.seg hq 7 (j := 15) (L' := [.ref 0, .int p0, .int p1, .int p2]) (S' := [.int (3999 : Int32), .int ((s3.1 100) + (1 : Int32)), .int p2]) (h' := hpS s3) rfl ?_
      refine Ex.cl hq rfl rfl ?_
      refine Rn.mono (q_181 (d := d + 1) p2 ((s3.1 100) + (1 : Int32)) (3999 : Int32) s3 k) ?_
      rintro _ _ ⟨r6, s5, rfl, hzr6, rfl, k⟩
      show Ex sc (d + 2) 168 16 [.ref 0, .int p0, .int p1, .int p2] [.int r6] (hpS s5) _
      refine Ex.i1 hq rfl (fun c => ?_) (fun c => ?_)
      · have k := k.1 c
        refine Ex.seg hq 1 (j := 22) (L' := [.ref 0, .int p0, .int p1, .int p2]) (S' := [.int (-1 : Int32)]) (h' := hpS s5) rfl ?_
        exact Ex.rt hq rfl rfl ⟨(-1 : Int32), s5, rfl, rfl, k⟩
      · have k := k.2 c
        refine Ex.seg hq 3 (j := 20) (L' := [.ref 0, .int p0, .int p1, .int p2]) (S' := [.int (60 : Int32), .int (s5.1 13)]) (h' := hpS s5) rfl ?_
        refine Ex.i2 hq rfl (fun c => ?_) (fun c => ?_)
        · have k := k.1 c
          refine Ex.seg hq 5 (j := 28) (L' := [.ref 0, .int p0, .int p1, .int p2]) (S' := [.int p1, .int (s5.1 13), .ref 30]) (h' := hpS s5) rfl ?_
          obtain ⟨hin, k⟩ := k
          refine Ex.ias hq rfl rfl hin (h' := hpS (sA s5 30 (upd (s5.2.1 30) ((s5.1 13)).toNatClampNeg p1))) (hset_30 _ _) ?_
          refine Ex.seg hq 5 (j := 34) (L' := [.ref 0, .int p0, .int p1, .int p2]) (S' := [.int p2, .int (s5.1 13), .ref 31]) (h' := hpS (sA s5 30 (upd (s5.2.1 30) ((s5.1 13)).toNatClampNeg p1))) rfl ?_
          obtain ⟨hin, k⟩ := k
          refine Ex.ias hq rfl rfl hin (h' := hpS (sA (sA s5 30 (upd (s5.2.1 30) ((s5.1 13)).toNatClampNeg p1)) 31 (upd (s5.2.1 31) ((s5.1 13)).toNatClampNeg p2))) (hset_31 _ _) ?_
          refine Ex.seg hq 5 (j := 40) (L' := [.ref 0, .int p0, .int p1, .int p2]) (S' := [.int (-1 : Int32), .int (s5.1 13), .ref 32]) (h' := hpS (sA (sA s5 30 (upd (s5.2.1 30) ((s5.1 13)).toNatClampNeg p1)) 31 (upd (s5.2.1 31) ((s5.1 13)).toNatClampNeg p2))) rfl ?_
          obtain ⟨hin, k⟩ := k
          refine Ex.ias hq rfl rfl hin (h' := hpS (sA (sA (sA s5 30 (upd (s5.2.1 30) ((s5.1 13)).toNatClampNeg p1)) 31 (upd (s5.2.1 31) ((s5.1 13)).toNatClampNeg p2)) 32 (upd (s5.2.1 32) ((s5.1 13)).toNatClampNeg (-1 : Int32)))) (hset_32 _ _) ?_
          refine Ex.seg hq 10 (j := 51) (L' := [.ref 0, .int p0, .int p1, .int p2]) (S' := [.int (((s5.1 13) + (1 : Int32)) - (1 : Int32))]) (h' := hpS (sA (sA (sA (sI s5 13 ((s5.1 13) + (1 : Int32))) 30 (upd (s5.2.1 30) ((s5.1 13)).toNatClampNeg p1)) 31 (upd (s5.2.1 31) ((s5.1 13)).toNatClampNeg p2)) 32 (upd (s5.2.1 32) ((s5.1 13)).toNatClampNeg (-1 : Int32)))) rfl ?_
          exact Ex.rt hq rfl rfl ⟨(((s5.1 13) + (1 : Int32)) - (1 : Int32)), (sA (sA (sA (sI s5 13 ((s5.1 13) + (1 : Int32))) 30 (upd (s5.2.1 30) ((s5.1 13)).toNatClampNeg p1)) 31 (upd (s5.2.1 31) ((s5.1 13)).toNatClampNeg p2)) 32 (upd (s5.2.1 32) ((s5.1 13)).toNatClampNeg (-1 : Int32))), rfl, rfl, k⟩
        · have k := k.2 c
          refine Ex.seg hq 1 (j := 22) (L' := [.ref 0, .int p0, .int p1, .int p2]) (S' := [.int (-1 : Int32)]) (h' := hpS s5) rfl ?_
          exact Ex.rt hq rfl rfl ⟨(-1 : Int32), s5, rfl, rfl, k⟩
/-- RowAuditor.isAsking(I)Z -/
def w_171 (p0 : Int32) (s : ST) (K : Int32 → ST → Prop) : Prop := w_181 p0 (0 : Int32) ((s.1 13) - (1 : Int32)) s (fun r2 s1 => ((r2 = 0 → K (0 : Int32) s1) ∧ (¬ (r2 = 0) → (((60 : Int32) ≤ p0 → K (0 : Int32) s1) ∧ (¬ ((60 : Int32) ≤ p0) → K (1 : Int32) s1)))))
theorem q_171 {d : Nat} {K : Int32 → ST → Prop} (p0 : Int32) (s : ST) (k : w_171 p0 s K) : Rn sc (d + 1) 171 [.ref 0, .int p0] (hpS s) (kZ K) := by
  have hq : prog[171]? = some pm171 := rfl
  refine Rn.of (L := [.ref 0, .int p0]) hq rfl rfl ?_
  unfold w_171 at k
  refine Ex.seg hq 6 (j := 6) (L' := [.ref 0, .int p0]) (S' := [.int ((s.1 13) - (1 : Int32)), .int (0 : Int32), .int p0]) (h' := hpS s) rfl ?_
  refine Ex.cl hq rfl rfl ?_
  refine Rn.mono (q_181 (d := d + 0) p0 (0 : Int32) ((s.1 13) - (1 : Int32)) s k) ?_
  rintro _ _ ⟨r2, s1, rfl, hzr2, rfl, k⟩
  show Ex sc (d + 1) 171 7 [.ref 0, .int p0] [.int r2] (hpS s1) _
  refine Ex.i1 hq rfl (fun c => ?_) (fun c => ?_)
  · have k := k.1 c
    refine Ex.seg hq 1 (j := 14) (L' := [.ref 0, .int p0]) (S' := [.int (0 : Int32)]) (h' := hpS s1) rfl ?_
    exact Ex.zr hq rfl rfl (Or.inl rfl) ⟨(0 : Int32), s1, rfl, (Or.inl rfl), rfl, k⟩
  · have k := k.2 c
    refine Ex.seg hq 2 (j := 10) (L' := [.ref 0, .int p0]) (S' := [.int (60 : Int32), .int p0]) (h' := hpS s1) rfl ?_
    refine Ex.i2 hq rfl (fun c => ?_) (fun c => ?_)
    · have k := k.1 c
      refine Ex.seg hq 1 (j := 14) (L' := [.ref 0, .int p0]) (S' := [.int (0 : Int32)]) (h' := hpS s1) rfl ?_
      exact Ex.zr hq rfl rfl (Or.inl rfl) ⟨(0 : Int32), s1, rfl, (Or.inl rfl), rfl, k⟩
    · have k := k.2 c
      refine Ex.seg hq 2 (j := 14) (L' := [.ref 0, .int p0]) (S' := [.int (1 : Int32)]) (h' := hpS s1) rfl ?_
      exact Ex.zr hq rfl rfl (Or.inr rfl) ⟨(1 : Int32), s1, rfl, (Or.inr rfl), rfl, k⟩
/-- RowAuditor.reading(III)I -/
def w_175 (p0 : Int32) (p1 : Int32) (p2 : Int32) (s : ST) (K : Int32 → ST → Prop) : Prop := w_181 p0 (1 : Int32) (1000 : Int32) s (fun r2 s1 => ((r2 = 0 → (((0 : Int32) = 0 → K (-1 : Int32) s1) ∧ (¬ ((0 : Int32) = 0) → (((9 : Int32) ≤ (s1.1 2300) → K (-1 : Int32) s1) ∧ (¬ ((9 : Int32) ≤ (s1.1 2300)) → w_89 p0 p1 p2 s1 (fun r4 s3 => K r4 s3)))))) ∧ (¬ (r2 = 0) → w_181 p1 (0 : Int32) (100000 : Int32) s1 (fun r6 s5 => ((r6 = 0 → (((0 : Int32) = 0 → K (-1 : Int32) s5) ∧ (¬ ((0 : Int32) = 0) → (((9 : Int32) ≤ (s5.1 2300) → K (-1 : Int32) s5) ∧ (¬ ((9 : Int32) ≤ (s5.1 2300)) → w_89 p0 p1 p2 s5 (fun r8 s7 => K r8 s7)))))) ∧ (¬ (r6 = 0) → w_181 p2 (-1 : Int32) ((s5.1 2300) - (1 : Int32)) s5 (fun r10 s9 => ((r10 = 0 → (((0 : Int32) = 0 → K (-1 : Int32) s9) ∧ (¬ ((0 : Int32) = 0) → (((9 : Int32) ≤ (s9.1 2300) → K (-1 : Int32) s9) ∧ (¬ ((9 : Int32) ≤ (s9.1 2300)) → w_89 p0 p1 p2 s9 (fun r12 s11 => K r12 s11)))))) ∧ (¬ (r10 = 0) → (((1 : Int32) = 0 → K (-1 : Int32) s9) ∧ (¬ ((1 : Int32) = 0) → (((9 : Int32) ≤ (s9.1 2300) → K (-1 : Int32) s9) ∧ (¬ ((9 : Int32) ≤ (s9.1 2300)) → w_89 p0 p1 p2 s9 (fun r14 s13 => K r14 s13))))))))))))))
theorem q_175 {d : Nat} {K : Int32 → ST → Prop} (p0 : Int32) (p1 : Int32) (p2 : Int32) (s : ST) (k : w_175 p0 p1 p2 s K) : Rn sc (d + 1) 175 [.ref 0, .int p0, .int p1, .int p2] (hpS s) (kI K) := by
  have hq : prog[175]? = some pm175 := rfl
  refine Rn.of (L := [.ref 0, .int p0, .int p1, .int p2, pu]) hq rfl rfl ?_
  unfold w_175 at k
  refine Ex.seg hq 3 (j := 3) (L' := [.ref 0, .int p0, .int p1, .int p2, pu]) (S' := [.int (1000 : Int32), .int (1 : Int32), .int p0]) (h' := hpS s) rfl ?_
  refine Ex.cl hq rfl rfl ?_
  refine Rn.mono (q_181 (d := d + 0) p0 (1 : Int32) (1000 : Int32) s k) ?_
  rintro _ _ ⟨r2, s1, rfl, hzr2, rfl, k⟩
  show Ex sc (d + 1) 175 4 [.ref 0, .int p0, .int p1, .int p2, pu] [.int r2] (hpS s1) _
  refine Ex.i1 hq rfl (fun c => ?_) (fun c => ?_)
  · have k := k.1 c
    refine Ex.seg hq 3 (j := 24) (L' := [.ref 0, .int p0, .int p1, .int p2, .int (0 : Int32)]) (S' := [.int (0 : Int32)]) (h' := hpS s1) rfl ?_
    refine Ex.i1 hq rfl (fun c => ?_) (fun c => ?_)
    · have k := k.1 c
      refine Ex.seg hq 1 (j := 38) (L' := [.ref 0, .int p0, .int p1, .int p2, .int (0 : Int32)]) (S' := [.int (-1 : Int32)]) (h' := hpS s1) rfl ?_
      exact Ex.rt hq rfl rfl ⟨(-1 : Int32), s1, rfl, rfl, k⟩
    · have k := k.2 c
      refine Ex.seg hq 4 (j := 29) (L' := [.ref 0, .int p0, .int p1, .int p2, .int (0 : Int32)]) (S' := [.int (9 : Int32), .int (s1.1 2300)]) (h' := hpS s1) rfl ?_
      refine Ex.i2 hq rfl (fun c => ?_) (fun c => ?_)
      · have k := k.1 c
        refine Ex.seg hq 1 (j := 38) (L' := [.ref 0, .int p0, .int p1, .int p2, .int (0 : Int32)]) (S' := [.int (-1 : Int32)]) (h' := hpS s1) rfl ?_
        exact Ex.rt hq rfl rfl ⟨(-1 : Int32), s1, rfl, rfl, k⟩
      · have k := k.2 c
        refine Ex.seg hq 5 (j := 35) (L' := [.ref 0, .int p0, .int p1, .int p2, .int (0 : Int32)]) (S' := [.int p2, .int p1, .int p0, .ref 23]) (h' := hpS s1) rfl ?_
        refine Ex.cl hq rfl rfl ?_
        refine Rn.mono (q_89 (d := d + 0) p0 p1 p2 s1 k) ?_
        rintro _ _ ⟨r4, s3, rfl, rfl, k⟩
        show Ex sc (d + 1) 175 36 [.ref 0, .int p0, .int p1, .int p2, .int (0 : Int32)] [.int r4] (hpS s3) _
        refine Ex.seg hq 1 (j := 38) (L' := [.ref 0, .int p0, .int p1, .int p2, .int (0 : Int32)]) (S' := [.int r4]) (h' := hpS s3) rfl ?_
        exact Ex.rt hq rfl rfl ⟨r4, s3, rfl, rfl, k⟩
  · have k := k.2 c
    refine Ex.seg hq 3 (j := 8) (L' := [.ref 0, .int p0, .int p1, .int p2, pu]) (S' := [.int (100000 : Int32), .int (0 : Int32), .int p1]) (h' := hpS s1) rfl ?_
    refine Ex.cl hq rfl rfl ?_
    refine Rn.mono (q_181 (d := d + 0) p1 (0 : Int32) (100000 : Int32) s1 k) ?_
    rintro _ _ ⟨r6, s5, rfl, hzr6, rfl, k⟩
    show Ex sc (d + 1) 175 9 [.ref 0, .int p0, .int p1, .int p2, pu] [.int r6] (hpS s5) _
    refine Ex.i1 hq rfl (fun c => ?_) (fun c => ?_)
    · have k := k.1 c
      refine Ex.seg hq 3 (j := 24) (L' := [.ref 0, .int p0, .int p1, .int p2, .int (0 : Int32)]) (S' := [.int (0 : Int32)]) (h' := hpS s5) rfl ?_
      refine Ex.i1 hq rfl (fun c => ?_) (fun c => ?_)
      · have k := k.1 c
        refine Ex.seg hq 1 (j := 38) (L' := [.ref 0, .int p0, .int p1, .int p2, .int (0 : Int32)]) (S' := [.int (-1 : Int32)]) (h' := hpS s5) rfl ?_
        exact Ex.rt hq rfl rfl ⟨(-1 : Int32), s5, rfl, rfl, k⟩
      · have k := k.2 c
        refine Ex.seg hq 4 (j := 29) (L' := [.ref 0, .int p0, .int p1, .int p2, .int (0 : Int32)]) (S' := [.int (9 : Int32), .int (s5.1 2300)]) (h' := hpS s5) rfl ?_
        refine Ex.i2 hq rfl (fun c => ?_) (fun c => ?_)
        · have k := k.1 c
          refine Ex.seg hq 1 (j := 38) (L' := [.ref 0, .int p0, .int p1, .int p2, .int (0 : Int32)]) (S' := [.int (-1 : Int32)]) (h' := hpS s5) rfl ?_
          exact Ex.rt hq rfl rfl ⟨(-1 : Int32), s5, rfl, rfl, k⟩
        · have k := k.2 c
          refine Ex.seg hq 5 (j := 35) (L' := [.ref 0, .int p0, .int p1, .int p2, .int (0 : Int32)]) (S' := [.int p2, .int p1, .int p0, .ref 23]) (h' := hpS s5) rfl ?_
          refine Ex.cl hq rfl rfl ?_
          refine Rn.mono (q_89 (d := d + 0) p0 p1 p2 s5 k) ?_
          rintro _ _ ⟨r8, s7, rfl, rfl, k⟩
          show Ex sc (d + 1) 175 36 [.ref 0, .int p0, .int p1, .int p2, .int (0 : Int32)] [.int r8] (hpS s7) _
          refine Ex.seg hq 1 (j := 38) (L' := [.ref 0, .int p0, .int p1, .int p2, .int (0 : Int32)]) (S' := [.int r8]) (h' := hpS s7) rfl ?_
          exact Ex.rt hq rfl rfl ⟨r8, s7, rfl, rfl, k⟩
    · have k := k.2 c
      refine Ex.seg hq 7 (j := 17) (L' := [.ref 0, .int p0, .int p1, .int p2, pu]) (S' := [.int ((s5.1 2300) - (1 : Int32)), .int (-1 : Int32), .int p2]) (h' := hpS s5) rfl ?_
      refine Ex.cl hq rfl rfl ?_
      refine Rn.mono (q_181 (d := d + 0) p2 (-1 : Int32) ((s5.1 2300) - (1 : Int32)) s5 k) ?_
      rintro _ _ ⟨r10, s9, rfl, hzr10, rfl, k⟩
      show Ex sc (d + 1) 175 18 [.ref 0, .int p0, .int p1, .int p2, pu] [.int r10] (hpS s9) _
      refine Ex.i1 hq rfl (fun c => ?_) (fun c => ?_)
      · have k := k.1 c
        refine Ex.seg hq 3 (j := 24) (L' := [.ref 0, .int p0, .int p1, .int p2, .int (0 : Int32)]) (S' := [.int (0 : Int32)]) (h' := hpS s9) rfl ?_
        refine Ex.i1 hq rfl (fun c => ?_) (fun c => ?_)
        · have k := k.1 c
          refine Ex.seg hq 1 (j := 38) (L' := [.ref 0, .int p0, .int p1, .int p2, .int (0 : Int32)]) (S' := [.int (-1 : Int32)]) (h' := hpS s9) rfl ?_
          exact Ex.rt hq rfl rfl ⟨(-1 : Int32), s9, rfl, rfl, k⟩
        · have k := k.2 c
          refine Ex.seg hq 4 (j := 29) (L' := [.ref 0, .int p0, .int p1, .int p2, .int (0 : Int32)]) (S' := [.int (9 : Int32), .int (s9.1 2300)]) (h' := hpS s9) rfl ?_
          refine Ex.i2 hq rfl (fun c => ?_) (fun c => ?_)
          · have k := k.1 c
            refine Ex.seg hq 1 (j := 38) (L' := [.ref 0, .int p0, .int p1, .int p2, .int (0 : Int32)]) (S' := [.int (-1 : Int32)]) (h' := hpS s9) rfl ?_
            exact Ex.rt hq rfl rfl ⟨(-1 : Int32), s9, rfl, rfl, k⟩
          · have k := k.2 c
            refine Ex.seg hq 5 (j := 35) (L' := [.ref 0, .int p0, .int p1, .int p2, .int (0 : Int32)]) (S' := [.int p2, .int p1, .int p0, .ref 23]) (h' := hpS s9) rfl ?_
            refine Ex.cl hq rfl rfl ?_
            refine Rn.mono (q_89 (d := d + 0) p0 p1 p2 s9 k) ?_
            rintro _ _ ⟨r12, s11, rfl, rfl, k⟩
            show Ex sc (d + 1) 175 36 [.ref 0, .int p0, .int p1, .int p2, .int (0 : Int32)] [.int r12] (hpS s11) _
            refine Ex.seg hq 1 (j := 38) (L' := [.ref 0, .int p0, .int p1, .int p2, .int (0 : Int32)]) (S' := [.int r12]) (h' := hpS s11) rfl ?_
            exact Ex.rt hq rfl rfl ⟨r12, s11, rfl, rfl, k⟩
      · have k := k.2 c
        refine Ex.seg hq 4 (j := 24) (L' := [.ref 0, .int p0, .int p1, .int p2, .int (1 : Int32)]) (S' := [.int (1 : Int32)]) (h' := hpS s9) rfl ?_
        refine Ex.i1 hq rfl (fun c => ?_) (fun c => ?_)
        · have k := k.1 c
          refine Ex.seg hq 1 (j := 38) (L' := [.ref 0, .int p0, .int p1, .int p2, .int (1 : Int32)]) (S' := [.int (-1 : Int32)]) (h' := hpS s9) rfl ?_
          exact Ex.rt hq rfl rfl ⟨(-1 : Int32), s9, rfl, rfl, k⟩
        · have k := k.2 c
          refine Ex.seg hq 4 (j := 29) (L' := [.ref 0, .int p0, .int p1, .int p2, .int (1 : Int32)]) (S' := [.int (9 : Int32), .int (s9.1 2300)]) (h' := hpS s9) rfl ?_
          refine Ex.i2 hq rfl (fun c => ?_) (fun c => ?_)
          · have k := k.1 c
            refine Ex.seg hq 1 (j := 38) (L' := [.ref 0, .int p0, .int p1, .int p2, .int (1 : Int32)]) (S' := [.int (-1 : Int32)]) (h' := hpS s9) rfl ?_
            exact Ex.rt hq rfl rfl ⟨(-1 : Int32), s9, rfl, rfl, k⟩
          · have k := k.2 c
            refine Ex.seg hq 5 (j := 35) (L' := [.ref 0, .int p0, .int p1, .int p2, .int (1 : Int32)]) (S' := [.int p2, .int p1, .int p0, .ref 23]) (h' := hpS s9) rfl ?_
            refine Ex.cl hq rfl rfl ?_
            refine Rn.mono (q_89 (d := d + 0) p0 p1 p2 s9 k) ?_
            rintro _ _ ⟨r14, s13, rfl, rfl, k⟩
            show Ex sc (d + 1) 175 36 [.ref 0, .int p0, .int p1, .int p2, .int (1 : Int32)] [.int r14] (hpS s13) _
            refine Ex.seg hq 1 (j := 38) (L' := [.ref 0, .int p0, .int p1, .int p2, .int (1 : Int32)]) (S' := [.int r14]) (h' := hpS s13) rfl ?_
            exact Ex.rt hq rfl rfl ⟨r14, s13, rfl, rfl, k⟩
def w_6_2 : Nat → Int32 → Int32 → ST → (Int32 → Int32 → ST → Prop) → (ST → Prop) → Prop
  | 0, _, _, _, _, _ => False
  | n + 1, x1, x2, s, X26, K => ((x2 ≤ 0 → X26 x1 x2 s) ∧ (¬ (x2 ≤ 0) → (pin (x2 - (1 : Int32)) 150 = true ∧ w_7 ((s.2.1 4) ((x2 - (1 : Int32))).toNatClampNeg) x1 s (fun r2 s1 => ((r2 = 0 → X26 x1 x2 s1) ∧ (¬ (r2 = 0) → (pin (x2 - (1 : Int32)) 150 = true ∧ (pin x2 150 = true ∧ w_6_2 n x1 (x2 + (-1 : Int32)) (sA s1 4 (upd (s1.2.1 4) (x2).toNatClampNeg ((s1.2.1 4) ((x2 - (1 : Int32))).toNatClampNeg))) X26 K))))))))
theorem q_6_2 {d : Nat} {X26 : Int32 → Int32 → ST → Prop} {K : ST → Prop} : ∀ (n : Nat) (x1 : Int32) (x2 : Int32) (s : ST), w_6_2 n x1 x2 s X26 K → (∀ (y1 : Int32) (y2 : Int32) (s : ST), X26 y1 y2 s → Ex sc (d + 2) 6 26 [.ref 1, .int y1, .int y2] [] (hpS s) (kV K)) → Ex sc (d + 2) 6 2 [.ref 1, .int x1, .int x2] [] (hpS s) (kV K) := by
  have hq : prog[6]? = some pm6 := rfl
  intro n
  induction n with
  | zero =>
    intro x1 x2 s k
    exact k.elim
  | succ n ih =>
    intro x1 x2 s k hX26
    rw [w_6_2] at k
    refine Ex.seg hq 1 (j := 3) (L' := [.ref 1, .int x1, .int x2]) (S' := [.int x2]) (h' := hpS s) rfl ?_
    refine Ex.i1 hq rfl (fun c => ?_) (fun c => ?_)
    · have k := k.1 c
      exact hX26 x1 x2 s k
    · have k := k.2 c
      refine Ex.seg hq 6 (j := 10) (L' := [.ref 1, .int x1, .int x2]) (S' := [.int (x2 - (1 : Int32)), .ref 4, .ref 1]) (h' := hpS s) rfl ?_
      obtain ⟨hin, k⟩ := k
      refine Ex.ial hq rfl rfl hin ?_
      refine Ex.seg hq 1 (j := 12) (L' := [.ref 1, .int x1, .int x2]) (S' := [.int x1, .int ((s.2.1 4) ((x2 - (1 : Int32))).toNatClampNeg), .ref 1]) (h' := hpS s) rfl ?_
      refine Ex.cl hq rfl rfl ?_
      refine Rn.mono (q_7 (d := d + 0) ((s.2.1 4) ((x2 - (1 : Int32))).toNatClampNeg) x1 s k) ?_
      rintro _ _ ⟨r2, s1, rfl, hzr2, rfl, k⟩
      show Ex sc (d + 2) 6 13 [.ref 1, .int x1, .int x2] [.int r2] (hpS s1) _
      refine Ex.i1 hq rfl (fun c => ?_) (fun c => ?_)
      · have k := k.1 c
        exact hX26 x1 x2 s1 k
      · have k := k.2 c
        refine Ex.seg hq 8 (j := 22) (L' := [.ref 1, .int x1, .int x2]) (S' := [.int (x2 - (1 : Int32)), .ref 4, .int x2, .ref 4]) (h' := hpS s1) rfl ?_
        obtain ⟨hin, k⟩ := k
        refine Ex.ial hq rfl rfl hin ?_
        obtain ⟨hin, k⟩ := k
        refine Ex.ias hq rfl rfl hin (h' := hpS (sA s1 4 (upd (s1.2.1 4) (x2).toNatClampNeg ((s1.2.1 4) ((x2 - (1 : Int32))).toNatClampNeg)))) (hset_4 _ _) ?_
        refine Ex.seg hq 2 (j := 2) (L' := [.ref 1, .int x1, .int (x2 + (-1 : Int32))]) (S' := []) (h' := hpS (sA s1 4 (upd (s1.2.1 4) (x2).toNatClampNeg ((s1.2.1 4) ((x2 - (1 : Int32))).toNatClampNeg)))) rfl ?_
        exact ih x1 (x2 + (-1 : Int32)) (sA s1 4 (upd (s1.2.1 4) (x2).toNatClampNeg ((s1.2.1 4) ((x2 - (1 : Int32))).toNatClampNeg))) k hX26
/-- RowAuditor$Books.putInOrder(I)V -/
def w_6 (p0 : Int32) (s : ST) (K : ST → Prop) : Prop := (∃ m, w_6_2 m p0 p0 s (fun y1 y2 s3 => (pin y2 150 = true ∧ K (sA s3 4 (upd (s3.2.1 4) (y2).toNatClampNeg y1)))) K)
theorem q_6 {d : Nat} {K : ST → Prop} (p0 : Int32) (s : ST) (k : w_6 p0 s K) : Rn sc (d + 2) 6 [.ref 1, .int p0] (hpS s) (kV K) := by
  have hq : prog[6]? = some pm6 := rfl
  refine Rn.of (L := [.ref 1, .int p0, pu]) hq rfl rfl ?_
  unfold w_6 at k
  refine Ex.seg hq 2 (j := 2) (L' := [.ref 1, .int p0, .int p0]) (S' := []) (h' := hpS s) rfl ?_
  obtain ⟨m, k⟩ := k
  refine q_6_2 (d := d) m p0 p0 s k ?_
  · intro y1 y2 s3 k
    refine Ex.seg hq 4 (j := 30) (L' := [.ref 1, .int y1, .int y2]) (S' := [.int y1, .int y2, .ref 4]) (h' := hpS s3) rfl ?_
    obtain ⟨hin, k⟩ := k
    refine Ex.ias hq rfl rfl hin (h' := hpS (sA s3 4 (upd (s3.2.1 4) (y2).toNatClampNeg y1))) (hset_4 _ _) ?_
    exact Ex.rt hq rfl rfl ⟨(sA s3 4 (upd (s3.2.1 4) (y2).toNatClampNeg y1)), rfl, rfl, k⟩
def w_31_2 : Nat → Int32 → Int32 → Int32 → Int32 → ST → (ST → Prop) → (Int32 → ST → Prop) → (Int32 → ST → Prop) → Prop
  | 0, _, _, _, _, _, _, _, _ => False
  | n + 1, x1, x2, x3, x4, s, X29, X25, K => (((s.1 102) ≤ x4 → X29  s) ∧ (¬ ((s.1 102) ≤ x4) → w_120 x4 s (fun r2 s1 => ((r2 ≤ x2 → w_31_2 n x1 x2 x3 (x4 + (1 : Int32)) s1 X29 X25 K) ∧ (¬ (r2 ≤ x2) → (((s1.1 5009) ≤ r2 → w_31_2 n x1 x2 x3 (x4 + (1 : Int32)) s1 X29 X25 K) ∧ (¬ ((s1.1 5009) ≤ r2) → w_36 x1 r2 x3 s1 (fun r4 s3 => ((r4 = 0 → w_31_2 n x1 x2 x3 (x4 + (1 : Int32)) s3 X29 X25 K) ∧ (¬ (r4 = 0) → X25 x4 s3))))))))))
theorem q_31_2 {d : Nat} {X29 : ST → Prop} {X25 : Int32 → ST → Prop} {K : Int32 → ST → Prop} : ∀ (n : Nat) (x1 : Int32) (x2 : Int32) (x3 : Int32) (x4 : Int32) (s : ST), w_31_2 n x1 x2 x3 x4 s X29 X25 K → (∀ (s : ST), X29  s → Ex sc (d + 3) 31 29 [pu, pu, pu, pu, pu, pu] [] (hpS s) (kI K)) → (∀ (y4 : Int32) (s : ST), X25 y4 s → Ex sc (d + 3) 31 25 [pu, pu, pu, pu, .int y4, pu] [] (hpS s) (kI K)) → Ex sc (d + 3) 31 2 [.ref 50, .int x1, .int x2, .int x3, .int x4, pu] [] (hpS s) (kI K) := by
  have hq : prog[31]? = some pm31 := rfl
  intro n
  induction n with
  | zero =>
    intro x1 x2 x3 x4 s k
    exact k.elim
  | succ n ih =>
    intro x1 x2 x3 x4 s k hX29 hX25
    rw [w_31_2] at k
    refine Ex.seg hq 4 (j := 6) (L' := [.ref 50, .int x1, .int x2, .int x3, .int x4, pu]) (S' := [.int (s.1 102), .int x4]) (h' := hpS s) rfl ?_
    refine Ex.i2 hq rfl (fun c => ?_) (fun c => ?_)
    · have k := k.1 c
      refine Ex.fg (L := [pu, pu, pu, pu, pu, pu]) ⟨Or.inr ⟨rfl, rfl⟩, ⟨Or.inr ⟨rfl, rfl⟩, ⟨Or.inr ⟨rfl, rfl⟩, ⟨Or.inr ⟨rfl, rfl⟩, ⟨Or.inr ⟨rfl, rfl⟩, ⟨Or.inl rfl, trivial⟩⟩⟩⟩⟩⟩ ?_
      exact hX29  s k
    · have k := k.2 c
      refine Ex.seg hq 3 (j := 10) (L' := [.ref 50, .int x1, .int x2, .int x3, .int x4, pu]) (S' := [.int x4, .ref 8]) (h' := hpS s) rfl ?_
      refine Ex.cl hq rfl rfl ?_
      refine Rn.mono (q_120 (d := d + 2) x4 s k) ?_
      rintro _ _ ⟨r2, s1, rfl, rfl, k⟩
      show Ex sc (d + 3) 31 11 [.ref 50, .int x1, .int x2, .int x3, .int x4, pu] [.int r2] (hpS s1) _
      refine Ex.seg hq 3 (j := 14) (L' := [.ref 50, .int x1, .int x2, .int x3, .int x4, .int r2]) (S' := [.int x2, .int r2]) (h' := hpS s1) rfl ?_
      refine Ex.i2 hq rfl (fun c => ?_) (fun c => ?_)
      · have k := k.1 c
        refine Ex.seg hq 2 (j := 2) (L' := [.ref 50, .int x1, .int x2, .int x3, .int (x4 + (1 : Int32)), .int r2]) (S' := []) (h' := hpS s1) rfl ?_
        refine Ex.fg (L := [.ref 50, .int x1, .int x2, .int x3, .int (x4 + (1 : Int32)), pu]) ⟨Or.inl rfl, ⟨Or.inl rfl, ⟨Or.inl rfl, ⟨Or.inl rfl, ⟨Or.inl rfl, ⟨Or.inr ⟨rfl, rfl⟩, trivial⟩⟩⟩⟩⟩⟩ ?_
        exact ih x1 x2 x3 (x4 + (1 : Int32)) s1 k hX29 hX25
      · have k := k.2 c
        refine Ex.seg hq 3 (j := 18) (L' := [.ref 50, .int x1, .int x2, .int x3, .int x4, .int r2]) (S' := [.int (s1.1 5009), .int r2]) (h' := hpS s1) rfl ?_
        refine Ex.i2 hq rfl (fun c => ?_) (fun c => ?_)
        · have k := k.1 c
          refine Ex.seg hq 2 (j := 2) (L' := [.ref 50, .int x1, .int x2, .int x3, .int (x4 + (1 : Int32)), .int r2]) (S' := []) (h' := hpS s1) rfl ?_
          refine Ex.fg (L := [.ref 50, .int x1, .int x2, .int x3, .int (x4 + (1 : Int32)), pu]) ⟨Or.inl rfl, ⟨Or.inl rfl, ⟨Or.inl rfl, ⟨Or.inl rfl, ⟨Or.inl rfl, ⟨Or.inr ⟨rfl, rfl⟩, trivial⟩⟩⟩⟩⟩⟩ ?_
          exact ih x1 x2 x3 (x4 + (1 : Int32)) s1 k hX29 hX25
        · have k := k.2 c
          refine Ex.seg hq 4 (j := 23) (L' := [.ref 50, .int x1, .int x2, .int x3, .int x4, .int r2]) (S' := [.int x3, .int r2, .int x1, .ref 50]) (h' := hpS s1) rfl ?_
          refine Ex.cl hq rfl rfl ?_
          refine Rn.mono (q_36 (d := d + 0) x1 r2 x3 s1 k) ?_
          rintro _ _ ⟨r4, s3, rfl, hzr4, rfl, k⟩
          show Ex sc (d + 3) 31 24 [.ref 50, .int x1, .int x2, .int x3, .int x4, .int r2] [.int r4] (hpS s3) _
          refine Ex.i1 hq rfl (fun c => ?_) (fun c => ?_)
          · have k := k.1 c
            refine Ex.seg hq 2 (j := 2) (L' := [.ref 50, .int x1, .int x2, .int x3, .int (x4 + (1 : Int32)), .int r2]) (S' := []) (h' := hpS s3) rfl ?_
            refine Ex.fg (L := [.ref 50, .int x1, .int x2, .int x3, .int (x4 + (1 : Int32)), pu]) ⟨Or.inl rfl, ⟨Or.inl rfl, ⟨Or.inl rfl, ⟨Or.inl rfl, ⟨Or.inl rfl, ⟨Or.inr ⟨rfl, rfl⟩, trivial⟩⟩⟩⟩⟩⟩ ?_
            exact ih x1 x2 x3 (x4 + (1 : Int32)) s3 k hX29 hX25
          · have k := k.2 c
            refine Ex.fg (L := [pu, pu, pu, pu, .int x4, pu]) ⟨Or.inr ⟨rfl, rfl⟩, ⟨Or.inr ⟨rfl, rfl⟩, ⟨Or.inr ⟨rfl, rfl⟩, ⟨Or.inr ⟨rfl, rfl⟩, ⟨Or.inl rfl, ⟨Or.inr ⟨rfl, rfl⟩, trivial⟩⟩⟩⟩⟩⟩ ?_
            exact hX25 x4 s3 k
/-- RowAuditor$Fitter.leastNext(III)I -/
def w_31 (p0 : Int32) (p1 : Int32) (p2 : Int32) (s : ST) (K : Int32 → ST → Prop) : Prop := (∃ m, w_31_2 m p0 p1 p2 (0 : Int32) s (fun s5 => K (-1 : Int32) s5) (fun y4 s6 => K y4 s6) K)
theorem q_31 {d : Nat} {K : Int32 → ST → Prop} (p0 : Int32) (p1 : Int32) (p2 : Int32) (s : ST) (k : w_31 p0 p1 p2 s K) : Rn sc (d + 3) 31 [.ref 50, .int p0, .int p1, .int p2] (hpS s) (kI K) := by
  have hq : prog[31]? = some pm31 := rfl
  refine Rn.of (L := [.ref 50, .int p0, .int p1, .int p2, pu, pu]) hq rfl rfl ?_
  unfold w_31 at k
  refine Ex.seg hq 2 (j := 2) (L' := [.ref 50, .int p0, .int p1, .int p2, .int (0 : Int32), pu]) (S' := []) (h' := hpS s) rfl ?_
  obtain ⟨m, k⟩ := k
  refine q_31_2 (d := d) m p0 p1 p2 (0 : Int32) s k ?_ ?_
  · intro s5 k
    refine Ex.seg hq 1 (j := 30) (L' := [pu, pu, pu, pu, pu, pu]) (S' := [.int (-1 : Int32)]) (h' := hpS s5) rfl ?_
    exact Ex.rt hq rfl rfl ⟨(-1 : Int32), s5, rfl, rfl, k⟩
  · intro y4 s6 k
    refine Ex.seg hq 1 (j := 26) (L' := [pu, pu, pu, pu, .int y4, pu]) (S' := [.int y4]) (h' := hpS s6) rfl ?_
    exact Ex.rt hq rfl rfl ⟨y4, s6, rfl, rfl, k⟩
def w_34_14 : Nat → Int32 → Int32 → Int32 → ST → (Int32 → Int32 → ST → Prop) → (ST → Prop) → Prop
  | 0, _, _, _, _, _, _ => False
  | n + 1, x1, x2, x3, s, X49, K => (((s.1 5007) ≤ x3 → X49 x1 x2 s) ∧ (¬ ((s.1 5007) ≤ x3) → (((s.1 5009) ≤ x2 → (((s.1 5009) ≤ x2 → w_38 x3 x2 (-1 : Int32) s (fun s3 => w_34_14 n x1 x2 (x3 + (1 : Int32)) s3 X49 K)) ∧ (¬ ((s.1 5009) ≤ x2) → w_35 x3 x2 s (fun r6 s5 => w_38 x3 x2 (if (-1 : Int32) < r6 then r6 else (-1 : Int32)) s5 (fun s7 => w_34_14 n x1 x2 (x3 + (1 : Int32)) s7 X49 K))))) ∧ (¬ ((s.1 5009) ≤ x2) → w_37 x3 (x2 + (1 : Int32)) s (fun r10 s9 => (((s9.1 5009) ≤ x2 → w_38 x3 x2 (-1 : Int32) s9 (fun s11 => w_34_14 n x1 x2 (x3 + (1 : Int32)) s11 X49 K)) ∧ (¬ ((s9.1 5009) ≤ x2) → w_35 x3 x2 s9 (fun r14 s13 => w_38 x3 x2 (if r10 < r14 then r14 else r10) s13 (fun s15 => w_34_14 n x1 x2 (x3 + (1 : Int32)) s15 X49 K)))))))))
theorem q_34_14 {d : Nat} {X49 : Int32 → Int32 → ST → Prop} {K : ST → Prop} : ∀ (n : Nat) (x1 : Int32) (x2 : Int32) (x3 : Int32) (s : ST), w_34_14 n x1 x2 x3 s X49 K → (∀ (y1 : Int32) (y2 : Int32) (s : ST), X49 y1 y2 s → Ex sc (d + 2) 34 49 [.ref 50, .int y1, .int y2, pu, pu] [] (hpS s) (kV K)) → Ex sc (d + 2) 34 14 [.ref 50, .int x1, .int x2, .int x3, pu] [] (hpS s) (kV K) := by
  have hq : prog[34]? = some pm34 := rfl
  intro n
  induction n with
  | zero =>
    intro x1 x2 x3 s k
    exact k.elim
  | succ n ih =>
    intro x1 x2 x3 s k hX49
    rw [w_34_14] at k
    refine Ex.seg hq 3 (j := 17) (L' := [.ref 50, .int x1, .int x2, .int x3, pu]) (S' := [.int (s.1 5007), .int x3]) (h' := hpS s) rfl ?_
    refine Ex.i2 hq rfl (fun c => ?_) (fun c => ?_)
    · have k := k.1 c
      refine Ex.fg (L := [.ref 50, .int x1, .int x2, pu, pu]) ⟨Or.inl rfl, ⟨Or.inl rfl, ⟨Or.inl rfl, ⟨Or.inr ⟨rfl, rfl⟩, ⟨Or.inl rfl, trivial⟩⟩⟩⟩⟩ ?_
      exact hX49 x1 x2 s k
    · have k := k.2 c
      refine Ex.seg hq 3 (j := 21) (L' := [.ref 50, .int x1, .int x2, .int x3, pu]) (S' := [.int (s.1 5009), .int x2]) (h' := hpS s) rfl ?_
      refine Ex.i2 hq rfl (fun c => ?_) (fun c => ?_)
      · have k := k.1 c
        refine Ex.seg hq 8 (j := 37) (L' := [.ref 50, .int x1, .int x2, .int x3, .int (-1 : Int32)]) (S' := [.int (s.1 5009), .int x2, .int x2, .int x3, .ref 50]) (h' := hpS s) rfl ?_
        refine Ex.i2 hq rfl (fun c => ?_) (fun c => ?_)
        · have k := k.1 c
          refine Ex.seg hq 1 (j := 46) (L' := [.ref 50, .int x1, .int x2, .int x3, .int (-1 : Int32)]) (S' := [.int (-1 : Int32), .int x2, .int x3, .ref 50]) (h' := hpS s) rfl ?_
          refine Ex.cl hq rfl rfl ?_
          refine Rn.mono (q_38 (d := d + 1) x3 x2 (-1 : Int32) s k) ?_
          rintro _ _ ⟨s3, rfl, rfl, k⟩
          show Ex sc (d + 2) 34 47 [.ref 50, .int x1, .int x2, .int x3, .int (-1 : Int32)] [] (hpS s3) _
          refine Ex.seg hq 2 (j := 14) (L' := [.ref 50, .int x1, .int x2, .int (x3 + (1 : Int32)), .int (-1 : Int32)]) (S' := []) (h' := hpS s3) rfl ?_
          refine Ex.fg (L := [.ref 50, .int x1, .int x2, .int (x3 + (1 : Int32)), pu]) ⟨Or.inl rfl, ⟨Or.inl rfl, ⟨Or.inl rfl, ⟨Or.inl rfl, ⟨Or.inr ⟨rfl, rfl⟩, trivial⟩⟩⟩⟩⟩ ?_
          exact ih x1 x2 (x3 + (1 : Int32)) s3 k hX49
        · have k := k.2 c
          refine Ex.seg hq 4 (j := 42) (L' := [.ref 50, .int x1, .int x2, .int x3, .int (-1 : Int32)]) (S' := [.int x2, .int x3, .ref 50, .int (-1 : Int32), .int x2, .int x3, .ref 50]) (h' := hpS s) rfl ?_
          refine Ex.cl hq rfl rfl ?_
          refine Rn.mono (q_35 (d := d + 0) x3 x2 s k) ?_
          rintro _ _ ⟨r6, s5, rfl, rfl, k⟩
          show Ex sc (d + 2) 34 43 [.ref 50, .int x1, .int x2, .int x3, .int (-1 : Int32)] [.int r6, .int (-1 : Int32), .int x2, .int x3, .ref 50] (hpS s5) _
          refine Ex.seg hq 2 (j := 46) (L' := [.ref 50, .int x1, .int x2, .int x3, .int (-1 : Int32)]) (S' := [.int (if (-1 : Int32) < r6 then r6 else (-1 : Int32)), .int x2, .int x3, .ref 50]) (h' := hpS s5) rfl ?_
          refine Ex.cl hq rfl rfl ?_
          refine Rn.mono (q_38 (d := d + 1) x3 x2 (if (-1 : Int32) < r6 then r6 else (-1 : Int32)) s5 k) ?_
          rintro _ _ ⟨s7, rfl, rfl, k⟩
          show Ex sc (d + 2) 34 47 [.ref 50, .int x1, .int x2, .int x3, .int (-1 : Int32)] [] (hpS s7) _
          refine Ex.seg hq 2 (j := 14) (L' := [.ref 50, .int x1, .int x2, .int (x3 + (1 : Int32)), .int (-1 : Int32)]) (S' := []) (h' := hpS s7) rfl ?_
          refine Ex.fg (L := [.ref 50, .int x1, .int x2, .int (x3 + (1 : Int32)), pu]) ⟨Or.inl rfl, ⟨Or.inl rfl, ⟨Or.inl rfl, ⟨Or.inl rfl, ⟨Or.inr ⟨rfl, rfl⟩, trivial⟩⟩⟩⟩⟩ ?_
          exact ih x1 x2 (x3 + (1 : Int32)) s7 k hX49
      · have k := k.2 c
        refine Ex.seg hq 5 (j := 27) (L' := [.ref 50, .int x1, .int x2, .int x3, pu]) (S' := [.int (x2 + (1 : Int32)), .int x3, .ref 50]) (h' := hpS s) rfl ?_
        refine Ex.cl hq rfl rfl ?_
        refine Rn.mono (q_37 (d := d + 1) x3 (x2 + (1 : Int32)) s k) ?_
        rintro _ _ ⟨r10, s9, rfl, rfl, k⟩
        show Ex sc (d + 2) 34 28 [.ref 50, .int x1, .int x2, .int x3, pu] [.int r10] (hpS s9) _
        refine Ex.seg hq 8 (j := 37) (L' := [.ref 50, .int x1, .int x2, .int x3, .int r10]) (S' := [.int (s9.1 5009), .int x2, .int x2, .int x3, .ref 50]) (h' := hpS s9) rfl ?_
        refine Ex.i2 hq rfl (fun c => ?_) (fun c => ?_)
        · have k := k.1 c
          refine Ex.seg hq 1 (j := 46) (L' := [.ref 50, .int x1, .int x2, .int x3, .int r10]) (S' := [.int (-1 : Int32), .int x2, .int x3, .ref 50]) (h' := hpS s9) rfl ?_
          refine Ex.cl hq rfl rfl ?_
          refine Rn.mono (q_38 (d := d + 1) x3 x2 (-1 : Int32) s9 k) ?_
          rintro _ _ ⟨s11, rfl, rfl, k⟩
          show Ex sc (d + 2) 34 47 [.ref 50, .int x1, .int x2, .int x3, .int r10] [] (hpS s11) _
          refine Ex.seg hq 2 (j := 14) (L' := [.ref 50, .int x1, .int x2, .int (x3 + (1 : Int32)), .int r10]) (S' := []) (h' := hpS s11) rfl ?_
          refine Ex.fg (L := [.ref 50, .int x1, .int x2, .int (x3 + (1 : Int32)), pu]) ⟨Or.inl rfl, ⟨Or.inl rfl, ⟨Or.inl rfl, ⟨Or.inl rfl, ⟨Or.inr ⟨rfl, rfl⟩, trivial⟩⟩⟩⟩⟩ ?_
          exact ih x1 x2 (x3 + (1 : Int32)) s11 k hX49
        · have k := k.2 c
          refine Ex.seg hq 4 (j := 42) (L' := [.ref 50, .int x1, .int x2, .int x3, .int r10]) (S' := [.int x2, .int x3, .ref 50, .int r10, .int x2, .int x3, .ref 50]) (h' := hpS s9) rfl ?_
          refine Ex.cl hq rfl rfl ?_
          refine Rn.mono (q_35 (d := d + 0) x3 x2 s9 k) ?_
          rintro _ _ ⟨r14, s13, rfl, rfl, k⟩
          show Ex sc (d + 2) 34 43 [.ref 50, .int x1, .int x2, .int x3, .int r10] [.int r14, .int r10, .int x2, .int x3, .ref 50] (hpS s13) _
          refine Ex.seg hq 2 (j := 46) (L' := [.ref 50, .int x1, .int x2, .int x3, .int r10]) (S' := [.int (if r10 < r14 then r14 else r10), .int x2, .int x3, .ref 50]) (h' := hpS s13) rfl ?_
          refine Ex.cl hq rfl rfl ?_
          refine Rn.mono (q_38 (d := d + 1) x3 x2 (if r10 < r14 then r14 else r10) s13 k) ?_
          rintro _ _ ⟨s15, rfl, rfl, k⟩
          show Ex sc (d + 2) 34 47 [.ref 50, .int x1, .int x2, .int x3, .int r10] [] (hpS s15) _
          refine Ex.seg hq 2 (j := 14) (L' := [.ref 50, .int x1, .int x2, .int (x3 + (1 : Int32)), .int r10]) (S' := []) (h' := hpS s15) rfl ?_
          refine Ex.fg (L := [.ref 50, .int x1, .int x2, .int (x3 + (1 : Int32)), pu]) ⟨Or.inl rfl, ⟨Or.inl rfl, ⟨Or.inl rfl, ⟨Or.inl rfl, ⟨Or.inr ⟨rfl, rfl⟩, trivial⟩⟩⟩⟩⟩ ?_
          exact ih x1 x2 (x3 + (1 : Int32)) s15 k hX49
def w_34_3 : Nat → Int32 → Int32 → ST → (ST → Prop) → (ST → Prop) → Prop
  | 0, _, _, _, _, _ => False
  | n + 1, x1, x2, s, X51, K => ((x2 < x1 → X51  s) ∧ (¬ (x2 < x1) → w_38 (s.1 5007) x2 (0 : Int32) s (fun s1 => (∃ m, w_34_14 m x1 x2 (1 : Int32) s1 (fun y1 y2 s3 => w_34_3 n y1 (y2 + (-1 : Int32)) s3 X51 K) K))))
theorem q_34_3 {d : Nat} {X51 : ST → Prop} {K : ST → Prop} : ∀ (n : Nat) (x1 : Int32) (x2 : Int32) (s : ST), w_34_3 n x1 x2 s X51 K → (∀ (s : ST), X51  s → Ex sc (d + 2) 34 51 [pu, pu, pu, pu, pu] [] (hpS s) (kV K)) → Ex sc (d + 2) 34 3 [.ref 50, .int x1, .int x2, pu, pu] [] (hpS s) (kV K) := by
  have hq : prog[34]? = some pm34 := rfl
  intro n
  induction n with
  | zero =>
    intro x1 x2 s k
    exact k.elim
  | succ n ih =>
    intro x1 x2 s k hX51
    rw [w_34_3] at k
    refine Ex.seg hq 2 (j := 5) (L' := [.ref 50, .int x1, .int x2, pu, pu]) (S' := [.int x1, .int x2]) (h' := hpS s) rfl ?_
    refine Ex.i2 hq rfl (fun c => ?_) (fun c => ?_)
    · have k := k.1 c
      refine Ex.fg (L := [pu, pu, pu, pu, pu]) ⟨Or.inr ⟨rfl, rfl⟩, ⟨Or.inr ⟨rfl, rfl⟩, ⟨Or.inr ⟨rfl, rfl⟩, ⟨Or.inl rfl, ⟨Or.inl rfl, trivial⟩⟩⟩⟩⟩ ?_
      exact hX51  s k
    · have k := k.2 c
      refine Ex.seg hq 5 (j := 11) (L' := [.ref 50, .int x1, .int x2, pu, pu]) (S' := [.int (0 : Int32), .int x2, .int (s.1 5007), .ref 50]) (h' := hpS s) rfl ?_
      refine Ex.cl hq rfl rfl ?_
      refine Rn.mono (q_38 (d := d + 1) (s.1 5007) x2 (0 : Int32) s k) ?_
      rintro _ _ ⟨s1, rfl, rfl, k⟩
      show Ex sc (d + 2) 34 12 [.ref 50, .int x1, .int x2, pu, pu] [] (hpS s1) _
      refine Ex.seg hq 2 (j := 14) (L' := [.ref 50, .int x1, .int x2, .int (1 : Int32), pu]) (S' := []) (h' := hpS s1) rfl ?_
      obtain ⟨m, k⟩ := k
      refine q_34_14 (d := d) m x1 x2 (1 : Int32) s1 k ?_
      · intro y1 y2 s3 k
        refine Ex.seg hq 2 (j := 3) (L' := [.ref 50, .int y1, .int (y2 + (-1 : Int32)), pu, pu]) (S' := []) (h' := hpS s3) rfl ?_
        exact ih y1 (y2 + (-1 : Int32)) s3 k hX51
/-- RowAuditor$Fitter.fillMost(I)V -/
def w_34 (p0 : Int32) (s : ST) (K : ST → Prop) : Prop := (∃ m, w_34_3 m p0 (s.1 5009) s (fun s4 => K s4) K)
theorem q_34 {d : Nat} {K : ST → Prop} (p0 : Int32) (s : ST) (k : w_34 p0 s K) : Rn sc (d + 2) 34 [.ref 50, .int p0] (hpS s) (kV K) := by
  have hq : prog[34]? = some pm34 := rfl
  refine Rn.of (L := [.ref 50, .int p0, pu, pu, pu]) hq rfl rfl ?_
  unfold w_34 at k
  refine Ex.seg hq 3 (j := 3) (L' := [.ref 50, .int p0, .int (s.1 5009), pu, pu]) (S' := []) (h' := hpS s) rfl ?_
  obtain ⟨m, k⟩ := k
  refine q_34_3 (d := d) m p0 (s.1 5009) s k ?_
  · intro s4 k
    exact Ex.rt hq rfl rfl ⟨s4, rfl, rfl, k⟩
def w_41_8 : Nat → Int32 → Int32 → ST → (Int32 → ST → Prop) → (ST → Prop) → Prop
  | 0, _, _, _, _, _ => False
  | n + 1, x1, x2, s, X16, K => (((2 : Int32) < x2 → X16 x1 s) ∧ (¬ ((2 : Int32) < x2) → w_44 s (fun r2 s1 => w_41_8 n x1 (x2 + (1 : Int32)) s1 X16 K)))
theorem q_41_8 {d : Nat} {X16 : Int32 → ST → Prop} {K : ST → Prop} : ∀ (n : Nat) (x1 : Int32) (x2 : Int32) (s : ST), w_41_8 n x1 x2 s X16 K → (∀ (y1 : Int32) (s : ST), X16 y1 s → Ex sc (d + 2) 41 16 [.ref 37, .int y1, pu] [] (hpS s) (kV K)) → Ex sc (d + 2) 41 8 [.ref 37, .int x1, .int x2] [] (hpS s) (kV K) := by
  have hq : prog[41]? = some pm41 := rfl
  intro n
  induction n with
  | zero =>
    intro x1 x2 s k
    exact k.elim
  | succ n ih =>
    intro x1 x2 s k hX16
    rw [w_41_8] at k
    refine Ex.seg hq 2 (j := 10) (L' := [.ref 37, .int x1, .int x2]) (S' := [.int (2 : Int32), .int x2]) (h' := hpS s) rfl ?_
    refine Ex.i2 hq rfl (fun c => ?_) (fun c => ?_)
    · have k := k.1 c
      refine Ex.fg (L := [.ref 37, .int x1, pu]) ⟨Or.inl rfl, ⟨Or.inl rfl, ⟨Or.inr ⟨rfl, rfl⟩, trivial⟩⟩⟩ ?_
      exact hX16 x1 s k
    · have k := k.2 c
      refine Ex.seg hq 1 (j := 12) (L' := [.ref 37, .int x1, .int x2]) (S' := [.ref 37]) (h' := hpS s) rfl ?_
      refine Ex.cl hq rfl rfl ?_
      refine Rn.mono (q_44 (d := d + 1) s k) ?_
      rintro _ _ ⟨r2, s1, rfl, rfl, k⟩
      show Ex sc (d + 2) 41 13 [.ref 37, .int x1, .int x2] [.int r2] (hpS s1) _
      refine Ex.seg hq 3 (j := 8) (L' := [.ref 37, .int x1, .int (x2 + (1 : Int32))]) (S' := []) (h' := hpS s1) rfl ?_
      exact ih x1 (x2 + (1 : Int32)) s1 k hX16
def w_41_18 : Nat → Int32 → Int32 → ST → (Int32 → ST → Prop) → (ST → Prop) → Prop
  | 0, _, _, _, _, _ => False
  | n + 1, x1, x2, s, X42, K => (((s.1 101) ≤ x2 → X42 x1 s) ∧ (¬ ((s.1 101) ≤ x2) → (((10 : Int32) ≤ x2 → X42 x1 s) ∧ (¬ ((10 : Int32) ≤ x2) → w_44 s (fun r5 s4 => (pin x2 10 = true ∧ w_4 x2 (sA s4 38 (upd (s4.2.1 38) (x2).toNatClampNeg r5)) (fun r7 s6 => (pin x2 10 = true ∧ w_41_18 n x1 (x2 + (1 : Int32)) (sA s6 39 (upd (s6.2.1 39) (x2).toNatClampNeg r7)) X42 K))))))))
theorem q_41_18 {d : Nat} {X42 : Int32 → ST → Prop} {K : ST → Prop} : ∀ (n : Nat) (x1 : Int32) (x2 : Int32) (s : ST), w_41_18 n x1 x2 s X42 K → (∀ (y1 : Int32) (s : ST), X42 y1 s → Ex sc (d + 2) 41 42 [.ref 37, .int y1, pu] [] (hpS s) (kV K)) → Ex sc (d + 2) 41 18 [.ref 37, .int x1, .int x2] [] (hpS s) (kV K) := by
  have hq : prog[41]? = some pm41 := rfl
  intro n
  induction n with
  | zero =>
    intro x1 x2 s k
    exact k.elim
  | succ n ih =>
    intro x1 x2 s k hX42
    rw [w_41_18] at k
    refine Ex.seg hq 4 (j := 22) (L' := [.ref 37, .int x1, .int x2]) (S' := [.int (s.1 101), .int x2]) (h' := hpS s) rfl ?_
    refine Ex.i2 hq rfl (fun c => ?_) (fun c => ?_)
    · have k := k.1 c
      refine Ex.fg (L := [.ref 37, .int x1, pu]) ⟨Or.inl rfl, ⟨Or.inl rfl, ⟨Or.inr ⟨rfl, rfl⟩, trivial⟩⟩⟩ ?_
      exact hX42 x1 s k
    · have k := k.2 c
      refine Ex.seg hq 2 (j := 25) (L' := [.ref 37, .int x1, .int x2]) (S' := [.int (10 : Int32), .int x2]) (h' := hpS s) rfl ?_
      refine Ex.i2 hq rfl (fun c => ?_) (fun c => ?_)
      · have k := k.1 c
        refine Ex.fg (L := [.ref 37, .int x1, pu]) ⟨Or.inl rfl, ⟨Or.inl rfl, ⟨Or.inr ⟨rfl, rfl⟩, trivial⟩⟩⟩ ?_
        exact hX42 x1 s k
      · have k := k.2 c
        refine Ex.seg hq 4 (j := 30) (L' := [.ref 37, .int x1, .int x2]) (S' := [.ref 37, .int x2, .ref 38]) (h' := hpS s) rfl ?_
        refine Ex.cl hq rfl rfl ?_
        refine Rn.mono (q_44 (d := d + 1) s k) ?_
        rintro _ _ ⟨r5, s4, rfl, rfl, k⟩
        show Ex sc (d + 2) 41 31 [.ref 37, .int x1, .int x2] [.int r5, .int x2, .ref 38] (hpS s4) _
        obtain ⟨hin, k⟩ := k
        refine Ex.ias hq rfl rfl hin (h' := hpS (sA s4 38 (upd (s4.2.1 38) (x2).toNatClampNeg r5))) (hset_38 _ _) ?_
        refine Ex.seg hq 6 (j := 38) (L' := [.ref 37, .int x1, .int x2]) (S' := [.int x2, .ref 1, .int x2, .ref 39]) (h' := hpS (sA s4 38 (upd (s4.2.1 38) (x2).toNatClampNeg r5))) rfl ?_
        refine Ex.cl hq rfl rfl ?_
        refine Rn.mono (q_4 (d := d + 1) x2 (sA s4 38 (upd (s4.2.1 38) (x2).toNatClampNeg r5)) k) ?_
        rintro _ _ ⟨r7, s6, rfl, rfl, k⟩
        show Ex sc (d + 2) 41 39 [.ref 37, .int x1, .int x2] [.int r7, .int x2, .ref 39] (hpS s6) _
        obtain ⟨hin, k⟩ := k
        refine Ex.ias hq rfl rfl hin (h' := hpS (sA s6 39 (upd (s6.2.1 39) (x2).toNatClampNeg r7))) (hset_39 _ _) ?_
        refine Ex.seg hq 2 (j := 18) (L' := [.ref 37, .int x1, .int (x2 + (1 : Int32))]) (S' := []) (h' := hpS (sA s6 39 (upd (s6.2.1 39) (x2).toNatClampNeg r7))) rfl ?_
        exact ih x1 (x2 + (1 : Int32)) (sA s6 39 (upd (s6.2.1 39) (x2).toNatClampNeg r7)) k hX42
/-- RowAuditor$Flow.lay(I)V -/
def w_41 (p0 : Int32) (s : ST) (K : ST → Prop) : Prop := (∃ m, w_41_8 m p0 (0 : Int32) (sI (sI s 3710 (0 : Int32)) 3711 (0 : Int32)) (fun y1 s3 => (∃ m, w_41_18 m y1 (0 : Int32) s3 (fun y1 s8 => w_181 y1 (0 : Int32) (9 : Int32) s8 (fun r10 s9 => ((r10 = 0 → K s9) ∧ (¬ (r10 = 0) → (pin y1 10 = true ∧ (pin y1 10 = true ∧ w_45 (0 : Int32) ((s9.2.1 38) (y1).toNatClampNeg) ((s9.2.1 39) (y1).toNatClampNeg) s9 (fun s11 => K s11))))))) K)) K)
theorem q_41 {d : Nat} {K : ST → Prop} (p0 : Int32) (s : ST) (k : w_41 p0 s K) : Rn sc (d + 2) 41 [.ref 37, .int p0] (hpS s) (kV K) := by
  have hq : prog[41]? = some pm41 := rfl
  refine Rn.of (L := [.ref 37, .int p0, pu]) hq rfl rfl ?_
  unfold w_41 at k
  refine Ex.seg hq 8 (j := 8) (L' := [.ref 37, .int p0, .int (0 : Int32)]) (S' := []) (h' := hpS (sI (sI s 3710 (0 : Int32)) 3711 (0 : Int32))) rfl ?_
  obtain ⟨m, k⟩ := k
  refine q_41_8 (d := d) m p0 (0 : Int32) (sI (sI s 3710 (0 : Int32)) 3711 (0 : Int32)) k ?_
  · intro y1 s3 k
    refine Ex.seg hq 2 (j := 18) (L' := [.ref 37, .int y1, .int (0 : Int32)]) (S' := []) (h' := hpS s3) rfl ?_
    obtain ⟨m, k⟩ := k
    refine q_41_18 (d := d) m y1 (0 : Int32) s3 k ?_
    · intro y1 s8 k
      refine Ex.seg hq 3 (j := 45) (L' := [.ref 37, .int y1, pu]) (S' := [.int (9 : Int32), .int (0 : Int32), .int y1]) (h' := hpS s8) rfl ?_
      refine Ex.cl hq rfl rfl ?_
      refine Rn.mono (q_181 (d := d + 1) y1 (0 : Int32) (9 : Int32) s8 k) ?_
      rintro _ _ ⟨r10, s9, rfl, hzr10, rfl, k⟩
      show Ex sc (d + 2) 41 46 [.ref 37, .int y1, pu] [.int r10] (hpS s9) _
      refine Ex.i1 hq rfl (fun c => ?_) (fun c => ?_)
      · have k := k.1 c
        exact Ex.rt hq rfl rfl ⟨s9, rfl, rfl, k⟩
      · have k := k.2 c
        refine Ex.seg hq 5 (j := 52) (L' := [.ref 37, .int y1, pu]) (S' := [.int y1, .ref 38, .int (0 : Int32), .ref 37]) (h' := hpS s9) rfl ?_
        obtain ⟨hin, k⟩ := k
        refine Ex.ial hq rfl rfl hin ?_
        refine Ex.seg hq 3 (j := 56) (L' := [.ref 37, .int y1, pu]) (S' := [.int y1, .ref 39, .int ((s9.2.1 38) (y1).toNatClampNeg), .int (0 : Int32), .ref 37]) (h' := hpS s9) rfl ?_
        obtain ⟨hin, k⟩ := k
        refine Ex.ial hq rfl rfl hin ?_
        refine Ex.cl hq rfl rfl ?_
        refine Rn.mono (q_45 (d := d + 0) (0 : Int32) ((s9.2.1 38) (y1).toNatClampNeg) ((s9.2.1 39) (y1).toNatClampNeg) s9 k) ?_
        rintro _ _ ⟨s11, rfl, rfl, k⟩
        show Ex sc (d + 2) 41 58 [.ref 37, .int y1, pu] [] (hpS s11) _
        exact Ex.rt hq rfl rfl ⟨s11, rfl, rfl, k⟩
/-- RowAuditor$Flow.give(III)V -/
def w_43 (p0 : Int32) (p1 : Int32) (p2 : Int32) (s : ST) (K : ST → Prop) : Prop := (pin p0 10 = true ∧ (pin p0 10 = true ∧ w_45 ((s.2.1 38) (p0).toNatClampNeg) p1 (if ((s.2.1 39) (p0).toNatClampNeg) < p2 then ((s.2.1 39) (p0).toNatClampNeg) else p2) s (fun s1 => (pin p0 10 = true ∧ (pin p0 10 = true ∧ w_44 (sA s1 39 (upd (s1.2.1 39) (p0).toNatClampNeg (((s1.2.1 39) (p0).toNatClampNeg) - (if ((s.2.1 39) (p0).toNatClampNeg) < p2 then ((s.2.1 39) (p0).toNatClampNeg) else p2)))) (fun r4 s3 => (pin p0 10 = true ∧ (pin p0 10 = true ∧ (pin p0 10 = true ∧ w_45 ((s.2.1 38) (p0).toNatClampNeg) ((upd (s3.2.1 38) (p0).toNatClampNeg r4) (p0).toNatClampNeg) ((s3.2.1 39) (p0).toNatClampNeg) (sA s3 38 (upd (s3.2.1 38) (p0).toNatClampNeg r4)) (fun s5 => K s5))))))))))
theorem q_43 {d : Nat} {K : ST → Prop} (p0 : Int32) (p1 : Int32) (p2 : Int32) (s : ST) (k : w_43 p0 p1 p2 s K) : Rn sc (d + 2) 43 [.ref 37, .int p0, .int p1, .int p2] (hpS s) (kV K) := by
  have hq : prog[43]? = some pm43 := rfl
  refine Rn.of (L := [.ref 37, .int p0, .int p1, .int p2, pu, pu]) hq rfl rfl ?_
  unfold w_43 at k
  refine Ex.seg hq 4 (j := 4) (L' := [.ref 37, .int p0, .int p1, .int p2, pu, pu]) (S' := [.int p0, .ref 39, .int p2]) (h' := hpS s) rfl ?_
  obtain ⟨hin, k⟩ := k
  refine Ex.ial hq rfl rfl hin ?_
  refine Ex.seg hq 5 (j := 10) (L' := [.ref 37, .int p0, .int p1, .int p2, .int (if ((s.2.1 39) (p0).toNatClampNeg) < p2 then ((s.2.1 39) (p0).toNatClampNeg) else p2), pu]) (S' := [.int p0, .ref 38]) (h' := hpS s) rfl ?_
  obtain ⟨hin, k⟩ := k
  refine Ex.ial hq rfl rfl hin ?_
  refine Ex.seg hq 5 (j := 16) (L' := [.ref 37, .int p0, .int p1, .int p2, .int (if ((s.2.1 39) (p0).toNatClampNeg) < p2 then ((s.2.1 39) (p0).toNatClampNeg) else p2), .int ((s.2.1 38) (p0).toNatClampNeg)]) (S' := [.int (if ((s.2.1 39) (p0).toNatClampNeg) < p2 then ((s.2.1 39) (p0).toNatClampNeg) else p2), .int p1, .int ((s.2.1 38) (p0).toNatClampNeg), .ref 37]) (h' := hpS s) rfl ?_
  refine Ex.cl hq rfl rfl ?_
  refine Rn.mono (q_45 (d := d + 0) ((s.2.1 38) (p0).toNatClampNeg) p1 (if ((s.2.1 39) (p0).toNatClampNeg) < p2 then ((s.2.1 39) (p0).toNatClampNeg) else p2) s k) ?_
  rintro _ _ ⟨s1, rfl, rfl, k⟩
  show Ex sc (d + 2) 43 17 [.ref 37, .int p0, .int p1, .int p2, .int (if ((s.2.1 39) (p0).toNatClampNeg) < p2 then ((s.2.1 39) (p0).toNatClampNeg) else p2), .int ((s.2.1 38) (p0).toNatClampNeg)] [] (hpS s1) _
  refine Ex.seg hq 4 (j := 21) (L' := [.ref 37, .int p0, .int p1, .int p2, .int (if ((s.2.1 39) (p0).toNatClampNeg) < p2 then ((s.2.1 39) (p0).toNatClampNeg) else p2), .int ((s.2.1 38) (p0).toNatClampNeg)]) (S' := [.int p0, .ref 39, .int p0, .ref 39]) (h' := hpS s1) rfl ?_
  obtain ⟨hin, k⟩ := k
  refine Ex.ial hq rfl rfl hin ?_
  refine Ex.seg hq 2 (j := 24) (L' := [.ref 37, .int p0, .int p1, .int p2, .int (if ((s.2.1 39) (p0).toNatClampNeg) < p2 then ((s.2.1 39) (p0).toNatClampNeg) else p2), .int ((s.2.1 38) (p0).toNatClampNeg)]) (S' := [.int (((s1.2.1 39) (p0).toNatClampNeg) - (if ((s.2.1 39) (p0).toNatClampNeg) < p2 then ((s.2.1 39) (p0).toNatClampNeg) else p2)), .int p0, .ref 39]) (h' := hpS s1) rfl ?_
  obtain ⟨hin, k⟩ := k
  refine Ex.ias hq rfl rfl hin (h' := hpS (sA s1 39 (upd (s1.2.1 39) (p0).toNatClampNeg (((s1.2.1 39) (p0).toNatClampNeg) - (if ((s.2.1 39) (p0).toNatClampNeg) < p2 then ((s.2.1 39) (p0).toNatClampNeg) else p2))))) (hset_39 _ _) ?_
  refine Ex.seg hq 4 (j := 29) (L' := [.ref 37, .int p0, .int p1, .int p2, .int (if ((s.2.1 39) (p0).toNatClampNeg) < p2 then ((s.2.1 39) (p0).toNatClampNeg) else p2), .int ((s.2.1 38) (p0).toNatClampNeg)]) (S' := [.ref 37, .int p0, .ref 38]) (h' := hpS (sA s1 39 (upd (s1.2.1 39) (p0).toNatClampNeg (((s1.2.1 39) (p0).toNatClampNeg) - (if ((s.2.1 39) (p0).toNatClampNeg) < p2 then ((s.2.1 39) (p0).toNatClampNeg) else p2))))) rfl ?_
  refine Ex.cl hq rfl rfl ?_
  refine Rn.mono (q_44 (d := d + 1) (sA s1 39 (upd (s1.2.1 39) (p0).toNatClampNeg (((s1.2.1 39) (p0).toNatClampNeg) - (if ((s.2.1 39) (p0).toNatClampNeg) < p2 then ((s.2.1 39) (p0).toNatClampNeg) else p2)))) k) ?_
  rintro _ _ ⟨r4, s3, rfl, rfl, k⟩
  show Ex sc (d + 2) 43 30 [.ref 37, .int p0, .int p1, .int p2, .int (if ((s.2.1 39) (p0).toNatClampNeg) < p2 then ((s.2.1 39) (p0).toNatClampNeg) else p2), .int ((s.2.1 38) (p0).toNatClampNeg)] [.int r4, .int p0, .ref 38] (hpS s3) _
  obtain ⟨hin, k⟩ := k
  refine Ex.ias hq rfl rfl hin (h' := hpS (sA s3 38 (upd (s3.2.1 38) (p0).toNatClampNeg r4))) (hset_38 _ _) ?_
  refine Ex.seg hq 5 (j := 36) (L' := [.ref 37, .int p0, .int p1, .int p2, .int (if ((s.2.1 39) (p0).toNatClampNeg) < p2 then ((s.2.1 39) (p0).toNatClampNeg) else p2), .int ((s.2.1 38) (p0).toNatClampNeg)]) (S' := [.int p0, .ref 38, .int ((s.2.1 38) (p0).toNatClampNeg), .ref 37]) (h' := hpS (sA s3 38 (upd (s3.2.1 38) (p0).toNatClampNeg r4))) rfl ?_
  obtain ⟨hin, k⟩ := k
  refine Ex.ial hq rfl rfl hin ?_
  refine Ex.seg hq 3 (j := 40) (L' := [.ref 37, .int p0, .int p1, .int p2, .int (if ((s.2.1 39) (p0).toNatClampNeg) < p2 then ((s.2.1 39) (p0).toNatClampNeg) else p2), .int ((s.2.1 38) (p0).toNatClampNeg)]) (S' := [.int p0, .ref 39, .int ((upd (s3.2.1 38) (p0).toNatClampNeg r4) (p0).toNatClampNeg), .int ((s.2.1 38) (p0).toNatClampNeg), .ref 37]) (h' := hpS (sA s3 38 (upd (s3.2.1 38) (p0).toNatClampNeg r4))) rfl ?_
  obtain ⟨hin, k⟩ := k
  refine Ex.ial hq rfl rfl hin ?_
  refine Ex.cl hq rfl rfl ?_
  refine Rn.mono (q_45 (d := d + 0) ((s.2.1 38) (p0).toNatClampNeg) ((upd (s3.2.1 38) (p0).toNatClampNeg r4) (p0).toNatClampNeg) ((s3.2.1 39) (p0).toNatClampNeg) (sA s3 38 (upd (s3.2.1 38) (p0).toNatClampNeg r4)) k) ?_
  rintro _ _ ⟨s5, rfl, rfl, k⟩
  show Ex sc (d + 2) 43 42 [.ref 37, .int p0, .int p1, .int p2, .int (if ((s.2.1 39) (p0).toNatClampNeg) < p2 then ((s.2.1 39) (p0).toNatClampNeg) else p2), .int ((s.2.1 38) (p0).toNatClampNeg)] [] (hpS s5) _
  exact Ex.rt hq rfl rfl ⟨s5, rfl, rfl, k⟩
end WP
