/-! ===== weakest preconditions, printed by wip/whole/genwp.py ===== -/
section WP
variable {sc : Nat × (Nat → Int32)}
def w_47_L4 : Nat → Int32 → Int32 → ST → (Int32 → ST → Prop) → (Int32 → ST → Prop) → Prop
  | 0, _, _, _, _, _ => False
  | n + 1, x1, x2, s, X17, K => (((1000000 : Int32) ≤ x2 → X17 x1 s) ∧ (¬ ((1000000 : Int32) ≤ x2) → w_48 s (fun r2 s1 => ((r2 = 0 → X17 x1 s1) ∧ (¬ (r2 = 0) → w_49 s1 (fun r4 s3 => w_47_L4 n (x1 + r4) (x2 + (1 : Int32)) s3 X17 K))))))
theorem q_47_L4 {d : Nat} {X17 : Int32 → ST → Prop} {K : Int32 → ST → Prop} : ∀ (n : Nat) (x1 : Int32) (x2 : Int32) (s : ST), w_47_L4 n x1 x2 s X17 K → (∀ (y1 : Int32) (s : ST), X17 y1 s → Ex sc (d + 3) 47 17 [pu, .int y1, pu] [] (hpS s) (kI K)) → Ex sc (d + 3) 47 4 [.ref 37, .int x1, .int x2] [] (hpS s) (kI K) := by
  have hq : prog[47]? = some pm47 := rfl
  intro n
  induction n with
  | zero =>
    intro x1 x2 s k
    exact k.elim
  | succ n ih =>
    intro x1 x2 s k hX17
    rw [w_47_L4] at k
    refine Ex.seg hq 2 (j := 6) (L' := [.ref 37, .int x1, .int x2]) (S' := [.int (1000000 : Int32), .int x2]) (h' := hpS s) rfl ?_
    refine Ex.i2 hq rfl (fun c => ?_) (fun c => ?_)
    · have k := k.1 c
      refine Ex.fg (L := [pu, .int x1, pu]) ⟨Or.inr ⟨rfl, rfl⟩, ⟨Or.inl rfl, ⟨Or.inr ⟨rfl, rfl⟩, trivial⟩⟩⟩ ?_
      exact hX17 x1 s k
    · have k := k.2 c
      refine Ex.seg hq 1 (j := 8) (L' := [.ref 37, .int x1, .int x2]) (S' := [.ref 37]) (h' := hpS s) rfl ?_
      refine Ex.cl hq rfl rfl ?_
      refine Rn.mono (q_48 (d := d + 0) s k) ?_
      rintro _ _ ⟨r2, s1, rfl, hzr2, rfl, k⟩
      show Ex sc (d + 3) 47 9 [.ref 37, .int x1, .int x2] [.int r2] (hpS s1) _
      refine Ex.i1 hq rfl (fun c => ?_) (fun c => ?_)
      · have k := k.1 c
        refine Ex.fg (L := [pu, .int x1, pu]) ⟨Or.inr ⟨rfl, rfl⟩, ⟨Or.inl rfl, ⟨Or.inr ⟨rfl, rfl⟩, trivial⟩⟩⟩ ?_
        exact hX17 x1 s1 k
      · have k := k.2 c
        refine Ex.seg hq 2 (j := 12) (L' := [.ref 37, .int x1, .int x2]) (S' := [.ref 37, .int x1]) (h' := hpS s1) rfl ?_
        refine Ex.cl hq rfl rfl ?_
        refine Rn.mono (q_49 (d := d + 0) s1 k) ?_
        rintro _ _ ⟨r4, s3, rfl, rfl, k⟩
        show Ex sc (d + 3) 47 13 [.ref 37, .int x1, .int x2] [.int r4, .int x1] (hpS s3) _
        refine Ex.seg hq 4 (j := 4) (L' := [.ref 37, .int (x1 + r4), .int (x2 + (1 : Int32))]) (S' := []) (h' := hpS s3) rfl ?_
        exact ih (x1 + r4) (x2 + (1 : Int32)) s3 k hX17
/-- RowAuditor$Flow.greatestFlow()I -/
def w_47  (s : ST) (K : Int32 → ST → Prop) : Prop := (∃ m, w_47_L4 m (0 : Int32) (0 : Int32) s (fun y1 s5 => K y1 s5) K)
theorem q_47 {d : Nat} {K : Int32 → ST → Prop}  (s : ST) (k : w_47  s K) : Rn sc (d + 3) 47 [.ref 37] (hpS s) (kI K) := by
  have hq : prog[47]? = some pm47 := rfl
  refine Rn.of (L := [.ref 37, pu, pu]) hq rfl rfl ?_
  unfold w_47 at k
  refine Ex.seg hq 4 (j := 4) (L' := [.ref 37, .int (0 : Int32), .int (0 : Int32)]) (S' := []) (h' := hpS s) rfl ?_
  obtain ⟨m, k⟩ := k
  refine q_47_L4 (d := d) m (0 : Int32) (0 : Int32) s k ?_
  · intro y1 s5 k
    refine Ex.seg hq 1 (j := 18) (L' := [pu, .int y1, pu]) (S' := [.int y1]) (h' := hpS s5) rfl ?_
    exact Ex.rt hq rfl rfl ⟨y1, s5, rfl, rfl, k⟩
def w_40_L5 : Nat → Int32 → Int32 → Int32 → Int32 → ST → (Int32 → Int32 → Int32 → ST → Prop) → (Int32 → ST → Prop) → Prop
  | 0, _, _, _, _, _, _, _ => False
  | n + 1, x1, x2, x3, x4, s, X18, K => (((s.1 801) ≤ x4 → X18 x1 x2 x3 s) ∧ (¬ ((s.1 801) ≤ x4) → w_123 x4 s (fun r4 s3 => w_42 r4 s3 (fun s5 => w_40_L5 n x1 x2 x3 (x4 + (1 : Int32)) s5 X18 K))))
theorem q_40_L5 {d : Nat} {X18 : Int32 → Int32 → Int32 → ST → Prop} {K : Int32 → ST → Prop} : ∀ (n : Nat) (x1 : Int32) (x2 : Int32) (x3 : Int32) (x4 : Int32) (s : ST), w_40_L5 n x1 x2 x3 x4 s X18 K → (∀ (y1 : Int32) (y2 : Int32) (y3 : Int32) (s : ST), X18 y1 y2 y3 s → Ex sc (d + 4) 40 18 [.ref 37, .int y1, .int y2, .int y3, pu] [] (hpS s) (kI K)) → Ex sc (d + 4) 40 5 [.ref 37, .int x1, .int x2, .int x3, .int x4] [] (hpS s) (kI K) := by
  have hq : prog[40]? = some pm40 := rfl
  intro n
  induction n with
  | zero =>
    intro x1 x2 x3 x4 s k
    exact k.elim
  | succ n ih =>
    intro x1 x2 x3 x4 s k hX18
    rw [w_40_L5] at k
    refine Ex.seg hq 4 (j := 9) (L' := [.ref 37, .int x1, .int x2, .int x3, .int x4]) (S' := [.int (s.1 801), .int x4]) (h' := hpS s) rfl ?_
    refine Ex.i2 hq rfl (fun c => ?_) (fun c => ?_)
    · have k := k.1 c
      refine Ex.fg (L := [.ref 37, .int x1, .int x2, .int x3, pu]) ⟨Or.inl rfl, ⟨Or.inl rfl, ⟨Or.inl rfl, ⟨Or.inl rfl, ⟨Or.inr ⟨rfl, rfl⟩, trivial⟩⟩⟩⟩⟩ ?_
      exact hX18 x1 x2 x3 s k
    · have k := k.2 c
      refine Ex.seg hq 4 (j := 14) (L' := [.ref 37, .int x1, .int x2, .int x3, .int x4]) (S' := [.int x4, .ref 8, .ref 37]) (h' := hpS s) rfl ?_
      refine Ex.cl hq rfl rfl ?_
      refine Rn.mono (q_123 (d := d + 3) x4 s k) ?_
      rintro _ _ ⟨r4, s3, rfl, rfl, k⟩
      show Ex sc (d + 4) 40 15 [.ref 37, .int x1, .int x2, .int x3, .int x4] [.int r4, .ref 37] (hpS s3) _
      refine Ex.cl hq rfl rfl ?_
      refine Rn.mono (q_42 (d := d + 0) r4 s3 k) ?_
      rintro _ _ ⟨s5, rfl, rfl, k⟩
      show Ex sc (d + 4) 40 16 [.ref 37, .int x1, .int x2, .int x3, .int x4] [] (hpS s5) _
      refine Ex.seg hq 2 (j := 5) (L' := [.ref 37, .int x1, .int x2, .int x3, .int (x4 + (1 : Int32))]) (S' := []) (h' := hpS s5) rfl ?_
      exact ih x1 x2 x3 (x4 + (1 : Int32)) s5 k hX18
def w_40_L20 : Nat → Int32 → Int32 → Int32 → Int32 → ST → (Int32 → Int32 → ST → Prop) → (Int32 → ST → Prop) → Prop
  | 0, _, _, _, _, _, _, _ => False
  | n + 1, x1, x2, x3, x4, s, X46, K => (((s.1 101) ≤ x4 → X46 x1 x3 s) ∧ (¬ ((s.1 101) ≤ x4) → (((10 : Int32) ≤ x4 → X46 x1 x3 s) ∧ (¬ ((10 : Int32) ≤ x4) → ((¬ x4 = x2 → ((¬ (0 : Int32) = x3 → w_40_L20 n x1 x2 x3 (x4 + (1 : Int32)) s X46 K) ∧ (¬ (¬ (0 : Int32) = x3) → (pin x4 10 = true ∧ w_45 ((s.2.1 38) (x4).toNatClampNeg) (1 : Int32) (1000000000 : Int32) s (fun s8 => w_40_L20 n x1 x2 x3 (x4 + (1 : Int32)) s8 X46 K))))) ∧ (¬ (¬ x4 = x2) → ((¬ (1 : Int32) = x3 → w_40_L20 n x1 x2 x3 (x4 + (1 : Int32)) s X46 K) ∧ (¬ (¬ (1 : Int32) = x3) → (pin x4 10 = true ∧ w_45 ((s.2.1 38) (x4).toNatClampNeg) (1 : Int32) (1000000000 : Int32) s (fun s10 => w_40_L20 n x1 x2 x3 (x4 + (1 : Int32)) s10 X46 K))))))))))
theorem q_40_L20 {d : Nat} {X46 : Int32 → Int32 → ST → Prop} {K : Int32 → ST → Prop} : ∀ (n : Nat) (x1 : Int32) (x2 : Int32) (x3 : Int32) (x4 : Int32) (s : ST), w_40_L20 n x1 x2 x3 x4 s X46 K → (∀ (y1 : Int32) (y3 : Int32) (s : ST), X46 y1 y3 s → Ex sc (d + 4) 40 46 [.ref 37, .int y1, pu, .int y3, pu] [] (hpS s) (kI K)) → Ex sc (d + 4) 40 20 [.ref 37, .int x1, .int x2, .int x3, .int x4] [] (hpS s) (kI K) := by
  have hq : prog[40]? = some pm40 := rfl
  intro n
  induction n with
  | zero =>
    intro x1 x2 x3 x4 s k
    exact k.elim
  | succ n ih =>
    intro x1 x2 x3 x4 s k hX46
    rw [w_40_L20] at k
    refine Ex.seg hq 4 (j := 24) (L' := [.ref 37, .int x1, .int x2, .int x3, .int x4]) (S' := [.int (s.1 101), .int x4]) (h' := hpS s) rfl ?_
    refine Ex.i2 hq rfl (fun c => ?_) (fun c => ?_)
    · have k := k.1 c
      refine Ex.fg (L := [.ref 37, .int x1, pu, .int x3, pu]) ⟨Or.inl rfl, ⟨Or.inl rfl, ⟨Or.inr ⟨rfl, rfl⟩, ⟨Or.inl rfl, ⟨Or.inr ⟨rfl, rfl⟩, trivial⟩⟩⟩⟩⟩ ?_
      exact hX46 x1 x3 s k
    · have k := k.2 c
      refine Ex.seg hq 2 (j := 27) (L' := [.ref 37, .int x1, .int x2, .int x3, .int x4]) (S' := [.int (10 : Int32), .int x4]) (h' := hpS s) rfl ?_
      refine Ex.i2 hq rfl (fun c => ?_) (fun c => ?_)
      · have k := k.1 c
        refine Ex.fg (L := [.ref 37, .int x1, pu, .int x3, pu]) ⟨Or.inl rfl, ⟨Or.inl rfl, ⟨Or.inr ⟨rfl, rfl⟩, ⟨Or.inl rfl, ⟨Or.inr ⟨rfl, rfl⟩, trivial⟩⟩⟩⟩⟩ ?_
        exact hX46 x1 x3 s k
      · have k := k.2 c
        refine Ex.seg hq 2 (j := 30) (L' := [.ref 37, .int x1, .int x2, .int x3, .int x4]) (S' := [.int x2, .int x4]) (h' := hpS s) rfl ?_
        refine Ex.i2 hq rfl (fun c => ?_) (fun c => ?_)
        · have k := k.1 c
          refine Ex.seg hq 2 (j := 35) (L' := [.ref 37, .int x1, .int x2, .int x3, .int x4]) (S' := [.int x3, .int (0 : Int32)]) (h' := hpS s) rfl ?_
          refine Ex.i2 hq rfl (fun c => ?_) (fun c => ?_)
          · have k := k.1 c
            refine Ex.seg hq 2 (j := 20) (L' := [.ref 37, .int x1, .int x2, .int x3, .int (x4 + (1 : Int32))]) (S' := []) (h' := hpS s) rfl ?_
            exact ih x1 x2 x3 (x4 + (1 : Int32)) s k hX46
          · have k := k.2 c
            refine Ex.seg hq 4 (j := 40) (L' := [.ref 37, .int x1, .int x2, .int x3, .int x4]) (S' := [.int x4, .ref 38, .ref 37]) (h' := hpS s) rfl ?_
            obtain ⟨hin, k⟩ := k
            refine Ex.ial hq rfl rfl hin ?_
            refine Ex.seg hq 2 (j := 43) (L' := [.ref 37, .int x1, .int x2, .int x3, .int x4]) (S' := [.int (1000000000 : Int32), .int (1 : Int32), .int ((s.2.1 38) (x4).toNatClampNeg), .ref 37]) (h' := hpS s) rfl ?_
            refine Ex.cl hq rfl rfl ?_
            refine Rn.mono (q_45 (d := d + 2) ((s.2.1 38) (x4).toNatClampNeg) (1 : Int32) (1000000000 : Int32) s k) ?_
            rintro _ _ ⟨s8, rfl, rfl, k⟩
            show Ex sc (d + 4) 40 44 [.ref 37, .int x1, .int x2, .int x3, .int x4] [] (hpS s8) _
            refine Ex.seg hq 2 (j := 20) (L' := [.ref 37, .int x1, .int x2, .int x3, .int (x4 + (1 : Int32))]) (S' := []) (h' := hpS s8) rfl ?_
            exact ih x1 x2 x3 (x4 + (1 : Int32)) s8 k hX46
        · have k := k.2 c
          refine Ex.seg hq 3 (j := 35) (L' := [.ref 37, .int x1, .int x2, .int x3, .int x4]) (S' := [.int x3, .int (1 : Int32)]) (h' := hpS s) rfl ?_
          refine Ex.i2 hq rfl (fun c => ?_) (fun c => ?_)
          · have k := k.1 c
            refine Ex.seg hq 2 (j := 20) (L' := [.ref 37, .int x1, .int x2, .int x3, .int (x4 + (1 : Int32))]) (S' := []) (h' := hpS s) rfl ?_
            exact ih x1 x2 x3 (x4 + (1 : Int32)) s k hX46
          · have k := k.2 c
            refine Ex.seg hq 4 (j := 40) (L' := [.ref 37, .int x1, .int x2, .int x3, .int x4]) (S' := [.int x4, .ref 38, .ref 37]) (h' := hpS s) rfl ?_
            obtain ⟨hin, k⟩ := k
            refine Ex.ial hq rfl rfl hin ?_
            refine Ex.seg hq 2 (j := 43) (L' := [.ref 37, .int x1, .int x2, .int x3, .int x4]) (S' := [.int (1000000000 : Int32), .int (1 : Int32), .int ((s.2.1 38) (x4).toNatClampNeg), .ref 37]) (h' := hpS s) rfl ?_
            refine Ex.cl hq rfl rfl ?_
            refine Rn.mono (q_45 (d := d + 2) ((s.2.1 38) (x4).toNatClampNeg) (1 : Int32) (1000000000 : Int32) s k) ?_
            rintro _ _ ⟨s10, rfl, rfl, k⟩
            show Ex sc (d + 4) 40 44 [.ref 37, .int x1, .int x2, .int x3, .int x4] [] (hpS s10) _
            refine Ex.seg hq 2 (j := 20) (L' := [.ref 37, .int x1, .int x2, .int x3, .int (x4 + (1 : Int32))]) (S' := []) (h' := hpS s10) rfl ?_
            exact ih x1 x2 x3 (x4 + (1 : Int32)) s10 k hX46
/-- RowAuditor$Flow.coinsOf(IIZ)I -/
def w_40 (p1 : Int32) (p2 : Int32) (p3 : Int32) (s : ST) (K : Int32 → ST → Prop) : Prop := w_41 p1 s (fun s1 => (∃ m, w_40_L5 m p1 p2 p3 (0 : Int32) s1 (fun y1 y2 y3 s7 => (∃ m, w_40_L20 m y1 y2 y3 (0 : Int32) s7 (fun y1 y3 s12 => ((¬ y3 = 0 → w_47 s12 (fun r14 s13 => ((y3 = 0 → w_4 y1 s13 (fun r16 s15 => K (r16 - r14) s15)) ∧ (¬ (y3 = 0) → K r14 s13)))) ∧ (¬ (¬ y3 = 0) → w_45 (2 : Int32) (1 : Int32) (1000000000 : Int32) s12 (fun s17 => w_47 s17 (fun r20 s19 => ((y3 = 0 → w_4 y1 s19 (fun r22 s21 => K (r22 - r20) s21)) ∧ (¬ (y3 = 0) → K r20 s19))))))) K)) K))
theorem q_40 {d : Nat} {K : Int32 → ST → Prop} (p1 : Int32) (p2 : Int32) (p3 : Int32) (s : ST) (k : w_40 p1 p2 p3 s K) : Rn sc (d + 4) 40 [.ref 37, .int p1, .int p2, .int p3] (hpS s) (kI K) := by
  have hq : prog[40]? = some pm40 := rfl
  refine Rn.of (L := [.ref 37, .int p1, .int p2, .int p3, pu]) hq rfl rfl ?_
  unfold w_40 at k
  refine Ex.seg hq 2 (j := 2) (L' := [.ref 37, .int p1, .int p2, .int p3, pu]) (S' := [.int p1, .ref 37]) (h' := hpS s) rfl ?_
  refine Ex.cl hq rfl rfl ?_
  refine Rn.mono (q_41 (d := d + 1) p1 s k) ?_
  rintro _ _ ⟨s1, rfl, rfl, k⟩
  show Ex sc (d + 4) 40 3 [.ref 37, .int p1, .int p2, .int p3, pu] [] (hpS s1) _
  refine Ex.seg hq 2 (j := 5) (L' := [.ref 37, .int p1, .int p2, .int p3, .int (0 : Int32)]) (S' := []) (h' := hpS s1) rfl ?_
  obtain ⟨m, k⟩ := k
  refine q_40_L5 (d := d) m p1 p2 p3 (0 : Int32) s1 k ?_
  · intro y1 y2 y3 s7 k
    refine Ex.seg hq 2 (j := 20) (L' := [.ref 37, .int y1, .int y2, .int y3, .int (0 : Int32)]) (S' := []) (h' := hpS s7) rfl ?_
    obtain ⟨m, k⟩ := k
    refine q_40_L20 (d := d) m y1 y2 y3 (0 : Int32) s7 k ?_
    · intro y1 y3 s12 k
      refine Ex.seg hq 1 (j := 47) (L' := [.ref 37, .int y1, pu, .int y3, pu]) (S' := [.int y3]) (h' := hpS s12) rfl ?_
      refine Ex.i1 hq rfl (fun c => ?_) (fun c => ?_)
      · have k := k.1 c
        refine Ex.seg hq 1 (j := 54) (L' := [.ref 37, .int y1, pu, .int y3, pu]) (S' := [.ref 37]) (h' := hpS s12) rfl ?_
        refine Ex.cl hq rfl rfl ?_
        refine Rn.mono (q_47 (d := d + 0) s12 k) ?_
        rintro _ _ ⟨r14, s13, rfl, rfl, k⟩
        show Ex sc (d + 4) 40 55 [.ref 37, .int y1, pu, .int y3, pu] [.int r14] (hpS s13) _
        refine Ex.seg hq 2 (j := 57) (L' := [.ref 37, .int y1, pu, .int y3, .int r14]) (S' := [.int y3]) (h' := hpS s13) rfl ?_
        refine Ex.i1 hq rfl (fun c => ?_) (fun c => ?_)
        · have k := k.1 c
          refine Ex.seg hq 3 (j := 63) (L' := [.ref 37, .int y1, pu, .int y3, .int r14]) (S' := [.int y1, .ref 1]) (h' := hpS s13) rfl ?_
          refine Ex.cl hq rfl rfl ?_
          refine Rn.mono (q_4 (d := d + 3) y1 s13 k) ?_
          rintro _ _ ⟨r16, s15, rfl, rfl, k⟩
          show Ex sc (d + 4) 40 64 [.ref 37, .int y1, pu, .int y3, .int r14] [.int r16] (hpS s15) _
          refine Ex.seg hq 2 (j := 66) (L' := [.ref 37, .int y1, pu, .int y3, .int r14]) (S' := [.int (r16 - r14)]) (h' := hpS s15) rfl ?_
          exact Ex.rt hq rfl rfl ⟨(r16 - r14), s15, rfl, rfl, k⟩
        · have k := k.2 c
          refine Ex.seg hq 2 (j := 66) (L' := [.ref 37, .int y1, pu, .int y3, .int r14]) (S' := [.int r14]) (h' := hpS s13) rfl ?_
          exact Ex.rt hq rfl rfl ⟨r14, s13, rfl, rfl, k⟩
      · have k := k.2 c
        refine Ex.seg hq 4 (j := 52) (L' := [.ref 37, .int y1, pu, .int y3, pu]) (S' := [.int (1000000000 : Int32), .int (1 : Int32), .int (2 : Int32), .ref 37]) (h' := hpS s12) rfl ?_
        refine Ex.cl hq rfl rfl ?_
        refine Rn.mono (q_45 (d := d + 2) (2 : Int32) (1 : Int32) (1000000000 : Int32) s12 k) ?_
        rintro _ _ ⟨s17, rfl, rfl, k⟩
        show Ex sc (d + 4) 40 53 [.ref 37, .int y1, pu, .int y3, pu] [] (hpS s17) _
        refine Ex.seg hq 1 (j := 54) (L' := [.ref 37, .int y1, pu, .int y3, pu]) (S' := [.ref 37]) (h' := hpS s17) rfl ?_
        refine Ex.cl hq rfl rfl ?_
        refine Rn.mono (q_47 (d := d + 0) s17 k) ?_
        rintro _ _ ⟨r20, s19, rfl, rfl, k⟩
        show Ex sc (d + 4) 40 55 [.ref 37, .int y1, pu, .int y3, pu] [.int r20] (hpS s19) _
        refine Ex.seg hq 2 (j := 57) (L' := [.ref 37, .int y1, pu, .int y3, .int r20]) (S' := [.int y3]) (h' := hpS s19) rfl ?_
        refine Ex.i1 hq rfl (fun c => ?_) (fun c => ?_)
        · have k := k.1 c
          refine Ex.seg hq 3 (j := 63) (L' := [.ref 37, .int y1, pu, .int y3, .int r20]) (S' := [.int y1, .ref 1]) (h' := hpS s19) rfl ?_
          refine Ex.cl hq rfl rfl ?_
          refine Rn.mono (q_4 (d := d + 3) y1 s19 k) ?_
          rintro _ _ ⟨r22, s21, rfl, rfl, k⟩
          show Ex sc (d + 4) 40 64 [.ref 37, .int y1, pu, .int y3, .int r20] [.int r22] (hpS s21) _
          refine Ex.seg hq 2 (j := 66) (L' := [.ref 37, .int y1, pu, .int y3, .int r20]) (S' := [.int (r22 - r20)]) (h' := hpS s21) rfl ?_
          exact Ex.rt hq rfl rfl ⟨(r22 - r20), s21, rfl, rfl, k⟩
        · have k := k.2 c
          refine Ex.seg hq 2 (j := 66) (L' := [.ref 37, .int y1, pu, .int y3, .int r20]) (S' := [.int r20]) (h' := hpS s19) rfl ?_
          exact Ex.rt hq rfl rfl ⟨r20, s19, rfl, rfl, k⟩
/-- java/util/AbstractCollection.<init>()V -/
def w_292 (p0 : Nat) (s : ST) (K : ST → Prop) : Prop := K s
theorem q_292 {d : Nat} {K : ST → Prop} (p0 : Nat) (s : ST) (k : w_292 p0 s K) : Rn sc (d + 1) 292 [.ref (p0 + 118)] (hpS s) (kV K) := by
  have hq : prog[292]? = some pm292 := rfl
  refine Rn.of (L := [.ref (p0 + 118)]) hq rfl rfl ?_
  unfold w_292 at k
  refine Ex.seg hq 2 (j := 2) (L' := [.ref (p0 + 118)]) (S' := []) (h' := hpS s) rfl ?_
  exact Ex.rt hq rfl rfl ⟨s, rfl, rfl, k⟩
/-- java/util/AbstractList.<init>()V -/
def w_293 (p0 : Nat) (s : ST) (K : ST → Prop) : Prop := w_292 p0 s (fun s1 => (∃ f3, pob s1.2.2.2.2 p0 13 = some f3 ∧ 0 < f3.length ∧ K (sD s1 (s1.2.2.2.2.set p0 (.inr (13, f3.set 0 (.int (0 : Int32))))))))
theorem q_293 {d : Nat} {K : ST → Prop} (p0 : Nat) (s : ST) (k : w_293 p0 s K) : Rn sc (d + 2) 293 [.ref (p0 + 118)] (hpS s) (kV K) := by
  have hq : prog[293]? = some pm293 := rfl
  refine Rn.of (L := [.ref (p0 + 118)]) hq rfl rfl ?_
  unfold w_293 at k
  refine Ex.seg hq 1 (j := 1) (L' := [.ref (p0 + 118)]) (S' := [.ref (p0 + 118)]) (h' := hpS s) rfl ?_
  refine Ex.cl hq rfl rfl ?_
  refine Rn.mono (q_292 (d := d + 0) p0 s k) ?_
  rintro _ _ ⟨s1, rfl, rfl, k⟩
  show Ex sc (d + 2) 293 2 [.ref (p0 + 118)] [] (hpS s1) _
  refine Ex.seg hq 2 (j := 4) (L' := [.ref (p0 + 118)]) (S' := [.int (0 : Int32), .ref (p0 + 118)]) (h' := hpS s1) rfl ?_
  obtain ⟨f3, e, hk, k⟩ := k
  refine Ex.pfd hq rfl e hk rfl ?_
  show Ex sc (d + 2) 293 5 [.ref (p0 + 118)] [] (hpS (sD s1 (s1.2.2.2.2.set p0 (.inr (13, f3.set 0 (.int (0 : Int32))))))) _
  exact Ex.rt hq rfl rfl ⟨(sD s1 (s1.2.2.2.2.set p0 (.inr (13, f3.set 0 (.int (0 : Int32)))))), rfl, rfl, k⟩
/-- java/util/ArrayList.<init>()V -/
def w_294 (p0 : Nat) (s : ST) (K : ST → Prop) : Prop := w_293 p0 s (fun s1 => (∃ f3, pob s1.2.2.2.2 p0 13 = some f3 ∧ 1 < f3.length ∧ K (sD s1 (s1.2.2.2.2.set p0 (.inr (13, f3.set 1 (.float 1)))))))
theorem q_294 {d : Nat} {K : ST → Prop} (p0 : Nat) (s : ST) (k : w_294 p0 s K) : Rn sc (d + 3) 294 [.ref (p0 + 118)] (hpS s) (kV K) := by
  have hq : prog[294]? = some pm294 := rfl
  refine Rn.of (L := [.ref (p0 + 118)]) hq rfl rfl ?_
  unfold w_294 at k
  refine Ex.seg hq 1 (j := 1) (L' := [.ref (p0 + 118)]) (S' := [.ref (p0 + 118)]) (h' := hpS s) rfl ?_
  refine Ex.cl hq rfl rfl ?_
  refine Rn.mono (q_293 (d := d + 0) p0 s k) ?_
  rintro _ _ ⟨s1, rfl, rfl, k⟩
  show Ex sc (d + 3) 294 2 [.ref (p0 + 118)] [] (hpS s1) _
  refine Ex.seg hq 2 (j := 4) (L' := [.ref (p0 + 118)]) (S' := [.float 1, .ref (p0 + 118)]) (h' := hpS s1) rfl ?_
  obtain ⟨f3, e, hk, k⟩ := k
  refine Ex.pfd hq rfl e hk rfl ?_
  show Ex sc (d + 3) 294 5 [.ref (p0 + 118)] [] (hpS (sD s1 (s1.2.2.2.2.set p0 (.inr (13, f3.set 1 (.float 1)))))) _
  exact Ex.rt hq rfl rfl ⟨(sD s1 (s1.2.2.2.2.set p0 (.inr (13, f3.set 1 (.float 1))))), rfl, rfl, k⟩
def w_302_R21_L5 : Nat → Int32 → Int32 → Int32 → ST → (ST → Prop) → (ST → Prop) → Prop
  | 0, _, _, _, _, _, _ => False
  | n + 1, x1, x2, x3, s, X14, K => ((x3 ≤ x2 → X14  s) ∧ (¬ (x3 ≤ x2) → (pin x2 20 = true ∧ w_302_R21_L5 n x1 (x2 + (1 : Int32)) x3 (sA s 21 (upd (s.2.1 21) (x2).toNatClampNeg x1)) X14 K)))
theorem q_302_R21_L5 {d : Nat} {X14 : ST → Prop} {K : ST → Prop} : ∀ (n : Nat) (x1 : Int32) (x2 : Int32) (x3 : Int32) (s : ST), w_302_R21_L5 n x1 x2 x3 s X14 K → (∀ (s : ST), X14  s → Ex sc (d + 0) 302 14 [pu, pu, pu, pu] [] (hpS s) (kV K)) → Ex sc (d + 0) 302 5 [.ref 21, .int x1, .int x2, .int x3] [] (hpS s) (kV K) := by
  have hq : prog[302]? = some pm302 := rfl
  intro n
  induction n with
  | zero =>
    intro x1 x2 x3 s k
    exact k.elim
  | succ n ih =>
    intro x1 x2 x3 s k hX14
    rw [w_302_R21_L5] at k
    refine Ex.seg hq 2 (j := 7) (L' := [.ref 21, .int x1, .int x2, .int x3]) (S' := [.int x3, .int x2]) (h' := hpS s) rfl ?_
    refine Ex.i2 hq rfl (fun c => ?_) (fun c => ?_)
    · have k := k.1 c
      refine Ex.fg (L := [pu, pu, pu, pu]) ⟨Or.inr ⟨rfl, rfl⟩, ⟨Or.inr ⟨rfl, rfl⟩, ⟨Or.inr ⟨rfl, rfl⟩, ⟨Or.inr ⟨rfl, rfl⟩, trivial⟩⟩⟩⟩ ?_
      exact hX14  s k
    · have k := k.2 c
      refine Ex.seg hq 3 (j := 11) (L' := [.ref 21, .int x1, .int x2, .int x3]) (S' := [.int x1, .int x2, .ref 21]) (h' := hpS s) rfl ?_
      obtain ⟨hin, k⟩ := k
      refine Ex.ias hq rfl rfl hin (h' := hpS (sA s 21 (upd (s.2.1 21) (x2).toNatClampNeg x1))) (hset_21 _ _) ?_
      refine Ex.seg hq 2 (j := 5) (L' := [.ref 21, .int x1, .int (x2 + (1 : Int32)), .int x3]) (S' := []) (h' := hpS (sA s 21 (upd (s.2.1 21) (x2).toNatClampNeg x1))) rfl ?_
      exact ih x1 (x2 + (1 : Int32)) x3 (sA s 21 (upd (s.2.1 21) (x2).toNatClampNeg x1)) k hX14
/-- java/util/Arrays.fill([II)V -/
def w_302_R21 (p1 : Int32) (s : ST) (K : ST → Prop) : Prop := (∃ m, w_302_R21_L5 m p1 (0 : Int32) (Int32.ofNat 20) s (fun s1 => K s1) K)
theorem q_302_R21 {d : Nat} {K : ST → Prop} (p1 : Int32) (s : ST) (k : w_302_R21 p1 s K) : Rn sc (d + 0) 302 [.ref 21, .int p1] (hpS s) (kV K) := by
  have hq : prog[302]? = some pm302 := rfl
  refine Rn.of (L := [.ref 21, .int p1, pu, pu]) hq rfl rfl ?_
  unfold w_302_R21 at k
  refine Ex.seg hq 5 (j := 5) (L' := [.ref 21, .int p1, .int (0 : Int32), .int (Int32.ofNat 20)]) (S' := []) (h' := hpS s) rfl ?_
  obtain ⟨m, k⟩ := k
  refine q_302_R21_L5 (d := d) m p1 (0 : Int32) (Int32.ofNat 20) s k ?_
  · intro s1 k
    exact Ex.rt hq rfl rfl ⟨s1, rfl, rfl, k⟩
/-- java/util/ArrayList.size()I -/
def w_297_R20  (s : ST) (K : Int32 → ST → Prop) : Prop := K (s.1 2002) s
theorem q_297_R20 {d : Nat} {K : Int32 → ST → Prop}  (s : ST) (k : w_297_R20  s K) : Rn sc (d + 0) 297 [.ref 20] (hpS s) (kI K) := by
  have hq : prog[297]? = some pm297 := rfl
  refine Rn.of (L := [.ref 20]) hq rfl rfl ?_
  unfold w_297_R20 at k
  refine Ex.seg hq 2 (j := 2) (L' := [.ref 20]) (S' := [.int (s.1 2002)]) (h' := hpS s) rfl ?_
  exact Ex.rt hq rfl rfl ⟨(s.1 2002), s, rfl, rfl, k⟩
/-- java/util/ArrayList.elementData(I)Ljava/lang/Object; -/
def w_298_R20 (p1 : Int32) (s : ST) (K : Nat → ST → Prop) : Prop := (((s.2.2.2.1 20) = .float 1 ∧ False) ∨ (∃ b1, (s.2.2.2.1 20) = .ref (b1 + 118) ∧ (∃ n2 f3 y4, prowR s.2.2.2.2 b1 = some (n2, f3) ∧ pin p1 n2 = true ∧ f3 (p1).toNatClampNeg = some (y4 + 118) ∧ K y4 s)))
theorem q_298_R20 {d : Nat} {K : Nat → ST → Prop} (p1 : Int32) (s : ST) (k : w_298_R20 p1 s K) : Rn sc (d + 0) 298 [.ref 20, .int p1] (hpS s) (kA K) := by
  have hq : prog[298]? = some pm298 := rfl
  refine Rn.of (L := [.ref 20, .int p1]) hq rfl rfl ?_
  unfold w_298_R20 at k
  refine Ex.seg hq 1 (j := 1) (L' := [.ref 20, .int p1]) (S' := [.ref 20]) (h' := hpS s) rfl ?_
  refine Ex.seg hq 1 (j := 2) (L' := [.ref 20, .int p1]) (S' := (s.2.2.2.1 20) :: []) (h' := hpS s) rfl ?_
  rcases k with ⟨e, k⟩ | ⟨b1, e, k⟩
  · rw [e]
    refine Ex.seg hq 1 (j := 3) (L' := [.ref 20, .int p1]) (S' := [.int p1, .float 1]) (h' := hpS s) rfl ?_
    exact k.elim
  · rw [e]
    refine Ex.seg hq 1 (j := 3) (L' := [.ref 20, .int p1]) (S' := [.int p1, .ref (b1 + 118)]) (h' := hpS s) rfl ?_
    obtain ⟨n2, f3, y4, e, hin, hy, k⟩ := k
    refine Ex.aad hq rfl e hin hy ?_
    exact Ex.rt hq rfl rfl ⟨y4, s, rfl, rfl, k⟩
/-- java/util/ArrayList.get(I)Ljava/lang/Object; -/
def w_299_R20 (p1 : Int32) (s : ST) (K : Nat → ST → Prop) : Prop := w_306 p1 (s.1 2002) s (fun r2 s1 => w_298_R20 p1 s1 (fun r4 s3 => K r4 s3))
theorem q_299_R20 {d : Nat} {K : Nat → ST → Prop} (p1 : Int32) (s : ST) (k : w_299_R20 p1 s K) : Rn sc (d + 2) 299 [.ref 20, .int p1] (hpS s) (kA K) := by
  have hq : prog[299]? = some pm299 := rfl
  refine Rn.of (L := [.ref 20, .int p1]) hq rfl rfl ?_
  unfold w_299_R20 at k
  refine Ex.seg hq 3 (j := 3) (L' := [.ref 20, .int p1]) (S' := [.int (s.1 2002), .int p1]) (h' := hpS s) rfl ?_
  refine Ex.cl hq rfl rfl ?_
  refine Rn.mono (q_306 (d := d + 0) p1 (s.1 2002) s k) ?_
  rintro _ _ ⟨r2, s1, rfl, rfl, k⟩
  show Ex sc (d + 2) 299 4 [.ref 20, .int p1] [.int r2] (hpS s1) _
  refine Ex.seg hq 3 (j := 7) (L' := [.ref 20, .int p1]) (S' := [.int p1, .ref 20]) (h' := hpS s1) rfl ?_
  refine Ex.cl hq rfl rfl ?_
  refine Rn.mono (q_298_R20 (d := d + 1) p1 s1 k) ?_
  rintro _ _ ⟨r4, s3, rfl, rfl, k⟩
  show Ex sc (d + 2) 299 8 [.ref 20, .int p1] [.ref (r4 + 118)] (hpS s3) _
  exact Ex.rt hq rfl rfl ⟨r4, s3, rfl, rfl, k⟩
/-- RowAuditor$Text.isInForce(I)Z -/
def w_108 (p0 : Nat) (p1 : Int32) (s : ST) (K : Int32 → ST → Prop) : Prop := (∃ v1, pgf s.2.2.2.2 p0 9 1 = some (.int v1) ∧ (∃ v2, pgf s.2.2.2.2 p0 9 2 = some (.int v2) ∧ w_181 p1 v1 v2 s (fun r4 s3 => K r4 s3)))
theorem q_108 {d : Nat} {K : Int32 → ST → Prop} (p0 : Nat) (p1 : Int32) (s : ST) (k : w_108 p0 p1 s K) : Rn sc (d + 1) 108 [.ref (p0 + 118), .int p1] (hpS s) (kZ K) := by
  have hq : prog[108]? = some pm108 := rfl
  refine Rn.of (L := [.ref (p0 + 118), .int p1]) hq rfl rfl ?_
  unfold w_108 at k
  refine Ex.seg hq 2 (j := 2) (L' := [.ref (p0 + 118), .int p1]) (S' := [.ref (p0 + 118), .int p1]) (h' := hpS s) rfl ?_
  obtain ⟨v1, e, k⟩ := k
  refine Ex.gfd hq rfl e ?_
  refine Ex.seg hq 1 (j := 4) (L' := [.ref (p0 + 118), .int p1]) (S' := [.ref (p0 + 118), .int v1, .int p1]) (h' := hpS s) rfl ?_
  obtain ⟨v2, e, k⟩ := k
  refine Ex.gfd hq rfl e ?_
  refine Ex.cl hq rfl rfl ?_
  refine Rn.mono (q_181 (d := d + 0) p1 v1 v2 s k) ?_
  rintro _ _ ⟨r4, s3, rfl, hzr4, rfl, k⟩
  show Ex sc (d + 1) 108 6 [.ref (p0 + 118), .int p1] [.int r4] (hpS s3) _
  exact Ex.zr hq rfl rfl hzr4 ⟨r4, s3, rfl, hzr4, rfl, k⟩
def w_54_L8 : Nat → Nat → Int32 → Int32 → Int32 → Int32 → ST → (ST → Prop) → (ST → Prop) → Prop
  | 0, _, _, _, _, _, _, _, _ => False
  | n + 1, x1, x3, x4, x5, x6, s, X62, K => (∃ v3, pgf s.2.2.2.2 x1 9 0 = some (.ref (v3 + 118)) ∧ (∃ f6, pob s.2.2.2.2 v3 13 = some f6 ∧ w_297 v3 s (fun r5 s4 => ((r5 ≤ x6 → X62  s4) ∧ (¬ (r5 ≤ x6) → (∃ v7, pgf s4.2.2.2.2 x1 9 0 = some (.ref (v7 + 118)) ∧ (∃ f10, pob s4.2.2.2.2 v7 13 = some f10 ∧ w_299 v7 x6 s4 (fun r9 s8 => (∃ f11, pob s8.2.2.2.2 r9 1 = some f11 ∧ (∃ v12, pgf s8.2.2.2.2 r9 1 0 = some (.int v12) ∧ ((¬ v12 = (120 : Int32) → (∃ v13, pgf s8.2.2.2.2 r9 1 2 = some (.int v13) ∧ w_54_L8 n x1 x3 x4 x5 (x6 + (1 : Int32)) s8 X62 K)) ∧ (¬ (¬ v12 = (120 : Int32)) → w_184 x6 x3 s8 (fun r15 s14 => ((¬ r15 = 0 → (∃ v16, pgf s14.2.2.2.2 r9 1 2 = some (.int v16) ∧ w_54_L8 n x1 x3 x4 x5 (x6 + (1 : Int32)) s14 X62 K)) ∧ (¬ (¬ r15 = 0) → (∃ v17, pgf s14.2.2.2.2 r9 1 2 = some (.int v17) ∧ ((v17 < 0 → w_54_L8 n x1 x3 x4 x5 (x6 + (1 : Int32)) s14 X62 K) ∧ (¬ (v17 < 0) → ((x5 ≤ v17 → w_54_L8 n x1 x3 x4 x5 (x6 + (1 : Int32)) s14 X62 K) ∧ (¬ (x5 ≤ v17) → w_299_R20 v17 s14 (fun r19 s18 => (∃ f20, pob s18.2.2.2.2 r19 9 = some f20 ∧ (∃ f23, pob s18.2.2.2.2 r19 9 = some f23 ∧ w_108 r19 x4 s18 (fun r22 s21 => ((r22 = 0 → w_54_L8 n x1 x3 x4 x5 (x6 + (1 : Int32)) s21 X62 K) ∧ (¬ (r22 = 0) → (pin v17 20 = true ∧ (∃ v24, pgf s21.2.2.2.2 r9 1 3 = some (.int v24) ∧ (pin v17 20 = true ∧ w_54_L8 n x1 x3 x4 x5 (x6 + (1 : Int32)) (sA s21 21 (upd (s21.2.1 21) (v17).toNatClampNeg (((s21.2.1 21) (v17).toNatClampNeg) ||| ((1 : Int32) <<< (v24 &&& 31))))) X62 K)))))))))))))))))))))))))))))
theorem q_54_L8 {d : Nat} {X62 : ST → Prop} {K : ST → Prop} : ∀ (n : Nat) (x1 : Nat) (x3 : Int32) (x4 : Int32) (x5 : Int32) (x6 : Int32) (s : ST), w_54_L8 n x1 x3 x4 x5 x6 s X62 K → (∀ (s : ST), X62  s → Ex sc (d + 3) 54 62 [pu, pu, pu, pu, pu, pu, pu, pu, pu, pu] [] (hpS s) (kV K)) → Ex sc (d + 3) 54 8 [.ref 19, .ref (x1 + 118), pu, .int x3, .int x4, .int x5, .int x6, pu, pu, pu] [] (hpS s) (kV K) := by
  have hq : prog[54]? = some pm54 := rfl
  intro n
  induction n with
  | zero =>
    intro x1 x3 x4 x5 x6 s k
    exact k.elim
  | succ n ih =>
    intro x1 x3 x4 x5 x6 s k hX62
    rw [w_54_L8] at k
    refine Ex.seg hq 2 (j := 10) (L' := [.ref 19, .ref (x1 + 118), pu, .int x3, .int x4, .int x5, .int x6, pu, pu, pu]) (S' := [.ref (x1 + 118), .int x6]) (h' := hpS s) rfl ?_
    obtain ⟨v3, e, k⟩ := k
    refine Ex.gfd hq rfl e ?_
    obtain ⟨f6, e, k⟩ := k
    refine Ex.cvd hq rfl rfl e rfl ?_
    refine Rn.mono (q_297 (d := d + 2) v3 s k) ?_
    rintro _ _ ⟨r5, s4, rfl, rfl, k⟩
    show Ex sc (d + 3) 54 12 [.ref 19, .ref (x1 + 118), pu, .int x3, .int x4, .int x5, .int x6, pu, pu, pu] [.int r5, .int x6] (hpS s4) _
    refine Ex.i2 hq rfl (fun c => ?_) (fun c => ?_)
    · have k := k.1 c
      refine Ex.fg (L := [pu, pu, pu, pu, pu, pu, pu, pu, pu, pu]) ⟨Or.inr ⟨rfl, rfl⟩, ⟨Or.inr ⟨rfl, rfl⟩, ⟨Or.inl rfl, ⟨Or.inr ⟨rfl, rfl⟩, ⟨Or.inr ⟨rfl, rfl⟩, ⟨Or.inr ⟨rfl, rfl⟩, ⟨Or.inr ⟨rfl, rfl⟩, ⟨Or.inl rfl, ⟨Or.inl rfl, ⟨Or.inl rfl, trivial⟩⟩⟩⟩⟩⟩⟩⟩⟩⟩ ?_
      exact hX62  s4 k
    · have k := k.2 c
      refine Ex.seg hq 1 (j := 14) (L' := [.ref 19, .ref (x1 + 118), pu, .int x3, .int x4, .int x5, .int x6, pu, pu, pu]) (S' := [.ref (x1 + 118)]) (h' := hpS s4) rfl ?_
      obtain ⟨v7, e, k⟩ := k
      refine Ex.gfd hq rfl e ?_
      refine Ex.seg hq 1 (j := 16) (L' := [.ref 19, .ref (x1 + 118), pu, .int x3, .int x4, .int x5, .int x6, pu, pu, pu]) (S' := [.int x6, .ref (v7 + 118)]) (h' := hpS s4) rfl ?_
      obtain ⟨f10, e, k⟩ := k
      refine Ex.cvd hq rfl rfl e rfl ?_
      refine Rn.mono (q_299 (d := d + 0) v7 x6 s4 k) ?_
      rintro _ _ ⟨r9, s8, rfl, rfl, k⟩
      show Ex sc (d + 3) 54 17 [.ref 19, .ref (x1 + 118), pu, .int x3, .int x4, .int x5, .int x6, pu, pu, pu] [.ref (r9 + 118)] (hpS s8) _
      obtain ⟨f11, e, k⟩ := k
      refine Ex.ccd hq rfl e ?_
      refine Ex.seg hq 2 (j := 20) (L' := [.ref 19, .ref (x1 + 118), pu, .int x3, .int x4, .int x5, .int x6, .ref (r9 + 118), pu, pu]) (S' := [.ref (r9 + 118)]) (h' := hpS s8) rfl ?_
      obtain ⟨v12, e, k⟩ := k
      refine Ex.gfd hq rfl e ?_
      refine Ex.seg hq 1 (j := 22) (L' := [.ref 19, .ref (x1 + 118), pu, .int x3, .int x4, .int x5, .int x6, .ref (r9 + 118), pu, pu]) (S' := [.int (120 : Int32), .int v12]) (h' := hpS s8) rfl ?_
      refine Ex.i2 hq rfl (fun c => ?_) (fun c => ?_)
      · have k := k.1 c
        refine Ex.seg hq 3 (j := 32) (L' := [.ref 19, .ref (x1 + 118), pu, .int x3, .int x4, .int x5, .int x6, .ref (r9 + 118), .int (0 : Int32), pu]) (S' := [.ref (r9 + 118)]) (h' := hpS s8) rfl ?_
        obtain ⟨v13, e, k⟩ := k
        refine Ex.gfd hq rfl e ?_
        refine Ex.seg hq 5 (j := 8) (L' := [.ref 19, .ref (x1 + 118), pu, .int x3, .int x4, .int x5, .int (x6 + (1 : Int32)), .ref (r9 + 118), .int (0 : Int32), .int v13]) (S' := []) (h' := hpS s8) rfl ?_
        refine Ex.fg (L := [.ref 19, .ref (x1 + 118), pu, .int x3, .int x4, .int x5, .int (x6 + (1 : Int32)), pu, pu, pu]) ⟨Or.inl rfl, ⟨Or.inl rfl, ⟨Or.inl rfl, ⟨Or.inl rfl, ⟨Or.inl rfl, ⟨Or.inl rfl, ⟨Or.inl rfl, ⟨Or.inr ⟨rfl, rfl⟩, ⟨Or.inr ⟨rfl, rfl⟩, ⟨Or.inr ⟨rfl, rfl⟩, trivial⟩⟩⟩⟩⟩⟩⟩⟩⟩⟩ ?_
        exact ih x1 x3 x4 x5 (x6 + (1 : Int32)) s8 k hX62
      · have k := k.2 c
        refine Ex.seg hq 2 (j := 25) (L' := [.ref 19, .ref (x1 + 118), pu, .int x3, .int x4, .int x5, .int x6, .ref (r9 + 118), pu, pu]) (S' := [.int x3, .int x6]) (h' := hpS s8) rfl ?_
        refine Ex.cl hq rfl rfl ?_
        refine Rn.mono (q_184 (d := d + 2) x6 x3 s8 k) ?_
        rintro _ _ ⟨r15, s14, rfl, hzr15, rfl, k⟩
        show Ex sc (d + 3) 54 26 [.ref 19, .ref (x1 + 118), pu, .int x3, .int x4, .int x5, .int x6, .ref (r9 + 118), pu, pu] [.int r15] (hpS s14) _
        refine Ex.i1 hq rfl (fun c => ?_) (fun c => ?_)
        · have k := k.1 c
          refine Ex.seg hq 3 (j := 32) (L' := [.ref 19, .ref (x1 + 118), pu, .int x3, .int x4, .int x5, .int x6, .ref (r9 + 118), .int (0 : Int32), pu]) (S' := [.ref (r9 + 118)]) (h' := hpS s14) rfl ?_
          obtain ⟨v16, e, k⟩ := k
          refine Ex.gfd hq rfl e ?_
          refine Ex.seg hq 5 (j := 8) (L' := [.ref 19, .ref (x1 + 118), pu, .int x3, .int x4, .int x5, .int (x6 + (1 : Int32)), .ref (r9 + 118), .int (0 : Int32), .int v16]) (S' := []) (h' := hpS s14) rfl ?_
          refine Ex.fg (L := [.ref 19, .ref (x1 + 118), pu, .int x3, .int x4, .int x5, .int (x6 + (1 : Int32)), pu, pu, pu]) ⟨Or.inl rfl, ⟨Or.inl rfl, ⟨Or.inl rfl, ⟨Or.inl rfl, ⟨Or.inl rfl, ⟨Or.inl rfl, ⟨Or.inl rfl, ⟨Or.inr ⟨rfl, rfl⟩, ⟨Or.inr ⟨rfl, rfl⟩, ⟨Or.inr ⟨rfl, rfl⟩, trivial⟩⟩⟩⟩⟩⟩⟩⟩⟩⟩ ?_
          exact ih x1 x3 x4 x5 (x6 + (1 : Int32)) s14 k hX62
        · have k := k.2 c
          refine Ex.seg hq 4 (j := 32) (L' := [.ref 19, .ref (x1 + 118), pu, .int x3, .int x4, .int x5, .int x6, .ref (r9 + 118), .int (1 : Int32), pu]) (S' := [.ref (r9 + 118)]) (h' := hpS s14) rfl ?_
          obtain ⟨v17, e, k⟩ := k
          refine Ex.gfd hq rfl e ?_
          refine Ex.seg hq 4 (j := 37) (L' := [.ref 19, .ref (x1 + 118), pu, .int x3, .int x4, .int x5, .int x6, .ref (r9 + 118), .int (1 : Int32), .int v17]) (S' := [.int v17]) (h' := hpS s14) rfl ?_
          refine Ex.i1 hq rfl (fun c => ?_) (fun c => ?_)
          · have k := k.1 c
            refine Ex.seg hq 2 (j := 8) (L' := [.ref 19, .ref (x1 + 118), pu, .int x3, .int x4, .int x5, .int (x6 + (1 : Int32)), .ref (r9 + 118), .int (1 : Int32), .int v17]) (S' := []) (h' := hpS s14) rfl ?_
            refine Ex.fg (L := [.ref 19, .ref (x1 + 118), pu, .int x3, .int x4, .int x5, .int (x6 + (1 : Int32)), pu, pu, pu]) ⟨Or.inl rfl, ⟨Or.inl rfl, ⟨Or.inl rfl, ⟨Or.inl rfl, ⟨Or.inl rfl, ⟨Or.inl rfl, ⟨Or.inl rfl, ⟨Or.inr ⟨rfl, rfl⟩, ⟨Or.inr ⟨rfl, rfl⟩, ⟨Or.inr ⟨rfl, rfl⟩, trivial⟩⟩⟩⟩⟩⟩⟩⟩⟩⟩ ?_
            exact ih x1 x3 x4 x5 (x6 + (1 : Int32)) s14 k hX62
          · have k := k.2 c
            refine Ex.seg hq 2 (j := 40) (L' := [.ref 19, .ref (x1 + 118), pu, .int x3, .int x4, .int x5, .int x6, .ref (r9 + 118), .int (1 : Int32), .int v17]) (S' := [.int x5, .int v17]) (h' := hpS s14) rfl ?_
            refine Ex.i2 hq rfl (fun c => ?_) (fun c => ?_)
            · have k := k.1 c
              refine Ex.seg hq 2 (j := 8) (L' := [.ref 19, .ref (x1 + 118), pu, .int x3, .int x4, .int x5, .int (x6 + (1 : Int32)), .ref (r9 + 118), .int (1 : Int32), .int v17]) (S' := []) (h' := hpS s14) rfl ?_
              refine Ex.fg (L := [.ref 19, .ref (x1 + 118), pu, .int x3, .int x4, .int x5, .int (x6 + (1 : Int32)), pu, pu, pu]) ⟨Or.inl rfl, ⟨Or.inl rfl, ⟨Or.inl rfl, ⟨Or.inl rfl, ⟨Or.inl rfl, ⟨Or.inl rfl, ⟨Or.inl rfl, ⟨Or.inr ⟨rfl, rfl⟩, ⟨Or.inr ⟨rfl, rfl⟩, ⟨Or.inr ⟨rfl, rfl⟩, trivial⟩⟩⟩⟩⟩⟩⟩⟩⟩⟩ ?_
              exact ih x1 x3 x4 x5 (x6 + (1 : Int32)) s14 k hX62
            · have k := k.2 c
              refine Ex.seg hq 3 (j := 44) (L' := [.ref 19, .ref (x1 + 118), pu, .int x3, .int x4, .int x5, .int x6, .ref (r9 + 118), .int (1 : Int32), .int v17]) (S' := [.int v17, .ref 20]) (h' := hpS s14) rfl ?_
              refine Ex.cl hq rfl rfl ?_
              refine Rn.mono (q_299_R20 (d := d + 0) v17 s14 k) ?_
              rintro _ _ ⟨r19, s18, rfl, rfl, k⟩
              show Ex sc (d + 3) 54 45 [.ref 19, .ref (x1 + 118), pu, .int x3, .int x4, .int x5, .int x6, .ref (r9 + 118), .int (1 : Int32), .int v17] [.ref (r19 + 118)] (hpS s18) _
              obtain ⟨f20, e, k⟩ := k
              refine Ex.ccd hq rfl e ?_
              refine Ex.seg hq 1 (j := 47) (L' := [.ref 19, .ref (x1 + 118), pu, .int x3, .int x4, .int x5, .int x6, .ref (r9 + 118), .int (1 : Int32), .int v17]) (S' := [.int x4, .ref (r19 + 118)]) (h' := hpS s18) rfl ?_
              obtain ⟨f23, e, k⟩ := k
              refine Ex.cvd hq rfl rfl e rfl ?_
              refine Rn.mono (q_108 (d := d + 1) r19 x4 s18 k) ?_
              rintro _ _ ⟨r22, s21, rfl, hzr22, rfl, k⟩
              show Ex sc (d + 3) 54 48 [.ref 19, .ref (x1 + 118), pu, .int x3, .int x4, .int x5, .int x6, .ref (r9 + 118), .int (1 : Int32), .int v17] [.int r22] (hpS s21) _
              refine Ex.i1 hq rfl (fun c => ?_) (fun c => ?_)
              · have k := k.1 c
                refine Ex.seg hq 2 (j := 8) (L' := [.ref 19, .ref (x1 + 118), pu, .int x3, .int x4, .int x5, .int (x6 + (1 : Int32)), .ref (r9 + 118), .int (1 : Int32), .int v17]) (S' := []) (h' := hpS s21) rfl ?_
                refine Ex.fg (L := [.ref 19, .ref (x1 + 118), pu, .int x3, .int x4, .int x5, .int (x6 + (1 : Int32)), pu, pu, pu]) ⟨Or.inl rfl, ⟨Or.inl rfl, ⟨Or.inl rfl, ⟨Or.inl rfl, ⟨Or.inl rfl, ⟨Or.inl rfl, ⟨Or.inl rfl, ⟨Or.inr ⟨rfl, rfl⟩, ⟨Or.inr ⟨rfl, rfl⟩, ⟨Or.inr ⟨rfl, rfl⟩, trivial⟩⟩⟩⟩⟩⟩⟩⟩⟩⟩ ?_
                exact ih x1 x3 x4 x5 (x6 + (1 : Int32)) s21 k hX62
              · have k := k.2 c
                refine Ex.seg hq 4 (j := 53) (L' := [.ref 19, .ref (x1 + 118), pu, .int x3, .int x4, .int x5, .int x6, .ref (r9 + 118), .int (1 : Int32), .int v17]) (S' := [.int v17, .ref 21, .int v17, .ref 21]) (h' := hpS s21) rfl ?_
                obtain ⟨hin, k⟩ := k
                refine Ex.ial hq rfl rfl hin ?_
                refine Ex.seg hq 2 (j := 56) (L' := [.ref 19, .ref (x1 + 118), pu, .int x3, .int x4, .int x5, .int x6, .ref (r9 + 118), .int (1 : Int32), .int v17]) (S' := [.ref (r9 + 118), .int (1 : Int32), .int ((s21.2.1 21) (v17).toNatClampNeg), .int v17, .ref 21]) (h' := hpS s21) rfl ?_
                obtain ⟨v24, e, k⟩ := k
                refine Ex.gfd hq rfl e ?_
                refine Ex.seg hq 2 (j := 59) (L' := [.ref 19, .ref (x1 + 118), pu, .int x3, .int x4, .int x5, .int x6, .ref (r9 + 118), .int (1 : Int32), .int v17]) (S' := [.int (((s21.2.1 21) (v17).toNatClampNeg) ||| ((1 : Int32) <<< (v24 &&& 31))), .int v17, .ref 21]) (h' := hpS s21) rfl ?_
                obtain ⟨hin, k⟩ := k
                refine Ex.ias hq rfl rfl hin (h' := hpS (sA s21 21 (upd (s21.2.1 21) (v17).toNatClampNeg (((s21.2.1 21) (v17).toNatClampNeg) ||| ((1 : Int32) <<< (v24 &&& 31)))))) (hset_21 _ _) ?_
                refine Ex.seg hq 2 (j := 8) (L' := [.ref 19, .ref (x1 + 118), pu, .int x3, .int x4, .int x5, .int (x6 + (1 : Int32)), .ref (r9 + 118), .int (1 : Int32), .int v17]) (S' := []) (h' := hpS (sA s21 21 (upd (s21.2.1 21) (v17).toNatClampNeg (((s21.2.1 21) (v17).toNatClampNeg) ||| ((1 : Int32) <<< (v24 &&& 31)))))) rfl ?_
                refine Ex.fg (L := [.ref 19, .ref (x1 + 118), pu, .int x3, .int x4, .int x5, .int (x6 + (1 : Int32)), pu, pu, pu]) ⟨Or.inl rfl, ⟨Or.inl rfl, ⟨Or.inl rfl, ⟨Or.inl rfl, ⟨Or.inl rfl, ⟨Or.inl rfl, ⟨Or.inl rfl, ⟨Or.inr ⟨rfl, rfl⟩, ⟨Or.inr ⟨rfl, rfl⟩, ⟨Or.inr ⟨rfl, rfl⟩, trivial⟩⟩⟩⟩⟩⟩⟩⟩⟩⟩ ?_
                exact ih x1 x3 x4 x5 (x6 + (1 : Int32)) (sA s21 21 (upd (s21.2.1 21) (v17).toNatClampNeg (((s21.2.1 21) (v17).toNatClampNeg) ||| ((1 : Int32) <<< (v24 &&& 31))))) k hX62
/-- RowAuditor$Laws.strikeBelow(LRowAuditor$Text;III)V -/
def w_54 (p1 : Nat) (p2 : Int32) (p3 : Int32) (p4 : Int32) (s : ST) (K : ST → Prop) : Prop := w_297_R20 s (fun r2 s1 => (∃ m, w_54_L8 m p1 p3 p4 (if r2 < p2 then r2 else p2) (0 : Int32) s1 (fun s25 => K s25) K))
theorem q_54 {d : Nat} {K : ST → Prop} (p1 : Nat) (p2 : Int32) (p3 : Int32) (p4 : Int32) (s : ST) (k : w_54 p1 p2 p3 p4 s K) : Rn sc (d + 3) 54 [.ref 19, .ref (p1 + 118), .int p2, .int p3, .int p4] (hpS s) (kV K) := by
  have hq : prog[54]? = some pm54 := rfl
  refine Rn.of (L := [.ref 19, .ref (p1 + 118), .int p2, .int p3, .int p4, pu, pu, pu, pu, pu]) hq rfl rfl ?_
  unfold w_54 at k
  refine Ex.seg hq 3 (j := 3) (L' := [.ref 19, .ref (p1 + 118), .int p2, .int p3, .int p4, pu, pu, pu, pu, pu]) (S' := [.ref 20, .int p2]) (h' := hpS s) rfl ?_
  refine Ex.cl hq rfl rfl ?_
  refine Rn.mono (q_297_R20 (d := d + 2) s k) ?_
  rintro _ _ ⟨r2, s1, rfl, rfl, k⟩
  show Ex sc (d + 3) 54 4 [.ref 19, .ref (p1 + 118), .int p2, .int p3, .int p4, pu, pu, pu, pu, pu] [.int r2, .int p2] (hpS s1) _
  refine Ex.seg hq 4 (j := 8) (L' := [.ref 19, .ref (p1 + 118), .int p2, .int p3, .int p4, .int (if r2 < p2 then r2 else p2), .int (0 : Int32), pu, pu, pu]) (S' := []) (h' := hpS s1) rfl ?_
  obtain ⟨m, k⟩ := k
  refine Ex.fg (L := [.ref 19, .ref (p1 + 118), pu, .int p3, .int p4, .int (if r2 < p2 then r2 else p2), .int (0 : Int32), pu, pu, pu]) ⟨Or.inl rfl, ⟨Or.inl rfl, ⟨Or.inr ⟨rfl, rfl⟩, ⟨Or.inl rfl, ⟨Or.inl rfl, ⟨Or.inl rfl, ⟨Or.inl rfl, ⟨Or.inl rfl, ⟨Or.inl rfl, ⟨Or.inl rfl, trivial⟩⟩⟩⟩⟩⟩⟩⟩⟩⟩ ?_
  refine q_54_L8 (d := d) m p1 p3 p4 (if r2 < p2 then r2 else p2) (0 : Int32) s1 k ?_
  · intro s25 k
    exact Ex.rt hq rfl rfl ⟨s25, rfl, rfl, k⟩
def w_55_L2 : Nat → Nat → Int32 → Int32 → Int32 → ST → (ST → Prop) → (ST → Prop) → (Int32 → ST → Prop) → Prop
  | 0, _, _, _, _, _, _, _, _ => False
  | n + 1, x1, x2, x3, x4, s, X31, X27, K => (∃ v1, pgf s.2.2.2.2 x1 9 0 = some (.ref (v1 + 118)) ∧ (∃ f4, pob s.2.2.2.2 v1 13 = some f4 ∧ w_297 v1 s (fun r3 s2 => ((r3 ≤ x4 → X31  s2) ∧ (¬ (r3 ≤ x4) → (∃ v5, pgf s2.2.2.2.2 x1 9 0 = some (.ref (v5 + 118)) ∧ (∃ f8, pob s2.2.2.2.2 v5 13 = some f8 ∧ w_299 v5 x4 s2 (fun r7 s6 => (∃ f9, pob s6.2.2.2.2 r7 1 = some f9 ∧ (∃ v10, pgf s6.2.2.2.2 r7 1 0 = some (.int v10) ∧ ((¬ v10 = x2 → w_55_L2 n x1 x2 x3 (x4 + (1 : Int32)) s6 X31 X27 K) ∧ (¬ (¬ v10 = x2) → w_184 x4 x3 s6 (fun r12 s11 => ((¬ r12 = 0 → w_55_L2 n x1 x2 x3 (x4 + (1 : Int32)) s11 X31 X27 K) ∧ (¬ (¬ r12 = 0) → (∃ v13, pgf s11.2.2.2.2 r7 1 1 = some (.ref (v13 + 118)) ∧ w_21 v13 s11 (fun r15 s14 => ((r15 = 0 → w_55_L2 n x1 x2 x3 (x4 + (1 : Int32)) s14 X31 X27 K) ∧ (¬ (r15 = 0) → X27  s14)))))))))))))))))))
theorem q_55_L2 {d : Nat} {X31 : ST → Prop} {X27 : ST → Prop} {K : Int32 → ST → Prop} : ∀ (n : Nat) (x1 : Nat) (x2 : Int32) (x3 : Int32) (x4 : Int32) (s : ST), w_55_L2 n x1 x2 x3 x4 s X31 X27 K → (∀ (s : ST), X31  s → Ex sc (d + 3) 55 31 [pu, pu, pu, pu, pu, pu] [] (hpS s) (kZ K)) → (∀ (s : ST), X27  s → Ex sc (d + 3) 55 27 [pu, pu, pu, pu, pu, pu] [] (hpS s) (kZ K)) → Ex sc (d + 3) 55 2 [.ref 19, .ref (x1 + 118), .int x2, .int x3, .int x4, pu] [] (hpS s) (kZ K) := by
  have hq : prog[55]? = some pm55 := rfl
  intro n
  induction n with
  | zero =>
    intro x1 x2 x3 x4 s k
    exact k.elim
  | succ n ih =>
    intro x1 x2 x3 x4 s k hX31 hX27
    rw [w_55_L2] at k
    refine Ex.seg hq 2 (j := 4) (L' := [.ref 19, .ref (x1 + 118), .int x2, .int x3, .int x4, pu]) (S' := [.ref (x1 + 118), .int x4]) (h' := hpS s) rfl ?_
    obtain ⟨v1, e, k⟩ := k
    refine Ex.gfd hq rfl e ?_
    obtain ⟨f4, e, k⟩ := k
    refine Ex.cvd hq rfl rfl e rfl ?_
    refine Rn.mono (q_297 (d := d + 2) v1 s k) ?_
    rintro _ _ ⟨r3, s2, rfl, rfl, k⟩
    show Ex sc (d + 3) 55 6 [.ref 19, .ref (x1 + 118), .int x2, .int x3, .int x4, pu] [.int r3, .int x4] (hpS s2) _
    refine Ex.i2 hq rfl (fun c => ?_) (fun c => ?_)
    · have k := k.1 c
      refine Ex.fg (L := [pu, pu, pu, pu, pu, pu]) ⟨Or.inr ⟨rfl, rfl⟩, ⟨Or.inr ⟨rfl, rfl⟩, ⟨Or.inr ⟨rfl, rfl⟩, ⟨Or.inr ⟨rfl, rfl⟩, ⟨Or.inr ⟨rfl, rfl⟩, ⟨Or.inl rfl, trivial⟩⟩⟩⟩⟩⟩ ?_
      exact hX31  s2 k
    · have k := k.2 c
      refine Ex.seg hq 1 (j := 8) (L' := [.ref 19, .ref (x1 + 118), .int x2, .int x3, .int x4, pu]) (S' := [.ref (x1 + 118)]) (h' := hpS s2) rfl ?_
      obtain ⟨v5, e, k⟩ := k
      refine Ex.gfd hq rfl e ?_
      refine Ex.seg hq 1 (j := 10) (L' := [.ref 19, .ref (x1 + 118), .int x2, .int x3, .int x4, pu]) (S' := [.int x4, .ref (v5 + 118)]) (h' := hpS s2) rfl ?_
      obtain ⟨f8, e, k⟩ := k
      refine Ex.cvd hq rfl rfl e rfl ?_
      refine Rn.mono (q_299 (d := d + 0) v5 x4 s2 k) ?_
      rintro _ _ ⟨r7, s6, rfl, rfl, k⟩
      show Ex sc (d + 3) 55 11 [.ref 19, .ref (x1 + 118), .int x2, .int x3, .int x4, pu] [.ref (r7 + 118)] (hpS s6) _
      obtain ⟨f9, e, k⟩ := k
      refine Ex.ccd hq rfl e ?_
      refine Ex.seg hq 2 (j := 14) (L' := [.ref 19, .ref (x1 + 118), .int x2, .int x3, .int x4, .ref (r7 + 118)]) (S' := [.ref (r7 + 118)]) (h' := hpS s6) rfl ?_
      obtain ⟨v10, e, k⟩ := k
      refine Ex.gfd hq rfl e ?_
      refine Ex.seg hq 1 (j := 16) (L' := [.ref 19, .ref (x1 + 118), .int x2, .int x3, .int x4, .ref (r7 + 118)]) (S' := [.int x2, .int v10]) (h' := hpS s6) rfl ?_
      refine Ex.i2 hq rfl (fun c => ?_) (fun c => ?_)
      · have k := k.1 c
        refine Ex.seg hq 2 (j := 2) (L' := [.ref 19, .ref (x1 + 118), .int x2, .int x3, .int (x4 + (1 : Int32)), .ref (r7 + 118)]) (S' := []) (h' := hpS s6) rfl ?_
        refine Ex.fg (L := [.ref 19, .ref (x1 + 118), .int x2, .int x3, .int (x4 + (1 : Int32)), pu]) ⟨Or.inl rfl, ⟨Or.inl rfl, ⟨Or.inl rfl, ⟨Or.inl rfl, ⟨Or.inl rfl, ⟨Or.inr ⟨rfl, rfl⟩, trivial⟩⟩⟩⟩⟩⟩ ?_
        exact ih x1 x2 x3 (x4 + (1 : Int32)) s6 k hX31 hX27
      · have k := k.2 c
        refine Ex.seg hq 2 (j := 19) (L' := [.ref 19, .ref (x1 + 118), .int x2, .int x3, .int x4, .ref (r7 + 118)]) (S' := [.int x3, .int x4]) (h' := hpS s6) rfl ?_
        refine Ex.cl hq rfl rfl ?_
        refine Rn.mono (q_184 (d := d + 2) x4 x3 s6 k) ?_
        rintro _ _ ⟨r12, s11, rfl, hzr12, rfl, k⟩
        show Ex sc (d + 3) 55 20 [.ref 19, .ref (x1 + 118), .int x2, .int x3, .int x4, .ref (r7 + 118)] [.int r12] (hpS s11) _
        refine Ex.i1 hq rfl (fun c => ?_) (fun c => ?_)
        · have k := k.1 c
          refine Ex.seg hq 2 (j := 2) (L' := [.ref 19, .ref (x1 + 118), .int x2, .int x3, .int (x4 + (1 : Int32)), .ref (r7 + 118)]) (S' := []) (h' := hpS s11) rfl ?_
          refine Ex.fg (L := [.ref 19, .ref (x1 + 118), .int x2, .int x3, .int (x4 + (1 : Int32)), pu]) ⟨Or.inl rfl, ⟨Or.inl rfl, ⟨Or.inl rfl, ⟨Or.inl rfl, ⟨Or.inl rfl, ⟨Or.inr ⟨rfl, rfl⟩, trivial⟩⟩⟩⟩⟩⟩ ?_
          exact ih x1 x2 x3 (x4 + (1 : Int32)) s11 k hX31 hX27
        · have k := k.2 c
          refine Ex.seg hq 3 (j := 24) (L' := [.ref 19, .ref (x1 + 118), .int x2, .int x3, .int x4, .ref (r7 + 118)]) (S' := [.ref (r7 + 118), .ref 16]) (h' := hpS s11) rfl ?_
          obtain ⟨v13, e, k⟩ := k
          refine Ex.gfd hq rfl e ?_
          refine Ex.cl hq rfl rfl ?_
          refine Rn.mono (q_21 (d := d + 1) v13 s11 k) ?_
          rintro _ _ ⟨r15, s14, rfl, hzr15, rfl, k⟩
          show Ex sc (d + 3) 55 26 [.ref 19, .ref (x1 + 118), .int x2, .int x3, .int x4, .ref (r7 + 118)] [.int r15] (hpS s14) _
          refine Ex.i1 hq rfl (fun c => ?_) (fun c => ?_)
          · have k := k.1 c
            refine Ex.seg hq 2 (j := 2) (L' := [.ref 19, .ref (x1 + 118), .int x2, .int x3, .int (x4 + (1 : Int32)), .ref (r7 + 118)]) (S' := []) (h' := hpS s14) rfl ?_
            refine Ex.fg (L := [.ref 19, .ref (x1 + 118), .int x2, .int x3, .int (x4 + (1 : Int32)), pu]) ⟨Or.inl rfl, ⟨Or.inl rfl, ⟨Or.inl rfl, ⟨Or.inl rfl, ⟨Or.inl rfl, ⟨Or.inr ⟨rfl, rfl⟩, trivial⟩⟩⟩⟩⟩⟩ ?_
            exact ih x1 x2 x3 (x4 + (1 : Int32)) s14 k hX31 hX27
          · have k := k.2 c
            refine Ex.fg (L := [pu, pu, pu, pu, pu, pu]) ⟨Or.inr ⟨rfl, rfl⟩, ⟨Or.inr ⟨rfl, rfl⟩, ⟨Or.inr ⟨rfl, rfl⟩, ⟨Or.inr ⟨rfl, rfl⟩, ⟨Or.inr ⟨rfl, rfl⟩, ⟨Or.inr ⟨rfl, rfl⟩, trivial⟩⟩⟩⟩⟩⟩ ?_
            exact hX27  s14 k
/-- RowAuditor$Laws.someHolds(LRowAuditor$Text;II)Z -/
def w_55 (p1 : Nat) (p2 : Int32) (p3 : Int32) (s : ST) (K : Int32 → ST → Prop) : Prop := (∃ m, w_55_L2 m p1 p2 p3 (0 : Int32) s (fun s16 => K (0 : Int32) s16) (fun s17 => K (1 : Int32) s17) K)
theorem q_55 {d : Nat} {K : Int32 → ST → Prop} (p1 : Nat) (p2 : Int32) (p3 : Int32) (s : ST) (k : w_55 p1 p2 p3 s K) : Rn sc (d + 3) 55 [.ref 19, .ref (p1 + 118), .int p2, .int p3] (hpS s) (kZ K) := by
  have hq : prog[55]? = some pm55 := rfl
  refine Rn.of (L := [.ref 19, .ref (p1 + 118), .int p2, .int p3, pu, pu]) hq rfl rfl ?_
  unfold w_55 at k
  refine Ex.seg hq 2 (j := 2) (L' := [.ref 19, .ref (p1 + 118), .int p2, .int p3, .int (0 : Int32), pu]) (S' := []) (h' := hpS s) rfl ?_
  obtain ⟨m, k⟩ := k
  refine q_55_L2 (d := d) m p1 p2 p3 (0 : Int32) s k ?_ ?_
  · intro s16 k
    refine Ex.seg hq 1 (j := 32) (L' := [pu, pu, pu, pu, pu, pu]) (S' := [.int (0 : Int32)]) (h' := hpS s16) rfl ?_
    exact Ex.zr hq rfl rfl (Or.inl rfl) ⟨(0 : Int32), s16, rfl, (Or.inl rfl), rfl, k⟩
  · intro s17 k
    refine Ex.seg hq 1 (j := 28) (L' := [pu, pu, pu, pu, pu, pu]) (S' := [.int (1 : Int32)]) (h' := hpS s17) rfl ?_
    exact Ex.zr hq rfl rfl (Or.inr rfl) ⟨(1 : Int32), s17, rfl, (Or.inr rfl), rfl, k⟩
def w_53_L22 : Nat → Int32 → Int32 → ST → (ST → Prop) → (Int32 → ST → Prop) → (ST → Prop) → (Int32 → ST → Prop) → Prop
  | 0, _, _, _, _, _, _, _ => False
  | n + 1, x2, x3, s, X63, X59, X51, K => ((x3 < 0 → X63  s) ∧ (¬ (x3 < 0) → w_299_R20 x3 s (fun r10 s9 => (∃ f11, pob s9.2.2.2.2 r10 9 = some f11 ∧ (∃ f14, pob s9.2.2.2.2 r10 9 = some f14 ∧ w_108 r10 x2 s9 (fun r13 s12 => ((r13 = 0 → w_53_L22 n x2 (x3 + (-1 : Int32)) s12 X63 X59 X51 K) ∧ (¬ (r13 = 0) → (pin x3 20 = true ∧ w_54 r10 x3 ((s12.2.1 21) (x3).toNatClampNeg) x2 s12 (fun s15 => w_55 r10 (108 : Int32) ((s12.2.1 21) (x3).toNatClampNeg) s15 (fun r18 s17 => ((r18 = 0 → w_55 r10 (114 : Int32) ((s12.2.1 21) (x3).toNatClampNeg) s17 (fun r20 s19 => ((r20 = 0 → w_53_L22 n x2 (x3 + (-1 : Int32)) s19 X63 X59 X51 K) ∧ (¬ (r20 = 0) → X59 x3 s19)))) ∧ (¬ (r18 = 0) → X51  s17)))))))))))))
theorem q_53_L22 {d : Nat} {X63 : ST → Prop} {X59 : Int32 → ST → Prop} {X51 : ST → Prop} {K : Int32 → ST → Prop} : ∀ (n : Nat) (x2 : Int32) (x3 : Int32) (s : ST), w_53_L22 n x2 x3 s X63 X59 X51 K → (∀ (s : ST), X63  s → Ex sc (d + 4) 53 63 [pu, pu, pu, pu, pu, pu] [] (hpS s) (kI K)) → (∀ (y3 : Int32) (s : ST), X59 y3 s → Ex sc (d + 4) 53 59 [pu, pu, pu, .int y3, pu, pu] [] (hpS s) (kI K)) → (∀ (s : ST), X51  s → Ex sc (d + 4) 53 51 [pu, pu, pu, pu, pu, pu] [] (hpS s) (kI K)) → Ex sc (d + 4) 53 22 [.ref 19, pu, .int x2, .int x3, pu, pu] [] (hpS s) (kI K) := by
  have hq : prog[53]? = some pm53 := rfl
  intro n
  induction n with
  | zero =>
    intro x2 x3 s k
    exact k.elim
  | succ n ih =>
    intro x2 x3 s k hX63 hX59 hX51
    rw [w_53_L22] at k
    refine Ex.seg hq 1 (j := 23) (L' := [.ref 19, pu, .int x2, .int x3, pu, pu]) (S' := [.int x3]) (h' := hpS s) rfl ?_
    refine Ex.i1 hq rfl (fun c => ?_) (fun c => ?_)
    · have k := k.1 c
      refine Ex.fg (L := [pu, pu, pu, pu, pu, pu]) ⟨Or.inr ⟨rfl, rfl⟩, ⟨Or.inl rfl, ⟨Or.inr ⟨rfl, rfl⟩, ⟨Or.inr ⟨rfl, rfl⟩, ⟨Or.inl rfl, ⟨Or.inl rfl, trivial⟩⟩⟩⟩⟩⟩ ?_
      exact hX63  s k
    · have k := k.2 c
      refine Ex.seg hq 3 (j := 27) (L' := [.ref 19, pu, .int x2, .int x3, pu, pu]) (S' := [.int x3, .ref 20]) (h' := hpS s) rfl ?_
      refine Ex.cl hq rfl rfl ?_
      refine Rn.mono (q_299_R20 (d := d + 1) x3 s k) ?_
      rintro _ _ ⟨r10, s9, rfl, rfl, k⟩
      show Ex sc (d + 4) 53 28 [.ref 19, pu, .int x2, .int x3, pu, pu] [.ref (r10 + 118)] (hpS s9) _
      obtain ⟨f11, e, k⟩ := k
      refine Ex.ccd hq rfl e ?_
      refine Ex.seg hq 3 (j := 32) (L' := [.ref 19, pu, .int x2, .int x3, .ref (r10 + 118), pu]) (S' := [.int x2, .ref (r10 + 118)]) (h' := hpS s9) rfl ?_
      obtain ⟨f14, e, k⟩ := k
      refine Ex.cvd hq rfl rfl e rfl ?_
      refine Rn.mono (q_108 (d := d + 2) r10 x2 s9 k) ?_
      rintro _ _ ⟨r13, s12, rfl, hzr13, rfl, k⟩
      show Ex sc (d + 4) 53 33 [.ref 19, pu, .int x2, .int x3, .ref (r10 + 118), pu] [.int r13] (hpS s12) _
      refine Ex.i1 hq rfl (fun c => ?_) (fun c => ?_)
      · have k := k.1 c
        refine Ex.seg hq 2 (j := 22) (L' := [.ref 19, pu, .int x2, .int (x3 + (-1 : Int32)), .ref (r10 + 118), pu]) (S' := []) (h' := hpS s12) rfl ?_
        refine Ex.fg (L := [.ref 19, pu, .int x2, .int (x3 + (-1 : Int32)), pu, pu]) ⟨Or.inl rfl, ⟨Or.inl rfl, ⟨Or.inl rfl, ⟨Or.inl rfl, ⟨Or.inr ⟨rfl, rfl⟩, ⟨Or.inl rfl, trivial⟩⟩⟩⟩⟩⟩ ?_
        exact ih x2 (x3 + (-1 : Int32)) s12 k hX63 hX59 hX51
      · have k := k.2 c
        refine Ex.seg hq 3 (j := 37) (L' := [.ref 19, pu, .int x2, .int x3, .ref (r10 + 118), pu]) (S' := [.int x3, .ref 21]) (h' := hpS s12) rfl ?_
        obtain ⟨hin, k⟩ := k
        refine Ex.ial hq rfl rfl hin ?_
        refine Ex.seg hq 6 (j := 44) (L' := [.ref 19, pu, .int x2, .int x3, .ref (r10 + 118), .int ((s12.2.1 21) (x3).toNatClampNeg)]) (S' := [.int x2, .int ((s12.2.1 21) (x3).toNatClampNeg), .int x3, .ref (r10 + 118), .ref 19]) (h' := hpS s12) rfl ?_
        refine Ex.cl hq rfl rfl ?_
        refine Rn.mono (q_54 (d := d + 0) r10 x3 ((s12.2.1 21) (x3).toNatClampNeg) x2 s12 k) ?_
        rintro _ _ ⟨s15, rfl, rfl, k⟩
        show Ex sc (d + 4) 53 45 [.ref 19, pu, .int x2, .int x3, .ref (r10 + 118), .int ((s12.2.1 21) (x3).toNatClampNeg)] [] (hpS s15) _
        refine Ex.seg hq 4 (j := 49) (L' := [.ref 19, pu, .int x2, .int x3, .ref (r10 + 118), .int ((s12.2.1 21) (x3).toNatClampNeg)]) (S' := [.int ((s12.2.1 21) (x3).toNatClampNeg), .int (108 : Int32), .ref (r10 + 118), .ref 19]) (h' := hpS s15) rfl ?_
        refine Ex.cl hq rfl rfl ?_
        refine Rn.mono (q_55 (d := d + 0) r10 (108 : Int32) ((s12.2.1 21) (x3).toNatClampNeg) s15 k) ?_
        rintro _ _ ⟨r18, s17, rfl, hzr18, rfl, k⟩
        show Ex sc (d + 4) 53 50 [.ref 19, pu, .int x2, .int x3, .ref (r10 + 118), .int ((s12.2.1 21) (x3).toNatClampNeg)] [.int r18] (hpS s17) _
        refine Ex.i1 hq rfl (fun c => ?_) (fun c => ?_)
        · have k := k.1 c
          refine Ex.seg hq 4 (j := 57) (L' := [.ref 19, pu, .int x2, .int x3, .ref (r10 + 118), .int ((s12.2.1 21) (x3).toNatClampNeg)]) (S' := [.int ((s12.2.1 21) (x3).toNatClampNeg), .int (114 : Int32), .ref (r10 + 118), .ref 19]) (h' := hpS s17) rfl ?_
          refine Ex.cl hq rfl rfl ?_
          refine Rn.mono (q_55 (d := d + 0) r10 (114 : Int32) ((s12.2.1 21) (x3).toNatClampNeg) s17 k) ?_
          rintro _ _ ⟨r20, s19, rfl, hzr20, rfl, k⟩
          show Ex sc (d + 4) 53 58 [.ref 19, pu, .int x2, .int x3, .ref (r10 + 118), .int ((s12.2.1 21) (x3).toNatClampNeg)] [.int r20] (hpS s19) _
          refine Ex.i1 hq rfl (fun c => ?_) (fun c => ?_)
          · have k := k.1 c
            refine Ex.seg hq 2 (j := 22) (L' := [.ref 19, pu, .int x2, .int (x3 + (-1 : Int32)), .ref (r10 + 118), .int ((s12.2.1 21) (x3).toNatClampNeg)]) (S' := []) (h' := hpS s19) rfl ?_
            refine Ex.fg (L := [.ref 19, pu, .int x2, .int (x3 + (-1 : Int32)), pu, pu]) ⟨Or.inl rfl, ⟨Or.inl rfl, ⟨Or.inl rfl, ⟨Or.inl rfl, ⟨Or.inr ⟨rfl, rfl⟩, ⟨Or.inr ⟨rfl, rfl⟩, trivial⟩⟩⟩⟩⟩⟩ ?_
            exact ih x2 (x3 + (-1 : Int32)) s19 k hX63 hX59 hX51
          · have k := k.2 c
            refine Ex.fg (L := [pu, pu, pu, .int x3, pu, pu]) ⟨Or.inr ⟨rfl, rfl⟩, ⟨Or.inl rfl, ⟨Or.inr ⟨rfl, rfl⟩, ⟨Or.inl rfl, ⟨Or.inr ⟨rfl, rfl⟩, ⟨Or.inr ⟨rfl, rfl⟩, trivial⟩⟩⟩⟩⟩⟩ ?_
            exact hX59 x3 s19 k
        · have k := k.2 c
          refine Ex.fg (L := [pu, pu, pu, pu, pu, pu]) ⟨Or.inr ⟨rfl, rfl⟩, ⟨Or.inl rfl, ⟨Or.inr ⟨rfl, rfl⟩, ⟨Or.inr ⟨rfl, rfl⟩, ⟨Or.inr ⟨rfl, rfl⟩, ⟨Or.inr ⟨rfl, rfl⟩, trivial⟩⟩⟩⟩⟩⟩ ?_
          exact hX51  s17 k
/-- RowAuditor$Laws.breaker(I)I -/
def w_53 (p1 : Int32) (s : ST) (K : Int32 → ST → Prop) : Prop := w_302_R21 (0 : Int32) s (fun s1 => w_20 p1 s1 (fun s3 => w_9 p1 (3 : Int32) s3 (fun r6 s5 => w_297_R20 s5 (fun r8 s7 => (∃ m, w_53_L22 m r6 ((if (20 : Int32) < r8 then (20 : Int32) else r8) - (1 : Int32)) s7 (fun s21 => K (-2 : Int32) s21) (fun y3 s22 => K y3 s22) (fun s23 => K (-2 : Int32) s23) K)))))
theorem q_53 {d : Nat} {K : Int32 → ST → Prop} (p1 : Int32) (s : ST) (k : w_53 p1 s K) : Rn sc (d + 4) 53 [.ref 19, .int p1] (hpS s) (kI K) := by
  have hq : prog[53]? = some pm53 := rfl
  refine Rn.of (L := [.ref 19, .int p1, pu, pu, pu, pu]) hq rfl rfl ?_
  unfold w_53 at k
  refine Ex.seg hq 3 (j := 3) (L' := [.ref 19, .int p1, pu, pu, pu, pu]) (S' := [.int (0 : Int32), .ref 21]) (h' := hpS s) rfl ?_
  refine Ex.cl hq rfl rfl ?_
  refine Rn.mono (q_302_R21 (d := d + 3) (0 : Int32) s k) ?_
  rintro _ _ ⟨s1, rfl, rfl, k⟩
  show Ex sc (d + 4) 53 4 [.ref 19, .int p1, pu, pu, pu, pu] [] (hpS s1) _
  refine Ex.seg hq 3 (j := 7) (L' := [.ref 19, .int p1, pu, pu, pu, pu]) (S' := [.int p1, .ref 16]) (h' := hpS s1) rfl ?_
  refine Ex.cl hq rfl rfl ?_
  refine Rn.mono (q_20 (d := d + 1) p1 s1 k) ?_
  rintro _ _ ⟨s3, rfl, rfl, k⟩
  show Ex sc (d + 4) 53 8 [.ref 19, .int p1, pu, pu, pu, pu] [] (hpS s3) _
  refine Ex.seg hq 4 (j := 12) (L' := [.ref 19, .int p1, pu, pu, pu, pu]) (S' := [.int (3 : Int32), .int p1, .ref 1]) (h' := hpS s3) rfl ?_
  refine Ex.cl hq rfl rfl ?_
  refine Rn.mono (q_9 (d := d + 3) p1 (3 : Int32) s3 k) ?_
  rintro _ _ ⟨r6, s5, rfl, rfl, k⟩
  show Ex sc (d + 4) 53 13 [.ref 19, .int p1, pu, pu, pu, pu] [.int r6] (hpS s5) _
  refine Ex.seg hq 3 (j := 16) (L' := [.ref 19, .int p1, .int r6, pu, pu, pu]) (S' := [.ref 20]) (h' := hpS s5) rfl ?_
  refine Ex.cl hq rfl rfl ?_
  refine Rn.mono (q_297_R20 (d := d + 3) s5 k) ?_
  rintro _ _ ⟨r8, s7, rfl, rfl, k⟩
  show Ex sc (d + 4) 53 17 [.ref 19, .int p1, .int r6, pu, pu, pu] [.int r8] (hpS s7) _
  refine Ex.seg hq 5 (j := 22) (L' := [.ref 19, .int p1, .int r6, .int ((if (20 : Int32) < r8 then (20 : Int32) else r8) - (1 : Int32)), pu, pu]) (S' := []) (h' := hpS s7) rfl ?_
  obtain ⟨m, k⟩ := k
  refine Ex.fg (L := [.ref 19, pu, .int r6, .int ((if (20 : Int32) < r8 then (20 : Int32) else r8) - (1 : Int32)), pu, pu]) ⟨Or.inl rfl, ⟨Or.inr ⟨rfl, rfl⟩, ⟨Or.inl rfl, ⟨Or.inl rfl, ⟨Or.inl rfl, ⟨Or.inl rfl, trivial⟩⟩⟩⟩⟩⟩ ?_
  refine q_53_L22 (d := d) m r6 ((if (20 : Int32) < r8 then (20 : Int32) else r8) - (1 : Int32)) s7 k ?_ ?_ ?_
  · intro s21 k
    refine Ex.seg hq 1 (j := 64) (L' := [pu, pu, pu, pu, pu, pu]) (S' := [.int (-2 : Int32)]) (h' := hpS s21) rfl ?_
    exact Ex.rt hq rfl rfl ⟨(-2 : Int32), s21, rfl, rfl, k⟩
  · intro y3 s22 k
    refine Ex.seg hq 1 (j := 60) (L' := [pu, pu, pu, .int y3, pu, pu]) (S' := [.int y3]) (h' := hpS s22) rfl ?_
    exact Ex.rt hq rfl rfl ⟨y3, s22, rfl, rfl, k⟩
  · intro s23 k
    refine Ex.seg hq 1 (j := 52) (L' := [pu, pu, pu, pu, pu, pu]) (S' := [.int (-2 : Int32)]) (h' := hpS s23) rfl ?_
    exact Ex.rt hq rfl rfl ⟨(-2 : Int32), s23, rfl, rfl, k⟩
/-- RowAuditor$Laws.isFinding(I)Z -/
def w_56 (p1 : Int32) (s : ST) (K : Int32 → ST → Prop) : Prop := w_9 p1 (10 : Int32) s (fun r2 s1 => ((r2 = (-1 : Int32) → w_118 p1 s1 (fun r4 s3 => ((r4 = 0 → K (0 : Int32) s3) ∧ (¬ (r4 = 0) → w_53 p1 s3 (fun r6 s5 => ((r6 = (-2 : Int32) → K (0 : Int32) s5) ∧ (¬ (r6 = (-2 : Int32)) → K (1 : Int32) s5))))))) ∧ (¬ (r2 = (-1 : Int32)) → (((s1.1 800) < r2 → w_118 p1 s1 (fun r8 s7 => ((r8 = 0 → K (0 : Int32) s7) ∧ (¬ (r8 = 0) → w_53 p1 s7 (fun r10 s9 => ((r10 = (-2 : Int32) → K (0 : Int32) s9) ∧ (¬ (r10 = (-2 : Int32)) → K (1 : Int32) s9))))))) ∧ (¬ ((s1.1 800) < r2) → w_118 p1 s1 (fun r12 s11 => ((r12 = 0 → K (0 : Int32) s11) ∧ (¬ (r12 = 0) → K (0 : Int32) s11))))))))
theorem q_56 {d : Nat} {K : Int32 → ST → Prop} (p1 : Int32) (s : ST) (k : w_56 p1 s K) : Rn sc (d + 5) 56 [.ref 19, .int p1] (hpS s) (kZ K) := by
  have hq : prog[56]? = some pm56 := rfl
  refine Rn.of (L := [.ref 19, .int p1, pu, pu]) hq rfl rfl ?_
  unfold w_56 at k
  refine Ex.seg hq 4 (j := 4) (L' := [.ref 19, .int p1, pu, pu]) (S' := [.int (10 : Int32), .int p1, .ref 1]) (h' := hpS s) rfl ?_
  refine Ex.cl hq rfl rfl ?_
  refine Rn.mono (q_9 (d := d + 4) p1 (10 : Int32) s k) ?_
  rintro _ _ ⟨r2, s1, rfl, rfl, k⟩
  show Ex sc (d + 5) 56 5 [.ref 19, .int p1, pu, pu] [.int r2] (hpS s1) _
  refine Ex.seg hq 3 (j := 8) (L' := [.ref 19, .int p1, .int r2, pu]) (S' := [.int (-1 : Int32), .int r2]) (h' := hpS s1) rfl ?_
  refine Ex.i2 hq rfl (fun c => ?_) (fun c => ?_)
  · have k := k.1 c
    refine Ex.seg hq 5 (j := 21) (L' := [.ref 19, .int p1, .int r2, .int (0 : Int32)]) (S' := [.int p1, .ref 8]) (h' := hpS s1) rfl ?_
    refine Ex.cl hq rfl rfl ?_
    refine Rn.mono (q_118 (d := d + 4) p1 s1 k) ?_
    rintro _ _ ⟨r4, s3, rfl, hzr4, rfl, k⟩
    show Ex sc (d + 5) 56 22 [.ref 19, .int p1, .int r2, .int (0 : Int32)] [.int r4] (hpS s3) _
    refine Ex.i1 hq rfl (fun c => ?_) (fun c => ?_)
    · have k := k.1 c
      refine Ex.seg hq 1 (j := 33) (L' := [.ref 19, .int p1, .int r2, .int (0 : Int32)]) (S' := [.int (0 : Int32)]) (h' := hpS s3) rfl ?_
      exact Ex.zr hq rfl rfl (Or.inl rfl) ⟨(0 : Int32), s3, rfl, (Or.inl rfl), rfl, k⟩
    · have k := k.2 c
      refine Ex.seg hq 4 (j := 27) (L' := [.ref 19, .int p1, .int r2, .int (0 : Int32)]) (S' := [.int p1, .ref 19]) (h' := hpS s3) rfl ?_
      refine Ex.cl hq rfl rfl ?_
      refine Rn.mono (q_53 (d := d + 0) p1 s3 k) ?_
      rintro _ _ ⟨r6, s5, rfl, rfl, k⟩
      show Ex sc (d + 5) 56 28 [.ref 19, .int p1, .int r2, .int (0 : Int32)] [.int r6] (hpS s5) _
      refine Ex.seg hq 1 (j := 29) (L' := [.ref 19, .int p1, .int r2, .int (0 : Int32)]) (S' := [.int (-2 : Int32), .int r6]) (h' := hpS s5) rfl ?_
      refine Ex.i2 hq rfl (fun c => ?_) (fun c => ?_)
      · have k := k.1 c
        refine Ex.seg hq 1 (j := 33) (L' := [.ref 19, .int p1, .int r2, .int (0 : Int32)]) (S' := [.int (0 : Int32)]) (h' := hpS s5) rfl ?_
        exact Ex.zr hq rfl rfl (Or.inl rfl) ⟨(0 : Int32), s5, rfl, (Or.inl rfl), rfl, k⟩
      · have k := k.2 c
        refine Ex.seg hq 2 (j := 33) (L' := [.ref 19, .int p1, .int r2, .int (0 : Int32)]) (S' := [.int (1 : Int32)]) (h' := hpS s5) rfl ?_
        exact Ex.zr hq rfl rfl (Or.inr rfl) ⟨(1 : Int32), s5, rfl, (Or.inr rfl), rfl, k⟩
  · have k := k.2 c
    refine Ex.seg hq 4 (j := 13) (L' := [.ref 19, .int p1, .int r2, pu]) (S' := [.int (s1.1 800), .int r2]) (h' := hpS s1) rfl ?_
    refine Ex.i2 hq rfl (fun c => ?_) (fun c => ?_)
    · have k := k.1 c
      refine Ex.seg hq 5 (j := 21) (L' := [.ref 19, .int p1, .int r2, .int (0 : Int32)]) (S' := [.int p1, .ref 8]) (h' := hpS s1) rfl ?_
      refine Ex.cl hq rfl rfl ?_
      refine Rn.mono (q_118 (d := d + 4) p1 s1 k) ?_
      rintro _ _ ⟨r8, s7, rfl, hzr8, rfl, k⟩
      show Ex sc (d + 5) 56 22 [.ref 19, .int p1, .int r2, .int (0 : Int32)] [.int r8] (hpS s7) _
      refine Ex.i1 hq rfl (fun c => ?_) (fun c => ?_)
      · have k := k.1 c
        refine Ex.seg hq 1 (j := 33) (L' := [.ref 19, .int p1, .int r2, .int (0 : Int32)]) (S' := [.int (0 : Int32)]) (h' := hpS s7) rfl ?_
        exact Ex.zr hq rfl rfl (Or.inl rfl) ⟨(0 : Int32), s7, rfl, (Or.inl rfl), rfl, k⟩
      · have k := k.2 c
        refine Ex.seg hq 4 (j := 27) (L' := [.ref 19, .int p1, .int r2, .int (0 : Int32)]) (S' := [.int p1, .ref 19]) (h' := hpS s7) rfl ?_
        refine Ex.cl hq rfl rfl ?_
        refine Rn.mono (q_53 (d := d + 0) p1 s7 k) ?_
        rintro _ _ ⟨r10, s9, rfl, rfl, k⟩
        show Ex sc (d + 5) 56 28 [.ref 19, .int p1, .int r2, .int (0 : Int32)] [.int r10] (hpS s9) _
        refine Ex.seg hq 1 (j := 29) (L' := [.ref 19, .int p1, .int r2, .int (0 : Int32)]) (S' := [.int (-2 : Int32), .int r10]) (h' := hpS s9) rfl ?_
        refine Ex.i2 hq rfl (fun c => ?_) (fun c => ?_)
        · have k := k.1 c
          refine Ex.seg hq 1 (j := 33) (L' := [.ref 19, .int p1, .int r2, .int (0 : Int32)]) (S' := [.int (0 : Int32)]) (h' := hpS s9) rfl ?_
          exact Ex.zr hq rfl rfl (Or.inl rfl) ⟨(0 : Int32), s9, rfl, (Or.inl rfl), rfl, k⟩
        · have k := k.2 c
          refine Ex.seg hq 2 (j := 33) (L' := [.ref 19, .int p1, .int r2, .int (0 : Int32)]) (S' := [.int (1 : Int32)]) (h' := hpS s9) rfl ?_
          exact Ex.zr hq rfl rfl (Or.inr rfl) ⟨(1 : Int32), s9, rfl, (Or.inr rfl), rfl, k⟩
    · have k := k.2 c
      refine Ex.seg hq 6 (j := 21) (L' := [.ref 19, .int p1, .int r2, .int (1 : Int32)]) (S' := [.int p1, .ref 8]) (h' := hpS s1) rfl ?_
      refine Ex.cl hq rfl rfl ?_
      refine Rn.mono (q_118 (d := d + 4) p1 s1 k) ?_
      rintro _ _ ⟨r12, s11, rfl, hzr12, rfl, k⟩
      show Ex sc (d + 5) 56 22 [.ref 19, .int p1, .int r2, .int (1 : Int32)] [.int r12] (hpS s11) _
      refine Ex.i1 hq rfl (fun c => ?_) (fun c => ?_)
      · have k := k.1 c
        refine Ex.seg hq 1 (j := 33) (L' := [.ref 19, .int p1, .int r2, .int (1 : Int32)]) (S' := [.int (0 : Int32)]) (h' := hpS s11) rfl ?_
        exact Ex.zr hq rfl rfl (Or.inl rfl) ⟨(0 : Int32), s11, rfl, (Or.inl rfl), rfl, k⟩
      · have k := k.2 c
        refine Ex.seg hq 3 (j := 33) (L' := [.ref 19, .int p1, .int r2, .int (1 : Int32)]) (S' := [.int (0 : Int32)]) (h' := hpS s11) rfl ?_
        exact Ex.zr hq rfl rfl (Or.inl rfl) ⟨(0 : Int32), s11, rfl, (Or.inl rfl), rfl, k⟩
def w_57_L4 : Nat → Int32 → Int32 → ST → (Int32 → ST → Prop) → (Int32 → ST → Prop) → Prop
  | 0, _, _, _, _, _ => False
  | n + 1, x1, x2, s, X19, K => (((s.1 801) ≤ x2 → X19 x1 s) ∧ (¬ ((s.1 801) ≤ x2) → w_123 x2 s (fun r2 s1 => w_56 r2 s1 (fun r4 s3 => ((r4 = 0 → w_57_L4 n x1 (x2 + (1 : Int32)) s3 X19 K) ∧ (¬ (r4 = 0) → w_57_L4 n (x1 + (1 : Int32)) (x2 + (1 : Int32)) s3 X19 K))))))
theorem q_57_L4 {d : Nat} {X19 : Int32 → ST → Prop} {K : Int32 → ST → Prop} : ∀ (n : Nat) (x1 : Int32) (x2 : Int32) (s : ST), w_57_L4 n x1 x2 s X19 K → (∀ (y1 : Int32) (s : ST), X19 y1 s → Ex sc (d + 6) 57 19 [pu, .int y1, pu] [] (hpS s) (kI K)) → Ex sc (d + 6) 57 4 [.ref 19, .int x1, .int x2] [] (hpS s) (kI K) := by
  have hq : prog[57]? = some pm57 := rfl
  intro n
  induction n with
  | zero =>
    intro x1 x2 s k
    exact k.elim
  | succ n ih =>
    intro x1 x2 s k hX19
    rw [w_57_L4] at k
    refine Ex.seg hq 4 (j := 8) (L' := [.ref 19, .int x1, .int x2]) (S' := [.int (s.1 801), .int x2]) (h' := hpS s) rfl ?_
    refine Ex.i2 hq rfl (fun c => ?_) (fun c => ?_)
    · have k := k.1 c
      refine Ex.fg (L := [pu, .int x1, pu]) ⟨Or.inr ⟨rfl, rfl⟩, ⟨Or.inl rfl, ⟨Or.inr ⟨rfl, rfl⟩, trivial⟩⟩⟩ ?_
      exact hX19 x1 s k
    · have k := k.2 c
      refine Ex.seg hq 4 (j := 13) (L' := [.ref 19, .int x1, .int x2]) (S' := [.int x2, .ref 8, .ref 19]) (h' := hpS s) rfl ?_
      refine Ex.cl hq rfl rfl ?_
      refine Rn.mono (q_123 (d := d + 5) x2 s k) ?_
      rintro _ _ ⟨r2, s1, rfl, rfl, k⟩
      show Ex sc (d + 6) 57 14 [.ref 19, .int x1, .int x2] [.int r2, .ref 19] (hpS s1) _
      refine Ex.cl hq rfl rfl ?_
      refine Rn.mono (q_56 (d := d + 0) r2 s1 k) ?_
      rintro _ _ ⟨r4, s3, rfl, hzr4, rfl, k⟩
      show Ex sc (d + 6) 57 15 [.ref 19, .int x1, .int x2] [.int r4] (hpS s3) _
      refine Ex.i1 hq rfl (fun c => ?_) (fun c => ?_)
      · have k := k.1 c
        refine Ex.seg hq 2 (j := 4) (L' := [.ref 19, .int x1, .int (x2 + (1 : Int32))]) (S' := []) (h' := hpS s3) rfl ?_
        exact ih x1 (x2 + (1 : Int32)) s3 k hX19
      · have k := k.2 c
        refine Ex.seg hq 3 (j := 4) (L' := [.ref 19, .int (x1 + (1 : Int32)), .int (x2 + (1 : Int32))]) (S' := []) (h' := hpS s3) rfl ?_
        exact ih (x1 + (1 : Int32)) (x2 + (1 : Int32)) s3 k hX19
/-- RowAuditor$Laws.countFindings()I -/
def w_57  (s : ST) (K : Int32 → ST → Prop) : Prop := (∃ m, w_57_L4 m (0 : Int32) (0 : Int32) s (fun y1 s5 => K y1 s5) K)
theorem q_57 {d : Nat} {K : Int32 → ST → Prop}  (s : ST) (k : w_57  s K) : Rn sc (d + 6) 57 [.ref 19] (hpS s) (kI K) := by
  have hq : prog[57]? = some pm57 := rfl
  refine Rn.of (L := [.ref 19, pu, pu]) hq rfl rfl ?_
  unfold w_57 at k
  refine Ex.seg hq 4 (j := 4) (L' := [.ref 19, .int (0 : Int32), .int (0 : Int32)]) (S' := []) (h' := hpS s) rfl ?_
  obtain ⟨m, k⟩ := k
  refine q_57_L4 (d := d) m (0 : Int32) (0 : Int32) s k ?_
  · intro y1 s5 k
    refine Ex.seg hq 1 (j := 20) (L' := [pu, .int y1, pu]) (S' := [.int y1]) (h' := hpS s5) rfl ?_
    exact Ex.rt hq rfl rfl ⟨y1, s5, rfl, rfl, k⟩
/-- RowAuditor$Parser.begin(I)V -/
def w_59 (p1 : Int32) (s : ST) (K : ST → Prop) : Prop := K (sI (sI (sI (sI s 3502 (if (Int32.ofNat 200) < p1 then (Int32.ofNat 200) else p1)) 3504 (0 : Int32)) 3505 (0 : Int32)) 3506 (0 : Int32))
theorem q_59 {d : Nat} {K : ST → Prop} (p1 : Int32) (s : ST) (k : w_59 p1 s K) : Rn sc (d + 1) 59 [.ref 35, .int p1] (hpS s) (kV K) := by
  have hq : prog[59]? = some pm59 := rfl
  refine Rn.of (L := [.ref 35, .int p1]) hq rfl rfl ?_
  unfold w_59 at k
  refine Ex.seg hq 16 (j := 16) (L' := [.ref 35, .int p1]) (S' := []) (h' := hpS (sI (sI (sI (sI s 3502 (if (Int32.ofNat 200) < p1 then (Int32.ofNat 200) else p1)) 3504 (0 : Int32)) 3505 (0 : Int32)) 3506 (0 : Int32))) rfl ?_
  exact Ex.rt hq rfl rfl ⟨(sI (sI (sI (sI s 3502 (if (Int32.ofNat 200) < p1 then (Int32.ofNat 200) else p1)) 3504 (0 : Int32)) 3505 (0 : Int32)) 3506 (0 : Int32)), rfl, rfl, k⟩
/-- RowAuditor$Parser.isFaulty()Z -/
def w_60  (s : ST) (K : Int32 → ST → Prop) : Prop := (((s.1 3505) = 0 → K (0 : Int32) s) ∧ (¬ ((s.1 3505) = 0) → K (1 : Int32) s))
theorem q_60 {d : Nat} {K : Int32 → ST → Prop}  (s : ST) (k : w_60  s K) : Rn sc (d + 0) 60 [.ref 35] (hpS s) (kZ K) := by
  have hq : prog[60]? = some pm60 := rfl
  refine Rn.of (L := [.ref 35]) hq rfl rfl ?_
  unfold w_60 at k
  refine Ex.seg hq 2 (j := 2) (L' := [.ref 35]) (S' := [.int (s.1 3505)]) (h' := hpS s) rfl ?_
  refine Ex.i1 hq rfl (fun c => ?_) (fun c => ?_)
  · have k := k.1 c
    refine Ex.seg hq 1 (j := 6) (L' := [.ref 35]) (S' := [.int (0 : Int32)]) (h' := hpS s) rfl ?_
    exact Ex.zr hq rfl rfl (Or.inl rfl) ⟨(0 : Int32), s, rfl, (Or.inl rfl), rfl, k⟩
  · have k := k.2 c
    refine Ex.seg hq 2 (j := 6) (L' := [.ref 35]) (S' := [.int (1 : Int32)]) (h' := hpS s) rfl ?_
    exact Ex.zr hq rfl rfl (Or.inr rfl) ⟨(1 : Int32), s, rfl, (Or.inr rfl), rfl, k⟩
/-- RowAuditor$Parser.faultAnswer()I -/
def w_61  (s : ST) (K : Int32 → ST → Prop) : Prop := K (((-1000 : Int32) * (s.1 3505)) - (s.1 3506)) s
theorem q_61 {d : Nat} {K : Int32 → ST → Prop}  (s : ST) (k : w_61  s K) : Rn sc (d + 0) 61 [.ref 35] (hpS s) (kI K) := by
  have hq : prog[61]? = some pm61 := rfl
  refine Rn.of (L := [.ref 35]) hq rfl rfl ?_
  unfold w_61 at k
  refine Ex.seg hq 7 (j := 7) (L' := [.ref 35]) (S' := [.int (((-1000 : Int32) * (s.1 3505)) - (s.1 3506))]) (h' := hpS s) rfl ?_
  exact Ex.rt hq rfl rfl ⟨(((-1000 : Int32) * (s.1 3505)) - (s.1 3506)), s, rfl, rfl, k⟩
/-- RowAuditor$Text.<init>(II)V -/
def w_107 (p0 : Nat) (p1 : Int32) (p2 : Int32) (s : ST) (K : ST → Prop) : Prop := w_294 s.2.2.2.2.length (sD s (s.2.2.2.2 ++ [(Sum.inr (13, pD13) : PC)])) (fun s1 => (∃ f3, pob s1.2.2.2.2 p0 9 = some f3 ∧ 0 < f3.length ∧ (∃ f4, pob (s1.2.2.2.2.set p0 (.inr (9, f3.set 0 (.ref (s.2.2.2.2.length + 118))))) p0 9 = some f4 ∧ 1 < f4.length ∧ (∃ f5, pob ((s1.2.2.2.2.set p0 (.inr (9, f3.set 0 (.ref (s.2.2.2.2.length + 118))))).set p0 (.inr (9, f4.set 1 (.int p1)))) p0 9 = some f5 ∧ 2 < f5.length ∧ K (sD s1 (((s1.2.2.2.2.set p0 (.inr (9, f3.set 0 (.ref (s.2.2.2.2.length + 118))))).set p0 (.inr (9, f4.set 1 (.int p1)))).set p0 (.inr (9, f5.set 2 (.int p2)))))))))
theorem q_107 {d : Nat} {K : ST → Prop} (p0 : Nat) (p1 : Int32) (p2 : Int32) (s : ST) (k : w_107 p0 p1 p2 s K) : Rn sc (d + 4) 107 [.ref (p0 + 118), .int p1, .int p2] (hpS s) (kV K) := by
  have hq : prog[107]? = some pm107 := rfl
  refine Rn.of (L := [.ref (p0 + 118), .int p1, .int p2]) hq rfl rfl ?_
  unfold w_107 at k
  refine Ex.seg hq 3 (j := 3) (L' := [.ref (p0 + 118), .int p1, .int p2]) (S' := [.ref (p0 + 118)]) (h' := hpS s) rfl ?_
  refine Ex.nwd hq rfl rfl ?_
  show Ex sc (d + 4) 107 4 [.ref (p0 + 118), .int p1, .int p2] [.ref (s.2.2.2.2.length + 118), .ref (p0 + 118)] (hpS (sD s (s.2.2.2.2 ++ [(Sum.inr (13, pD13) : PC)]))) _
  refine Ex.seg hq 1 (j := 5) (L' := [.ref (p0 + 118), .int p1, .int p2]) (S' := [.ref (s.2.2.2.2.length + 118), .ref (s.2.2.2.2.length + 118), .ref (p0 + 118)]) (h' := hpS (sD s (s.2.2.2.2 ++ [(Sum.inr (13, pD13) : PC)]))) rfl ?_
  refine Ex.cl hq rfl rfl ?_
  refine Rn.mono (q_294 (d := d + 0) s.2.2.2.2.length (sD s (s.2.2.2.2 ++ [(Sum.inr (13, pD13) : PC)])) k) ?_
  rintro _ _ ⟨s1, rfl, rfl, k⟩
  show Ex sc (d + 4) 107 6 [.ref (p0 + 118), .int p1, .int p2] [.ref (s.2.2.2.2.length + 118), .ref (p0 + 118)] (hpS s1) _
  obtain ⟨f3, e, hk, k⟩ := k
  refine Ex.pfd hq rfl e hk rfl ?_
  show Ex sc (d + 4) 107 7 [.ref (p0 + 118), .int p1, .int p2] [] (hpS (sD s1 (s1.2.2.2.2.set p0 (.inr (9, f3.set 0 (.ref (s.2.2.2.2.length + 118))))))) _
  refine Ex.seg hq 2 (j := 9) (L' := [.ref (p0 + 118), .int p1, .int p2]) (S' := [.int p1, .ref (p0 + 118)]) (h' := hpS (sD s1 (s1.2.2.2.2.set p0 (.inr (9, f3.set 0 (.ref (s.2.2.2.2.length + 118))))))) rfl ?_
  obtain ⟨f4, e, hk, k⟩ := k
  refine Ex.pfd hq rfl e hk rfl ?_
  show Ex sc (d + 4) 107 10 [.ref (p0 + 118), .int p1, .int p2] [] (hpS (sD s1 ((s1.2.2.2.2.set p0 (.inr (9, f3.set 0 (.ref (s.2.2.2.2.length + 118))))).set p0 (.inr (9, f4.set 1 (.int p1)))))) _
  refine Ex.seg hq 2 (j := 12) (L' := [.ref (p0 + 118), .int p1, .int p2]) (S' := [.int p2, .ref (p0 + 118)]) (h' := hpS (sD s1 ((s1.2.2.2.2.set p0 (.inr (9, f3.set 0 (.ref (s.2.2.2.2.length + 118))))).set p0 (.inr (9, f4.set 1 (.int p1)))))) rfl ?_
  obtain ⟨f5, e, hk, k⟩ := k
  refine Ex.pfd hq rfl e hk rfl ?_
  show Ex sc (d + 4) 107 13 [.ref (p0 + 118), .int p1, .int p2] [] (hpS (sD s1 (((s1.2.2.2.2.set p0 (.inr (9, f3.set 0 (.ref (s.2.2.2.2.length + 118))))).set p0 (.inr (9, f4.set 1 (.int p1)))).set p0 (.inr (9, f5.set 2 (.int p2)))))) _
  exact Ex.rt hq rfl rfl ⟨(sD s1 (((s1.2.2.2.2.set p0 (.inr (9, f3.set 0 (.ref (s.2.2.2.2.length + 118))))).set p0 (.inr (9, f4.set 1 (.int p1)))).set p0 (.inr (9, f5.set 2 (.int p2))))), rfl, rfl, k⟩
end WP
