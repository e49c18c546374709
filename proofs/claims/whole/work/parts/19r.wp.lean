/-! ===== weakest preconditions, printed by wip/whole/genwp.py ===== -/
section WP
variable {sc : Nat × (Nat → Int32)}
def w_49_9 : Nat → Int32 → Int32 → Int32 → ST → (Int32 → ST → Prop) → (Int32 → ST → Prop) → Prop
  | 0, _, _, _, _, _, _ => False
  | n + 1, x1, x2, x3, s, X29, K => (((163 : Int32) ≤ x3 → X29 x1 s) ∧ (¬ ((163 : Int32) ≤ x3) → w_51 x2 s (fun r2 s1 => ((r2 = 0 → X29 x1 s1) ∧ (¬ (r2 = 0) → (pin x2 624 = true ∧ w_50 x2 s1 (fun r4 s3 => w_49_9 n (if ((s1.2.1 43) (x2).toNatClampNeg) < x1 then ((s1.2.1 43) (x2).toNatClampNeg) else x1) r4 (x3 + (1 : Int32)) s3 X29 K)))))))
theorem q_49_9 {d : Nat} {X29 : Int32 → ST → Prop} {K : Int32 → ST → Prop} : ∀ (n : Nat) (x1 : Int32) (x2 : Int32) (x3 : Int32) (s : ST), w_49_9 n x1 x2 x3 s X29 K → (∀ (y1 : Int32) (s : ST), X29 y1 s → Ex sc (d + 2) 49 29 [.ref 37, .int y1, pu, pu] [] (hpS s) (kI K)) → Ex sc (d + 2) 49 9 [.ref 37, .int x1, .int x2, .int x3] [] (hpS s) (kI K) := by
  have hq : prog[49]? = some pm49 := rfl
  intro n
  induction n with
  | zero =>
    intro x1 x2 x3 s k
    exact k.elim
  | succ n ih =>
    intro x1 x2 x3 s k hX29
    rw [w_49_9] at k
    refine Ex.seg hq 2 (j := 11) (L' := [.ref 37, .int x1, .int x2, .int x3]) (S' := [.int (163 : Int32), .int x3]) (h' := hpS s) rfl ?_
    refine Ex.i2 hq rfl (fun c => ?_) (fun c => ?_)
    · have k := k.1 c
      refine Ex.fg (L := [.ref 37, .int x1, pu, pu]) ⟨Or.inl rfl, ⟨Or.inl rfl, ⟨Or.inr ⟨rfl, rfl⟩, ⟨Or.inr ⟨rfl, rfl⟩, trivial⟩⟩⟩⟩ ?_
      exact hX29 x1 s k
    · have k := k.2 c
      refine Ex.seg hq 2 (j := 14) (L' := [.ref 37, .int x1, .int x2, .int x3]) (S' := [.int x2, .ref 37]) (h' := hpS s) rfl ?_
      refine Ex.cl hq rfl rfl ?_
      refine Rn.mono (q_51 (d := d + 0) x2 s k) ?_
      rintro _ _ ⟨r2, s1, rfl, hzr2, rfl, k⟩
      show Ex sc (d + 2) 49 15 [.ref 37, .int x1, .int x2, .int x3] [.int r2] (hpS s1) _
      refine Ex.i1 hq rfl (fun c => ?_) (fun c => ?_)
      · have k := k.1 c
        refine Ex.fg (L := [.ref 37, .int x1, pu, pu]) ⟨Or.inl rfl, ⟨Or.inl rfl, ⟨Or.inr ⟨rfl, rfl⟩, ⟨Or.inr ⟨rfl, rfl⟩, trivial⟩⟩⟩⟩ ?_
        exact hX29 x1 s1 k
      · have k := k.2 c
        refine Ex.seg hq 4 (j := 20) (L' := [.ref 37, .int x1, .int x2, .int x3]) (S' := [.int x2, .ref 43, .int x1]) (h' := hpS s1) rfl ?_
        obtain ⟨hin, k⟩ := k
        refine Ex.ial hq rfl rfl hin ?_
        refine Ex.seg hq 4 (j := 25) (L' := [.ref 37, .int (if ((s1.2.1 43) (x2).toNatClampNeg) < x1 then ((s1.2.1 43) (x2).toNatClampNeg) else x1), .int x2, .int x3]) (S' := [.int x2, .ref 37]) (h' := hpS s1) rfl ?_
        refine Ex.cl hq rfl rfl ?_
        refine Rn.mono (q_50 (d := d + 1) x2 s1 k) ?_
        rintro _ _ ⟨r4, s3, rfl, rfl, k⟩
        show Ex sc (d + 2) 49 26 [.ref 37, .int (if ((s1.2.1 43) (x2).toNatClampNeg) < x1 then ((s1.2.1 43) (x2).toNatClampNeg) else x1), .int x2, .int x3] [.int r4] (hpS s3) _
        refine Ex.seg hq 3 (j := 9) (L' := [.ref 37, .int (if ((s1.2.1 43) (x2).toNatClampNeg) < x1 then ((s1.2.1 43) (x2).toNatClampNeg) else x1), .int r4, .int (x3 + (1 : Int32))]) (S' := []) (h' := hpS s3) rfl ?_
        exact ih (if ((s1.2.1 43) (x2).toNatClampNeg) < x1 then ((s1.2.1 43) (x2).toNatClampNeg) else x1) r4 (x3 + (1 : Int32)) s3 k hX29
def w_49_36 : Nat → Int32 → Int32 → Int32 → ST → (Int32 → ST → Prop) → (Int32 → ST → Prop) → Prop
  | 0, _, _, _, _, _, _ => False
  | n + 1, x1, x2, x3, s, X67, K => (((163 : Int32) ≤ x3 → X67 x1 s) ∧ (¬ ((163 : Int32) ≤ x3) → w_51 x2 s (fun r7 s6 => ((r7 = 0 → X67 x1 s6) ∧ (¬ (r7 = 0) → (pin x2 624 = true ∧ (pin x2 624 = true ∧ (pin (x2 ^^^ (1 : Int32)) 624 = true ∧ (pin (x2 ^^^ (1 : Int32)) 624 = true ∧ w_50 x2 (sA s6 43 (upd (upd (s6.2.1 43) (x2).toNatClampNeg (((s6.2.1 43) (x2).toNatClampNeg) - x1)) ((x2 ^^^ (1 : Int32))).toNatClampNeg (((upd (s6.2.1 43) (x2).toNatClampNeg (((s6.2.1 43) (x2).toNatClampNeg) - x1)) ((x2 ^^^ (1 : Int32))).toNatClampNeg) + x1))) (fun r9 s8 => w_49_36 n x1 r9 (x3 + (1 : Int32)) s8 X67 K))))))))))
theorem q_49_36 {d : Nat} {X67 : Int32 → ST → Prop} {K : Int32 → ST → Prop} : ∀ (n : Nat) (x1 : Int32) (x2 : Int32) (x3 : Int32) (s : ST), w_49_36 n x1 x2 x3 s X67 K → (∀ (y1 : Int32) (s : ST), X67 y1 s → Ex sc (d + 2) 49 67 [pu, .int y1, pu, pu] [] (hpS s) (kI K)) → Ex sc (d + 2) 49 36 [.ref 37, .int x1, .int x2, .int x3] [] (hpS s) (kI K) := by
  have hq : prog[49]? = some pm49 := rfl
  intro n
  induction n with
  | zero =>
    intro x1 x2 x3 s k
    exact k.elim
  | succ n ih =>
    intro x1 x2 x3 s k hX67
    rw [w_49_36] at k
    refine Ex.seg hq 2 (j := 38) (L' := [.ref 37, .int x1, .int x2, .int x3]) (S' := [.int (163 : Int32), .int x3]) (h' := hpS s) rfl ?_
    refine Ex.i2 hq rfl (fun c => ?_) (fun c => ?_)
    · have k := k.1 c
      refine Ex.fg (L := [pu, .int x1, pu, pu]) ⟨Or.inr ⟨rfl, rfl⟩, ⟨Or.inl rfl, ⟨Or.inr ⟨rfl, rfl⟩, ⟨Or.inr ⟨rfl, rfl⟩, trivial⟩⟩⟩⟩ ?_
      exact hX67 x1 s k
    · have k := k.2 c
      refine Ex.seg hq 2 (j := 41) (L' := [.ref 37, .int x1, .int x2, .int x3]) (S' := [.int x2, .ref 37]) (h' := hpS s) rfl ?_
      refine Ex.cl hq rfl rfl ?_
      refine Rn.mono (q_51 (d := d + 0) x2 s k) ?_
      rintro _ _ ⟨r7, s6, rfl, hzr7, rfl, k⟩
      show Ex sc (d + 2) 49 42 [.ref 37, .int x1, .int x2, .int x3] [.int r7] (hpS s6) _
      refine Ex.i1 hq rfl (fun c => ?_) (fun c => ?_)
      · have k := k.1 c
        refine Ex.fg (L := [pu, .int x1, pu, pu]) ⟨Or.inr ⟨rfl, rfl⟩, ⟨Or.inl rfl, ⟨Or.inr ⟨rfl, rfl⟩, ⟨Or.inr ⟨rfl, rfl⟩, trivial⟩⟩⟩⟩ ?_
        exact hX67 x1 s6 k
      · have k := k.2 c
        refine Ex.seg hq 4 (j := 47) (L' := [.ref 37, .int x1, .int x2, .int x3]) (S' := [.int x2, .ref 43, .int x2, .ref 43]) (h' := hpS s6) rfl ?_
        obtain ⟨hin, k⟩ := k
        refine Ex.ial hq rfl rfl hin ?_
        refine Ex.seg hq 2 (j := 50) (L' := [.ref 37, .int x1, .int x2, .int x3]) (S' := [.int (((s6.2.1 43) (x2).toNatClampNeg) - x1), .int x2, .ref 43]) (h' := hpS s6) rfl ?_
        obtain ⟨hin, k⟩ := k
        refine Ex.ias hq rfl rfl hin (h' := hpS (sA s6 43 (upd (s6.2.1 43) (x2).toNatClampNeg (((s6.2.1 43) (x2).toNatClampNeg) - x1)))) (hset_43 _ _) ?_
        refine Ex.seg hq 6 (j := 57) (L' := [.ref 37, .int x1, .int x2, .int x3]) (S' := [.int (x2 ^^^ (1 : Int32)), .ref 43, .int (x2 ^^^ (1 : Int32)), .ref 43]) (h' := hpS (sA s6 43 (upd (s6.2.1 43) (x2).toNatClampNeg (((s6.2.1 43) (x2).toNatClampNeg) - x1)))) rfl ?_
        obtain ⟨hin, k⟩ := k
        refine Ex.ial hq rfl rfl hin ?_
        refine Ex.seg hq 2 (j := 60) (L' := [.ref 37, .int x1, .int x2, .int x3]) (S' := [.int (((upd (s6.2.1 43) (x2).toNatClampNeg (((s6.2.1 43) (x2).toNatClampNeg) - x1)) ((x2 ^^^ (1 : Int32))).toNatClampNeg) + x1), .int (x2 ^^^ (1 : Int32)), .ref 43]) (h' := hpS (sA s6 43 (upd (s6.2.1 43) (x2).toNatClampNeg (((s6.2.1 43) (x2).toNatClampNeg) - x1)))) rfl ?_
        obtain ⟨hin, k⟩ := k
        refine Ex.ias hq rfl rfl hin (h' := hpS (sA s6 43 (upd (upd (s6.2.1 43) (x2).toNatClampNeg (((s6.2.1 43) (x2).toNatClampNeg) - x1)) ((x2 ^^^ (1 : Int32))).toNatClampNeg (((upd (s6.2.1 43) (x2).toNatClampNeg (((s6.2.1 43) (x2).toNatClampNeg) - x1)) ((x2 ^^^ (1 : Int32))).toNatClampNeg) + x1)))) (hset_43 _ _) ?_
        refine Ex.seg hq 2 (j := 63) (L' := [.ref 37, .int x1, .int x2, .int x3]) (S' := [.int x2, .ref 37]) (h' := hpS (sA s6 43 (upd (upd (s6.2.1 43) (x2).toNatClampNeg (((s6.2.1 43) (x2).toNatClampNeg) - x1)) ((x2 ^^^ (1 : Int32))).toNatClampNeg (((upd (s6.2.1 43) (x2).toNatClampNeg (((s6.2.1 43) (x2).toNatClampNeg) - x1)) ((x2 ^^^ (1 : Int32))).toNatClampNeg) + x1)))) rfl ?_
        refine Ex.cl hq rfl rfl ?_
        refine Rn.mono (q_50 (d := d + 1) x2 (sA s6 43 (upd (upd (s6.2.1 43) (x2).toNatClampNeg (((s6.2.1 43) (x2).toNatClampNeg) - x1)) ((x2 ^^^ (1 : Int32))).toNatClampNeg (((upd (s6.2.1 43) (x2).toNatClampNeg (((s6.2.1 43) (x2).toNatClampNeg) - x1)) ((x2 ^^^ (1 : Int32))).toNatClampNeg) + x1))) k) ?_
        rintro _ _ ⟨r9, s8, rfl, rfl, k⟩
        show Ex sc (d + 2) 49 64 [.ref 37, .int x1, .int x2, .int x3] [.int r9] (hpS s8) _
        refine Ex.seg hq 3 (j := 36) (L' := [.ref 37, .int x1, .int r9, .int (x3 + (1 : Int32))]) (S' := []) (h' := hpS s8) rfl ?_
        exact ih x1 r9 (x3 + (1 : Int32)) s8 k hX67
/-- RowAuditor$Flow.fillPath()I -/
def w_49  (s : ST) (K : Int32 → ST → Prop) : Prop := (pin (1 : Int32) 163 = true ∧ (∃ m, w_49_9 m (1000000000 : Int32) ((s.2.1 44) ((1 : Int32)).toNatClampNeg) (0 : Int32) s (fun y1 s5 => (pin (1 : Int32) 163 = true ∧ (∃ m, w_49_36 m y1 ((s5.2.1 44) ((1 : Int32)).toNatClampNeg) (0 : Int32) s5 (fun y1 s10 => K y1 s10) K))) K))
theorem q_49 {d : Nat} {K : Int32 → ST → Prop}  (s : ST) (k : w_49  s K) : Rn sc (d + 2) 49 [.ref 37] (hpS s) (kI K) := by
  have hq : prog[49]? = some pm49 := rfl
  refine Rn.of (L := [.ref 37, pu, pu, pu]) hq rfl rfl ?_
  unfold w_49 at k
  refine Ex.seg hq 5 (j := 5) (L' := [.ref 37, .int (1000000000 : Int32), pu, pu]) (S' := [.int (1 : Int32), .ref 44]) (h' := hpS s) rfl ?_
  obtain ⟨hin, k⟩ := k
  refine Ex.ial hq rfl rfl hin ?_
  refine Ex.seg hq 3 (j := 9) (L' := [.ref 37, .int (1000000000 : Int32), .int ((s.2.1 44) ((1 : Int32)).toNatClampNeg), .int (0 : Int32)]) (S' := []) (h' := hpS s) rfl ?_
  obtain ⟨m, k⟩ := k
  refine q_49_9 (d := d) m (1000000000 : Int32) ((s.2.1 44) ((1 : Int32)).toNatClampNeg) (0 : Int32) s k ?_
  · intro y1 s5 k
    refine Ex.seg hq 3 (j := 32) (L' := [.ref 37, .int y1, pu, pu]) (S' := [.int (1 : Int32), .ref 44]) (h' := hpS s5) rfl ?_
    obtain ⟨hin, k⟩ := k
    refine Ex.ial hq rfl rfl hin ?_
    refine Ex.seg hq 3 (j := 36) (L' := [.ref 37, .int y1, .int ((s5.2.1 44) ((1 : Int32)).toNatClampNeg), .int (0 : Int32)]) (S' := []) (h' := hpS s5) rfl ?_
    obtain ⟨m, k⟩ := k
    refine q_49_36 (d := d) m y1 ((s5.2.1 44) ((1 : Int32)).toNatClampNeg) (0 : Int32) s5 k ?_
    · intro y1 s10 k
      refine Ex.seg hq 1 (j := 68) (L' := [pu, .int y1, pu, pu]) (S' := [.int y1]) (h' := hpS s10) rfl ?_
      exact Ex.rt hq rfl rfl ⟨y1, s10, rfl, rfl, k⟩
def w_101_16 : Nat → Int32 → Int32 → Int32 → Int32 → Int32 → ST → (Int32 → ST → Prop) → (Int32 → ST → Prop) → Prop
  | 0, _, _, _, _, _, _, _, _ => False
  | n + 1, x1, x2, x3, x4, x5, s, X59, K => ((x4 ≤ x5 → X59 x3 s) ∧ (¬ (x4 ≤ x5) → w_102 x1 x5 s (fun r4 s3 => ((¬ x2 = (-1 : Int32) → w_184 x2 r4 s3 (fun r6 s5 => ((¬ r6 = 0 → w_101_16 n x1 x2 x3 x4 (x5 + (1 : Int32)) s5 X59 K) ∧ (¬ (¬ r6 = 0) → w_283 r4 s5 (fun r8 s7 => (((5 : Int32) ≤ r8 → w_101_16 n x1 x2 x3 x4 (x5 + (1 : Int32)) s7 X59 K) ∧ (¬ ((5 : Int32) ≤ r8) → w_103 x1 r4 s7 (fun r10 s9 => w_105 x2 (r4 ||| ((1 : Int32) <<< (x2 &&& 31))) r10 s9 (fun s11 => w_101_16 n x1 x2 x3 x4 (x5 + (1 : Int32)) s11 X59 K))))))))) ∧ (¬ (¬ x2 = (-1 : Int32)) → w_103 x1 r4 s3 (fun r14 s13 => w_101_16 n x1 x2 (if (x3 + r14) < (100000 : Int32) then (x3 + r14) else (100000 : Int32)) x4 (x5 + (1 : Int32)) s13 X59 K))))))
theorem q_101_16 {d : Nat} {X59 : Int32 → ST → Prop} {K : Int32 → ST → Prop} : ∀ (n : Nat) (x1 : Int32) (x2 : Int32) (x3 : Int32) (x4 : Int32) (x5 : Int32) (s : ST), w_101_16 n x1 x2 x3 x4 x5 s X59 K → (∀ (y3 : Int32) (s : ST), X59 y3 s → Ex sc (d + 2) 101 59 [pu, pu, pu, .int y3, pu, pu, pu] [] (hpS s) (kI K)) → Ex sc (d + 2) 101 16 [.ref 46, .int x1, .int x2, .int x3, .int x4, .int x5, pu] [] (hpS s) (kI K) := by
  have hq : prog[101]? = some pm101 := rfl
  intro n
  induction n with
  | zero =>
    intro x1 x2 x3 x4 x5 s k
    exact k.elim
  | succ n ih =>
    intro x1 x2 x3 x4 x5 s k hX59
    rw [w_101_16] at k
    refine Ex.seg hq 2 (j := 18) (L' := [.ref 46, .int x1, .int x2, .int x3, .int x4, .int x5, pu]) (S' := [.int x4, .int x5]) (h' := hpS s) rfl ?_
    refine Ex.i2 hq rfl (fun c => ?_) (fun c => ?_)
    · have k := k.1 c
      refine Ex.fg (L := [pu, pu, pu, .int x3, pu, pu, pu]) ⟨Or.inr ⟨rfl, rfl⟩, ⟨Or.inr ⟨rfl, rfl⟩, ⟨Or.inr ⟨rfl, rfl⟩, ⟨Or.inl rfl, ⟨Or.inr ⟨rfl, rfl⟩, ⟨Or.inr ⟨rfl, rfl⟩, ⟨Or.inl rfl, trivial⟩⟩⟩⟩⟩⟩⟩ ?_
      exact hX59 x3 s k
    · have k := k.2 c
      refine Ex.seg hq 3 (j := 22) (L' := [.ref 46, .int x1, .int x2, .int x3, .int x4, .int x5, pu]) (S' := [.int x5, .int x1, .ref 46]) (h' := hpS s) rfl ?_
      refine Ex.cl hq rfl rfl ?_
      refine Rn.mono (q_102 (d := d + 0) x1 x5 s k) ?_
      rintro _ _ ⟨r4, s3, rfl, rfl, k⟩
      show Ex sc (d + 2) 101 23 [.ref 46, .int x1, .int x2, .int x3, .int x4, .int x5, pu] [.int r4] (hpS s3) _
      refine Ex.seg hq 3 (j := 26) (L' := [.ref 46, .int x1, .int x2, .int x3, .int x4, .int x5, .int r4]) (S' := [.int (-1 : Int32), .int x2]) (h' := hpS s3) rfl ?_
      refine Ex.i2 hq rfl (fun c => ?_) (fun c => ?_)
      · have k := k.1 c
        refine Ex.seg hq 2 (j := 39) (L' := [.ref 46, .int x1, .int x2, .int x3, .int x4, .int x5, .int r4]) (S' := [.int r4, .int x2]) (h' := hpS s3) rfl ?_
        refine Ex.cl hq rfl rfl ?_
        refine Rn.mono (q_184 (d := d + 1) x2 r4 s3 k) ?_
        rintro _ _ ⟨r6, s5, rfl, hzr6, rfl, k⟩
        show Ex sc (d + 2) 101 40 [.ref 46, .int x1, .int x2, .int x3, .int x4, .int x5, .int r4] [.int r6] (hpS s5) _
        refine Ex.i1 hq rfl (fun c => ?_) (fun c => ?_)
        · have k := k.1 c
          refine Ex.seg hq 2 (j := 16) (L' := [.ref 46, .int x1, .int x2, .int x3, .int x4, .int (x5 + (1 : Int32)), .int r4]) (S' := []) (h' := hpS s5) rfl ?_
          refine Ex.fg (L := [.ref 46, .int x1, .int x2, .int x3, .int x4, .int (x5 + (1 : Int32)), pu]) ⟨Or.inl rfl, ⟨Or.inl rfl, ⟨Or.inl rfl, ⟨Or.inl rfl, ⟨Or.inl rfl, ⟨Or.inl rfl, ⟨Or.inr ⟨rfl, rfl⟩, trivial⟩⟩⟩⟩⟩⟩⟩ ?_
          exact ih x1 x2 x3 x4 (x5 + (1 : Int32)) s5 k hX59
        · have k := k.2 c
          refine Ex.seg hq 1 (j := 42) (L' := [.ref 46, .int x1, .int x2, .int x3, .int x4, .int x5, .int r4]) (S' := [.int r4]) (h' := hpS s5) rfl ?_
          refine Ex.cl hq rfl rfl ?_
          refine Rn.mono (q_283 (d := d + 1) r4 s5 k) ?_
          rintro _ _ ⟨r8, s7, rfl, rfl, k⟩
          show Ex sc (d + 2) 101 43 [.ref 46, .int x1, .int x2, .int x3, .int x4, .int x5, .int r4] [.int r8] (hpS s7) _
          refine Ex.seg hq 1 (j := 44) (L' := [.ref 46, .int x1, .int x2, .int x3, .int x4, .int x5, .int r4]) (S' := [.int (5 : Int32), .int r8]) (h' := hpS s7) rfl ?_
          refine Ex.i2 hq rfl (fun c => ?_) (fun c => ?_)
          · have k := k.1 c
            refine Ex.seg hq 2 (j := 16) (L' := [.ref 46, .int x1, .int x2, .int x3, .int x4, .int (x5 + (1 : Int32)), .int r4]) (S' := []) (h' := hpS s7) rfl ?_
            refine Ex.fg (L := [.ref 46, .int x1, .int x2, .int x3, .int x4, .int (x5 + (1 : Int32)), pu]) ⟨Or.inl rfl, ⟨Or.inl rfl, ⟨Or.inl rfl, ⟨Or.inl rfl, ⟨Or.inl rfl, ⟨Or.inl rfl, ⟨Or.inr ⟨rfl, rfl⟩, trivial⟩⟩⟩⟩⟩⟩⟩ ?_
            exact ih x1 x2 x3 x4 (x5 + (1 : Int32)) s7 k hX59
          · have k := k.2 c
            refine Ex.seg hq 10 (j := 55) (L' := [.ref 46, .int x1, .int x2, .int x3, .int x4, .int x5, .int r4]) (S' := [.int r4, .int x1, .ref 46, .int (r4 ||| ((1 : Int32) <<< (x2 &&& 31))), .int x2, .ref 46]) (h' := hpS s7) rfl ?_
            refine Ex.cl hq rfl rfl ?_
            refine Rn.mono (q_103 (d := d + 0) x1 r4 s7 k) ?_
            rintro _ _ ⟨r10, s9, rfl, rfl, k⟩
            show Ex sc (d + 2) 101 56 [.ref 46, .int x1, .int x2, .int x3, .int x4, .int x5, .int r4] [.int r10, .int (r4 ||| ((1 : Int32) <<< (x2 &&& 31))), .int x2, .ref 46] (hpS s9) _
            refine Ex.cl hq rfl rfl ?_
            refine Rn.mono (q_105 (d := d + 0) x2 (r4 ||| ((1 : Int32) <<< (x2 &&& 31))) r10 s9 k) ?_
            rintro _ _ ⟨s11, rfl, rfl, k⟩
            show Ex sc (d + 2) 101 57 [.ref 46, .int x1, .int x2, .int x3, .int x4, .int x5, .int r4] [] (hpS s11) _
            refine Ex.seg hq 2 (j := 16) (L' := [.ref 46, .int x1, .int x2, .int x3, .int x4, .int (x5 + (1 : Int32)), .int r4]) (S' := []) (h' := hpS s11) rfl ?_
            refine Ex.fg (L := [.ref 46, .int x1, .int x2, .int x3, .int x4, .int (x5 + (1 : Int32)), pu]) ⟨Or.inl rfl, ⟨Or.inl rfl, ⟨Or.inl rfl, ⟨Or.inl rfl, ⟨Or.inl rfl, ⟨Or.inl rfl, ⟨Or.inr ⟨rfl, rfl⟩, trivial⟩⟩⟩⟩⟩⟩⟩ ?_
            exact ih x1 x2 x3 x4 (x5 + (1 : Int32)) s11 k hX59
      · have k := k.2 c
        refine Ex.seg hq 5 (j := 32) (L' := [.ref 46, .int x1, .int x2, .int x3, .int x4, .int x5, .int r4]) (S' := [.int r4, .int x1, .ref 46, .int x3, .int (100000 : Int32)]) (h' := hpS s3) rfl ?_
        refine Ex.cl hq rfl rfl ?_
        refine Rn.mono (q_103 (d := d + 0) x1 r4 s3 k) ?_
        rintro _ _ ⟨r14, s13, rfl, rfl, k⟩
        show Ex sc (d + 2) 101 33 [.ref 46, .int x1, .int x2, .int x3, .int x4, .int x5, .int r4] [.int r14, .int x3, .int (100000 : Int32)] (hpS s13) _
        refine Ex.seg hq 6 (j := 16) (L' := [.ref 46, .int x1, .int x2, .int (if (x3 + r14) < (100000 : Int32) then (x3 + r14) else (100000 : Int32)), .int x4, .int (x5 + (1 : Int32)), .int r4]) (S' := []) (h' := hpS s13) rfl ?_
        refine Ex.fg (L := [.ref 46, .int x1, .int x2, .int (if (x3 + r14) < (100000 : Int32) then (x3 + r14) else (100000 : Int32)), .int x4, .int (x5 + (1 : Int32)), pu]) ⟨Or.inl rfl, ⟨Or.inl rfl, ⟨Or.inl rfl, ⟨Or.inl rfl, ⟨Or.inl rfl, ⟨Or.inl rfl, ⟨Or.inr ⟨rfl, rfl⟩, trivial⟩⟩⟩⟩⟩⟩⟩ ?_
        exact ih x1 x2 (if (x3 + r14) < (100000 : Int32) then (x3 + r14) else (100000 : Int32)) x4 (x5 + (1 : Int32)) s13 k hX59
/-- RowAuditor$Rounder.goOn(II)I -/
def w_101 (p0 : Int32) (p1 : Int32) (s : ST) (K : Int32 → ST → Prop) : Prop := w_181 p0 (0 : Int32) (8 : Int32) s (fun r2 s1 => ((r2 = 0 → (∃ m, w_101_16 m p0 p1 (0 : Int32) (0 : Int32) (0 : Int32) s1 (fun y3 s15 => K y3 s15) K)) ∧ (¬ (r2 = 0) → (pin p0 9 = true ∧ (∃ m, w_101_16 m p0 p1 (0 : Int32) ((s1.2.1 49) (p0).toNatClampNeg) (0 : Int32) s1 (fun y3 s16 => K y3 s16) K)))))
theorem q_101 {d : Nat} {K : Int32 → ST → Prop} (p0 : Int32) (p1 : Int32) (s : ST) (k : w_101 p0 p1 s K) : Rn sc (d + 2) 101 [.ref 46, .int p0, .int p1] (hpS s) (kI K) := by
  have hq : prog[101]? = some pm101 := rfl
  refine Rn.of (L := [.ref 46, .int p0, .int p1, pu, pu, pu, pu]) hq rfl rfl ?_
  unfold w_101 at k
  refine Ex.seg hq 5 (j := 5) (L' := [.ref 46, .int p0, .int p1, .int (0 : Int32), pu, pu, pu]) (S' := [.int (8 : Int32), .int (0 : Int32), .int p0]) (h' := hpS s) rfl ?_
  refine Ex.cl hq rfl rfl ?_
  refine Rn.mono (q_181 (d := d + 1) p0 (0 : Int32) (8 : Int32) s k) ?_
  rintro _ _ ⟨r2, s1, rfl, hzr2, rfl, k⟩
  show Ex sc (d + 2) 101 6 [.ref 46, .int p0, .int p1, .int (0 : Int32), pu, pu, pu] [.int r2] (hpS s1) _
  refine Ex.i1 hq rfl (fun c => ?_) (fun c => ?_)
  · have k := k.1 c
    refine Ex.seg hq 4 (j := 16) (L' := [.ref 46, .int p0, .int p1, .int (0 : Int32), .int (0 : Int32), .int (0 : Int32), pu]) (S' := []) (h' := hpS s1) rfl ?_
    obtain ⟨m, k⟩ := k
    refine q_101_16 (d := d) m p0 p1 (0 : Int32) (0 : Int32) (0 : Int32) s1 k ?_
    · intro y3 s15 k
      refine Ex.seg hq 1 (j := 60) (L' := [pu, pu, pu, .int y3, pu, pu, pu]) (S' := [.int y3]) (h' := hpS s15) rfl ?_
      exact Ex.rt hq rfl rfl ⟨y3, s15, rfl, rfl, k⟩
  · have k := k.2 c
    refine Ex.seg hq 3 (j := 10) (L' := [.ref 46, .int p0, .int p1, .int (0 : Int32), pu, pu, pu]) (S' := [.int p0, .ref 49]) (h' := hpS s1) rfl ?_
    obtain ⟨hin, k⟩ := k
    refine Ex.ial hq rfl rfl hin ?_
    refine Ex.seg hq 4 (j := 16) (L' := [.ref 46, .int p0, .int p1, .int (0 : Int32), .int ((s1.2.1 49) (p0).toNatClampNeg), .int (0 : Int32), pu]) (S' := []) (h' := hpS s1) rfl ?_
    obtain ⟨m, k⟩ := k
    refine q_101_16 (d := d) m p0 p1 (0 : Int32) ((s1.2.1 49) (p0).toNatClampNeg) (0 : Int32) s1 k ?_
    · intro y3 s16 k
      refine Ex.seg hq 1 (j := 60) (L' := [pu, pu, pu, .int y3, pu, pu, pu]) (S' := [.int y3]) (h' := hpS s16) rfl ?_
      exact Ex.rt hq rfl rfl ⟨y3, s16, rfl, rfl, k⟩
def w_115_2 : Nat → Int32 → Int32 → Int32 → ST → (Int32 → Int32 → ST → Prop) → (ST → Prop) → Prop
  | 0, _, _, _, _, _, _ => False
  | n + 1, x1, x2, x3, s, X13, K => ((x2 ≤ x3 → X13 x1 x2 s) ∧ (¬ (x2 ≤ x3) → w_123 x3 s (fun r2 s1 => w_116 r2 (1 : Int32) s1 (fun s3 => w_115_2 n x1 x2 (x3 + (1 : Int32)) s3 X13 K))))
theorem q_115_2 {d : Nat} {X13 : Int32 → Int32 → ST → Prop} {K : ST → Prop} : ∀ (n : Nat) (x1 : Int32) (x2 : Int32) (x3 : Int32) (s : ST), w_115_2 n x1 x2 x3 s X13 K → (∀ (y1 : Int32) (y2 : Int32) (s : ST), X13 y1 y2 s → Ex sc (d + 3) 115 13 [.ref 8, .int y1, .int y2, pu, pu, pu, pu] [] (hpS s) (kV K)) → Ex sc (d + 3) 115 2 [.ref 8, .int x1, .int x2, .int x3, pu, pu, pu] [] (hpS s) (kV K) := by
  have hq : prog[115]? = some pm115 := rfl
  intro n
  induction n with
  | zero =>
    intro x1 x2 x3 s k
    exact k.elim
  | succ n ih =>
    intro x1 x2 x3 s k hX13
    rw [w_115_2] at k
    refine Ex.seg hq 2 (j := 4) (L' := [.ref 8, .int x1, .int x2, .int x3, pu, pu, pu]) (S' := [.int x2, .int x3]) (h' := hpS s) rfl ?_
    refine Ex.i2 hq rfl (fun c => ?_) (fun c => ?_)
    · have k := k.1 c
      refine Ex.fg (L := [.ref 8, .int x1, .int x2, pu, pu, pu, pu]) ⟨Or.inl rfl, ⟨Or.inl rfl, ⟨Or.inl rfl, ⟨Or.inr ⟨rfl, rfl⟩, ⟨Or.inl rfl, ⟨Or.inl rfl, ⟨Or.inl rfl, trivial⟩⟩⟩⟩⟩⟩⟩ ?_
      exact hX13 x1 x2 s k
    · have k := k.2 c
      refine Ex.seg hq 3 (j := 8) (L' := [.ref 8, .int x1, .int x2, .int x3, pu, pu, pu]) (S' := [.int x3, .ref 8, .ref 8]) (h' := hpS s) rfl ?_
      refine Ex.cl hq rfl rfl ?_
      refine Rn.mono (q_123 (d := d + 2) x3 s k) ?_
      rintro _ _ ⟨r2, s1, rfl, rfl, k⟩
      show Ex sc (d + 3) 115 9 [.ref 8, .int x1, .int x2, .int x3, pu, pu, pu] [.int r2, .ref 8] (hpS s1) _
      refine Ex.seg hq 1 (j := 10) (L' := [.ref 8, .int x1, .int x2, .int x3, pu, pu, pu]) (S' := [.int (1 : Int32), .int r2, .ref 8]) (h' := hpS s1) rfl ?_
      refine Ex.cl hq rfl rfl ?_
      refine Rn.mono (q_116 (d := d + 0) r2 (1 : Int32) s1 k) ?_
      rintro _ _ ⟨s3, rfl, rfl, k⟩
      show Ex sc (d + 3) 115 11 [.ref 8, .int x1, .int x2, .int x3, pu, pu, pu] [] (hpS s3) _
      refine Ex.seg hq 2 (j := 2) (L' := [.ref 8, .int x1, .int x2, .int (x3 + (1 : Int32)), pu, pu, pu]) (S' := []) (h' := hpS s3) rfl ?_
      exact ih x1 x2 (x3 + (1 : Int32)) s3 k hX13
def w_115_15 : Nat → Int32 → Int32 → Int32 → ST → (Int32 → Int32 → ST → Prop) → (ST → Prop) → Prop
  | 0, _, _, _, _, _, _ => False
  | n + 1, x1, x2, x3, s, X72, K => ((x2 ≤ x3 → X72 x1 x2 s) ∧ (¬ (x2 ≤ x3) → w_123 x3 s (fun r7 s6 => w_9 r7 (6 : Int32) s6 (fun r9 s8 => w_117 r7 s8 (fun r11 s10 => w_118 r7 s10 (fun r13 s12 => ((r13 = 0 → w_115_15 n x1 x2 (x3 + (1 : Int32)) s12 X72 K) ∧ (¬ (r13 = 0) → w_181 r9 (0 : Int32) (15 : Int32) s12 (fun r15 s14 => ((r15 = 0 → (pin r7 150 = true ∧ w_181 r11 (0 : Int32) ((Int32.ofNat 40) - (1 : Int32)) (sA s14 12 (upd (s14.2.1 12) (r7).toNatClampNeg (0 : Int32))) (fun r17 s16 => ((r17 = 0 → (pin r7 150 = true ∧ w_115_15 n x1 x2 (x3 + (1 : Int32)) (sA s16 13 (upd (s16.2.1 13) (r7).toNatClampNeg (0 : Int32))) X72 K)) ∧ (¬ (r17 = 0) → (pin r11 40 = true ∧ (pin r7 150 = true ∧ w_115_15 n x1 x2 (x3 + (1 : Int32)) (sA s16 13 (upd (s16.2.1 13) (r7).toNatClampNeg ((s16.2.1 15) (r11).toNatClampNeg))) X72 K))))))) ∧ (¬ (r15 = 0) → (pin r9 16 = true ∧ (pin r7 150 = true ∧ w_181 r11 (0 : Int32) ((Int32.ofNat 40) - (1 : Int32)) (sA s14 12 (upd (s14.2.1 12) (r7).toNatClampNeg ((s14.2.1 14) (r9).toNatClampNeg))) (fun r19 s18 => ((r19 = 0 → (pin r7 150 = true ∧ w_115_15 n x1 x2 (x3 + (1 : Int32)) (sA s18 13 (upd (s18.2.1 13) (r7).toNatClampNeg (0 : Int32))) X72 K)) ∧ (¬ (r19 = 0) → (pin r11 40 = true ∧ (pin r7 150 = true ∧ w_115_15 n x1 x2 (x3 + (1 : Int32)) (sA s18 13 (upd (s18.2.1 13) (r7).toNatClampNeg ((s18.2.1 15) (r11).toNatClampNeg))) X72 K))))))))))))))))))
theorem q_115_15 {d : Nat} {X72 : Int32 → Int32 → ST → Prop} {K : ST → Prop} : ∀ (n : Nat) (x1 : Int32) (x2 : Int32) (x3 : Int32) (s : ST), w_115_15 n x1 x2 x3 s X72 K → (∀ (y1 : Int32) (y2 : Int32) (s : ST), X72 y1 y2 s → Ex sc (d + 3) 115 72 [.ref 8, .int y1, .int y2, pu, pu, pu, pu] [] (hpS s) (kV K)) → Ex sc (d + 3) 115 15 [.ref 8, .int x1, .int x2, .int x3, pu, pu, pu] [] (hpS s) (kV K) := by
  have hq : prog[115]? = some pm115 := rfl
  intro n
  induction n with
  | zero =>
    intro x1 x2 x3 s k
    exact k.elim
  | succ n ih =>
    intro x1 x2 x3 s k hX72
    rw [w_115_15] at k
    refine Ex.seg hq 2 (j := 17) (L' := [.ref 8, .int x1, .int x2, .int x3, pu, pu, pu]) (S' := [.int x2, .int x3]) (h' := hpS s) rfl ?_
    refine Ex.i2 hq rfl (fun c => ?_) (fun c => ?_)
    · have k := k.1 c
      refine Ex.fg (L := [.ref 8, .int x1, .int x2, pu, pu, pu, pu]) ⟨Or.inl rfl, ⟨Or.inl rfl, ⟨Or.inl rfl, ⟨Or.inr ⟨rfl, rfl⟩, ⟨Or.inl rfl, ⟨Or.inl rfl, ⟨Or.inl rfl, trivial⟩⟩⟩⟩⟩⟩⟩ ?_
      exact hX72 x1 x2 s k
    · have k := k.2 c
      refine Ex.seg hq 2 (j := 20) (L' := [.ref 8, .int x1, .int x2, .int x3, pu, pu, pu]) (S' := [.int x3, .ref 8]) (h' := hpS s) rfl ?_
      refine Ex.cl hq rfl rfl ?_
      refine Rn.mono (q_123 (d := d + 2) x3 s k) ?_
      rintro _ _ ⟨r7, s6, rfl, rfl, k⟩
      show Ex sc (d + 3) 115 21 [.ref 8, .int x1, .int x2, .int x3, pu, pu, pu] [.int r7] (hpS s6) _
      refine Ex.seg hq 5 (j := 26) (L' := [.ref 8, .int x1, .int x2, .int x3, .int r7, pu, pu]) (S' := [.int (6 : Int32), .int r7, .ref 1]) (h' := hpS s6) rfl ?_
      refine Ex.cl hq rfl rfl ?_
      refine Rn.mono (q_9 (d := d + 2) r7 (6 : Int32) s6 k) ?_
      rintro _ _ ⟨r9, s8, rfl, rfl, k⟩
      show Ex sc (d + 3) 115 27 [.ref 8, .int x1, .int x2, .int x3, .int r7, pu, pu] [.int r9] (hpS s8) _
      refine Ex.seg hq 3 (j := 30) (L' := [.ref 8, .int x1, .int x2, .int x3, .int r7, .int r9, pu]) (S' := [.int r7, .ref 8]) (h' := hpS s8) rfl ?_
      refine Ex.cl hq rfl rfl ?_
      refine Rn.mono (q_117 (d := d + 1) r7 s8 k) ?_
      rintro _ _ ⟨r11, s10, rfl, rfl, k⟩
      show Ex sc (d + 3) 115 31 [.ref 8, .int x1, .int x2, .int x3, .int r7, .int r9, pu] [.int r11] (hpS s10) _
      refine Ex.seg hq 3 (j := 34) (L' := [.ref 8, .int x1, .int x2, .int x3, .int r7, .int r9, .int r11]) (S' := [.int r7, .ref 8]) (h' := hpS s10) rfl ?_
      refine Ex.cl hq rfl rfl ?_
      refine Rn.mono (q_118 (d := d + 2) r7 s10 k) ?_
      rintro _ _ ⟨r13, s12, rfl, hzr13, rfl, k⟩
      show Ex sc (d + 3) 115 35 [.ref 8, .int x1, .int x2, .int x3, .int r7, .int r9, .int r11] [.int r13] (hpS s12) _
      refine Ex.i1 hq rfl (fun c => ?_) (fun c => ?_)
      · have k := k.1 c
        refine Ex.seg hq 2 (j := 15) (L' := [.ref 8, .int x1, .int x2, .int (x3 + (1 : Int32)), .int r7, .int r9, .int r11]) (S' := []) (h' := hpS s12) rfl ?_
        refine Ex.fg (L := [.ref 8, .int x1, .int x2, .int (x3 + (1 : Int32)), pu, pu, pu]) ⟨Or.inl rfl, ⟨Or.inl rfl, ⟨Or.inl rfl, ⟨Or.inl rfl, ⟨Or.inr ⟨rfl, rfl⟩, ⟨Or.inr ⟨rfl, rfl⟩, ⟨Or.inr ⟨rfl, rfl⟩, trivial⟩⟩⟩⟩⟩⟩⟩ ?_
        exact ih x1 x2 (x3 + (1 : Int32)) s12 k hX72
      · have k := k.2 c
        refine Ex.seg hq 6 (j := 42) (L' := [.ref 8, .int x1, .int x2, .int x3, .int r7, .int r9, .int r11]) (S' := [.int (15 : Int32), .int (0 : Int32), .int r9, .int r7, .ref 12]) (h' := hpS s12) rfl ?_
        refine Ex.cl hq rfl rfl ?_
        refine Rn.mono (q_181 (d := d + 2) r9 (0 : Int32) (15 : Int32) s12 k) ?_
        rintro _ _ ⟨r15, s14, rfl, hzr15, rfl, k⟩
        show Ex sc (d + 3) 115 43 [.ref 8, .int x1, .int x2, .int x3, .int r7, .int r9, .int r11] [.int r15, .int r7, .ref 12] (hpS s14) _
        refine Ex.i1 hq rfl (fun c => ?_) (fun c => ?_)
        · have k := k.1 c
          refine Ex.seg hq 1 (j := 50) (L' := [.ref 8, .int x1, .int x2, .int x3, .int r7, .int r9, .int r11]) (S' := [.int (0 : Int32), .int r7, .ref 12]) (h' := hpS s14) rfl ?_
          obtain ⟨hin, k⟩ := k
          refine Ex.ias hq rfl rfl hin (h' := hpS (sA s14 12 (upd (s14.2.1 12) (r7).toNatClampNeg (0 : Int32)))) (hset_12 _ _) ?_
          refine Ex.seg hq 10 (j := 61) (L' := [.ref 8, .int x1, .int x2, .int x3, .int r7, .int r9, .int r11]) (S' := [.int ((Int32.ofNat 40) - (1 : Int32)), .int (0 : Int32), .int r11, .int r7, .ref 13]) (h' := hpS (sA s14 12 (upd (s14.2.1 12) (r7).toNatClampNeg (0 : Int32)))) rfl ?_
          refine Ex.cl hq rfl rfl ?_
          refine Rn.mono (q_181 (d := d + 2) r11 (0 : Int32) ((Int32.ofNat 40) - (1 : Int32)) (sA s14 12 (upd (s14.2.1 12) (r7).toNatClampNeg (0 : Int32))) k) ?_
          rintro _ _ ⟨r17, s16, rfl, hzr17, rfl, k⟩
          show Ex sc (d + 3) 115 62 [.ref 8, .int x1, .int x2, .int x3, .int r7, .int r9, .int r11] [.int r17, .int r7, .ref 13] (hpS s16) _
          refine Ex.i1 hq rfl (fun c => ?_) (fun c => ?_)
          · have k := k.1 c
            refine Ex.seg hq 1 (j := 69) (L' := [.ref 8, .int x1, .int x2, .int x3, .int r7, .int r9, .int r11]) (S' := [.int (0 : Int32), .int r7, .ref 13]) (h' := hpS s16) rfl ?_
            obtain ⟨hin, k⟩ := k
            refine Ex.ias hq rfl rfl hin (h' := hpS (sA s16 13 (upd (s16.2.1 13) (r7).toNatClampNeg (0 : Int32)))) (hset_13 _ _) ?_
            refine Ex.seg hq 2 (j := 15) (L' := [.ref 8, .int x1, .int x2, .int (x3 + (1 : Int32)), .int r7, .int r9, .int r11]) (S' := []) (h' := hpS (sA s16 13 (upd (s16.2.1 13) (r7).toNatClampNeg (0 : Int32)))) rfl ?_
            refine Ex.fg (L := [.ref 8, .int x1, .int x2, .int (x3 + (1 : Int32)), pu, pu, pu]) ⟨Or.inl rfl, ⟨Or.inl rfl, ⟨Or.inl rfl, ⟨Or.inl rfl, ⟨Or.inr ⟨rfl, rfl⟩, ⟨Or.inr ⟨rfl, rfl⟩, ⟨Or.inr ⟨rfl, rfl⟩, trivial⟩⟩⟩⟩⟩⟩⟩ ?_
            exact ih x1 x2 (x3 + (1 : Int32)) (sA s16 13 (upd (s16.2.1 13) (r7).toNatClampNeg (0 : Int32))) k hX72
          · have k := k.2 c
            refine Ex.seg hq 3 (j := 66) (L' := [.ref 8, .int x1, .int x2, .int x3, .int r7, .int r9, .int r11]) (S' := [.int r11, .ref 15, .int r7, .ref 13]) (h' := hpS s16) rfl ?_
            obtain ⟨hin, k⟩ := k
            refine Ex.ial hq rfl rfl hin ?_
            refine Ex.seg hq 1 (j := 69) (L' := [.ref 8, .int x1, .int x2, .int x3, .int r7, .int r9, .int r11]) (S' := [.int ((s16.2.1 15) (r11).toNatClampNeg), .int r7, .ref 13]) (h' := hpS s16) rfl ?_
            obtain ⟨hin, k⟩ := k
            refine Ex.ias hq rfl rfl hin (h' := hpS (sA s16 13 (upd (s16.2.1 13) (r7).toNatClampNeg ((s16.2.1 15) (r11).toNatClampNeg)))) (hset_13 _ _) ?_
            refine Ex.seg hq 2 (j := 15) (L' := [.ref 8, .int x1, .int x2, .int (x3 + (1 : Int32)), .int r7, .int r9, .int r11]) (S' := []) (h' := hpS (sA s16 13 (upd (s16.2.1 13) (r7).toNatClampNeg ((s16.2.1 15) (r11).toNatClampNeg)))) rfl ?_
            refine Ex.fg (L := [.ref 8, .int x1, .int x2, .int (x3 + (1 : Int32)), pu, pu, pu]) ⟨Or.inl rfl, ⟨Or.inl rfl, ⟨Or.inl rfl, ⟨Or.inl rfl, ⟨Or.inr ⟨rfl, rfl⟩, ⟨Or.inr ⟨rfl, rfl⟩, ⟨Or.inr ⟨rfl, rfl⟩, trivial⟩⟩⟩⟩⟩⟩⟩ ?_
            exact ih x1 x2 (x3 + (1 : Int32)) (sA s16 13 (upd (s16.2.1 13) (r7).toNatClampNeg ((s16.2.1 15) (r11).toNatClampNeg))) k hX72
        · have k := k.2 c
          refine Ex.seg hq 3 (j := 47) (L' := [.ref 8, .int x1, .int x2, .int x3, .int r7, .int r9, .int r11]) (S' := [.int r9, .ref 14, .int r7, .ref 12]) (h' := hpS s14) rfl ?_
          obtain ⟨hin, k⟩ := k
          refine Ex.ial hq rfl rfl hin ?_
          refine Ex.seg hq 1 (j := 50) (L' := [.ref 8, .int x1, .int x2, .int x3, .int r7, .int r9, .int r11]) (S' := [.int ((s14.2.1 14) (r9).toNatClampNeg), .int r7, .ref 12]) (h' := hpS s14) rfl ?_
          obtain ⟨hin, k⟩ := k
          refine Ex.ias hq rfl rfl hin (h' := hpS (sA s14 12 (upd (s14.2.1 12) (r7).toNatClampNeg ((s14.2.1 14) (r9).toNatClampNeg)))) (hset_12 _ _) ?_
          refine Ex.seg hq 10 (j := 61) (L' := [.ref 8, .int x1, .int x2, .int x3, .int r7, .int r9, .int r11]) (S' := [.int ((Int32.ofNat 40) - (1 : Int32)), .int (0 : Int32), .int r11, .int r7, .ref 13]) (h' := hpS (sA s14 12 (upd (s14.2.1 12) (r7).toNatClampNeg ((s14.2.1 14) (r9).toNatClampNeg)))) rfl ?_
          refine Ex.cl hq rfl rfl ?_
          refine Rn.mono (q_181 (d := d + 2) r11 (0 : Int32) ((Int32.ofNat 40) - (1 : Int32)) (sA s14 12 (upd (s14.2.1 12) (r7).toNatClampNeg ((s14.2.1 14) (r9).toNatClampNeg))) k) ?_
          rintro _ _ ⟨r19, s18, rfl, hzr19, rfl, k⟩
          show Ex sc (d + 3) 115 62 [.ref 8, .int x1, .int x2, .int x3, .int r7, .int r9, .int r11] [.int r19, .int r7, .ref 13] (hpS s18) _
          refine Ex.i1 hq rfl (fun c => ?_) (fun c => ?_)
          · have k := k.1 c
            refine Ex.seg hq 1 (j := 69) (L' := [.ref 8, .int x1, .int x2, .int x3, .int r7, .int r9, .int r11]) (S' := [.int (0 : Int32), .int r7, .ref 13]) (h' := hpS s18) rfl ?_
            obtain ⟨hin, k⟩ := k
            refine Ex.ias hq rfl rfl hin (h' := hpS (sA s18 13 (upd (s18.2.1 13) (r7).toNatClampNeg (0 : Int32)))) (hset_13 _ _) ?_
            refine Ex.seg hq 2 (j := 15) (L' := [.ref 8, .int x1, .int x2, .int (x3 + (1 : Int32)), .int r7, .int r9, .int r11]) (S' := []) (h' := hpS (sA s18 13 (upd (s18.2.1 13) (r7).toNatClampNeg (0 : Int32)))) rfl ?_
            refine Ex.fg (L := [.ref 8, .int x1, .int x2, .int (x3 + (1 : Int32)), pu, pu, pu]) ⟨Or.inl rfl, ⟨Or.inl rfl, ⟨Or.inl rfl, ⟨Or.inl rfl, ⟨Or.inr ⟨rfl, rfl⟩, ⟨Or.inr ⟨rfl, rfl⟩, ⟨Or.inr ⟨rfl, rfl⟩, trivial⟩⟩⟩⟩⟩⟩⟩ ?_
            exact ih x1 x2 (x3 + (1 : Int32)) (sA s18 13 (upd (s18.2.1 13) (r7).toNatClampNeg (0 : Int32))) k hX72
          · have k := k.2 c
            refine Ex.seg hq 3 (j := 66) (L' := [.ref 8, .int x1, .int x2, .int x3, .int r7, .int r9, .int r11]) (S' := [.int r11, .ref 15, .int r7, .ref 13]) (h' := hpS s18) rfl ?_
            obtain ⟨hin, k⟩ := k
            refine Ex.ial hq rfl rfl hin ?_
            refine Ex.seg hq 1 (j := 69) (L' := [.ref 8, .int x1, .int x2, .int x3, .int r7, .int r9, .int r11]) (S' := [.int ((s18.2.1 15) (r11).toNatClampNeg), .int r7, .ref 13]) (h' := hpS s18) rfl ?_
            obtain ⟨hin, k⟩ := k
            refine Ex.ias hq rfl rfl hin (h' := hpS (sA s18 13 (upd (s18.2.1 13) (r7).toNatClampNeg ((s18.2.1 15) (r11).toNatClampNeg)))) (hset_13 _ _) ?_
            refine Ex.seg hq 2 (j := 15) (L' := [.ref 8, .int x1, .int x2, .int (x3 + (1 : Int32)), .int r7, .int r9, .int r11]) (S' := []) (h' := hpS (sA s18 13 (upd (s18.2.1 13) (r7).toNatClampNeg ((s18.2.1 15) (r11).toNatClampNeg)))) rfl ?_
            refine Ex.fg (L := [.ref 8, .int x1, .int x2, .int (x3 + (1 : Int32)), pu, pu, pu]) ⟨Or.inl rfl, ⟨Or.inl rfl, ⟨Or.inl rfl, ⟨Or.inl rfl, ⟨Or.inr ⟨rfl, rfl⟩, ⟨Or.inr ⟨rfl, rfl⟩, ⟨Or.inr ⟨rfl, rfl⟩, trivial⟩⟩⟩⟩⟩⟩⟩ ?_
            exact ih x1 x2 (x3 + (1 : Int32)) (sA s18 13 (upd (s18.2.1 13) (r7).toNatClampNeg ((s18.2.1 15) (r11).toNatClampNeg))) k hX72
def w_115_74 : Nat → Int32 → Int32 → ST → (ST → Prop) → (ST → Prop) → Prop
  | 0, _, _, _, _, _ => False
  | n + 1, x2, x3, s, X85, K => ((x2 ≤ x3 → X85  s) ∧ (¬ (x2 ≤ x3) → w_123 x3 s (fun r22 s21 => w_116 r22 (-1 : Int32) s21 (fun s23 => w_115_74 n x2 (x3 + (1 : Int32)) s23 X85 K))))
theorem q_115_74 {d : Nat} {X85 : ST → Prop} {K : ST → Prop} : ∀ (n : Nat) (x2 : Int32) (x3 : Int32) (s : ST), w_115_74 n x2 x3 s X85 K → (∀ (s : ST), X85  s → Ex sc (d + 3) 115 85 [pu, pu, pu, pu, pu, pu, pu] [] (hpS s) (kV K)) → Ex sc (d + 3) 115 74 [.ref 8, pu, .int x2, .int x3, pu, pu, pu] [] (hpS s) (kV K) := by
  have hq : prog[115]? = some pm115 := rfl
  intro n
  induction n with
  | zero =>
    intro x2 x3 s k
    exact k.elim
  | succ n ih =>
    intro x2 x3 s k hX85
    rw [w_115_74] at k
    refine Ex.seg hq 2 (j := 76) (L' := [.ref 8, pu, .int x2, .int x3, pu, pu, pu]) (S' := [.int x2, .int x3]) (h' := hpS s) rfl ?_
    refine Ex.i2 hq rfl (fun c => ?_) (fun c => ?_)
    · have k := k.1 c
      refine Ex.fg (L := [pu, pu, pu, pu, pu, pu, pu]) ⟨Or.inr ⟨rfl, rfl⟩, ⟨Or.inl rfl, ⟨Or.inr ⟨rfl, rfl⟩, ⟨Or.inr ⟨rfl, rfl⟩, ⟨Or.inl rfl, ⟨Or.inl rfl, ⟨Or.inl rfl, trivial⟩⟩⟩⟩⟩⟩⟩ ?_
      exact hX85  s k
    · have k := k.2 c
      refine Ex.seg hq 3 (j := 80) (L' := [.ref 8, pu, .int x2, .int x3, pu, pu, pu]) (S' := [.int x3, .ref 8, .ref 8]) (h' := hpS s) rfl ?_
      refine Ex.cl hq rfl rfl ?_
      refine Rn.mono (q_123 (d := d + 2) x3 s k) ?_
      rintro _ _ ⟨r22, s21, rfl, rfl, k⟩
      show Ex sc (d + 3) 115 81 [.ref 8, pu, .int x2, .int x3, pu, pu, pu] [.int r22, .ref 8] (hpS s21) _
      refine Ex.seg hq 1 (j := 82) (L' := [.ref 8, pu, .int x2, .int x3, pu, pu, pu]) (S' := [.int (-1 : Int32), .int r22, .ref 8]) (h' := hpS s21) rfl ?_
      refine Ex.cl hq rfl rfl ?_
      refine Rn.mono (q_116 (d := d + 0) r22 (-1 : Int32) s21 k) ?_
      rintro _ _ ⟨s23, rfl, rfl, k⟩
      show Ex sc (d + 3) 115 83 [.ref 8, pu, .int x2, .int x3, pu, pu, pu] [] (hpS s23) _
      refine Ex.seg hq 2 (j := 74) (L' := [.ref 8, pu, .int x2, .int (x3 + (1 : Int32)), pu, pu, pu]) (S' := []) (h' := hpS s23) rfl ?_
      exact ih x2 (x3 + (1 : Int32)) s23 k hX85
/-- RowAuditor$View.countDay(II)V -/
def w_115 (p0 : Int32) (p1 : Int32) (s : ST) (K : ST → Prop) : Prop := (∃ m, w_115_2 m p0 p1 p0 s (fun y1 y2 s5 => (∃ m, w_115_15 m y1 y2 y1 s5 (fun y1 y2 s20 => (∃ m, w_115_74 m y2 y1 s20 (fun s25 => K s25) K)) K)) K)
theorem q_115 {d : Nat} {K : ST → Prop} (p0 : Int32) (p1 : Int32) (s : ST) (k : w_115 p0 p1 s K) : Rn sc (d + 3) 115 [.ref 8, .int p0, .int p1] (hpS s) (kV K) := by
  have hq : prog[115]? = some pm115 := rfl
  refine Rn.of (L := [.ref 8, .int p0, .int p1, pu, pu, pu, pu]) hq rfl rfl ?_
  unfold w_115 at k
  refine Ex.seg hq 2 (j := 2) (L' := [.ref 8, .int p0, .int p1, .int p0, pu, pu, pu]) (S' := []) (h' := hpS s) rfl ?_
  obtain ⟨m, k⟩ := k
  refine q_115_2 (d := d) m p0 p1 p0 s k ?_
  · intro y1 y2 s5 k
    refine Ex.seg hq 2 (j := 15) (L' := [.ref 8, .int y1, .int y2, .int y1, pu, pu, pu]) (S' := []) (h' := hpS s5) rfl ?_
    obtain ⟨m, k⟩ := k
    refine q_115_15 (d := d) m y1 y2 y1 s5 k ?_
    · intro y1 y2 s20 k
      refine Ex.seg hq 2 (j := 74) (L' := [.ref 8, .int y1, .int y2, .int y1, pu, pu, pu]) (S' := []) (h' := hpS s20) rfl ?_
      obtain ⟨m, k⟩ := k
      refine Ex.fg (L := [.ref 8, pu, .int y2, .int y1, pu, pu, pu]) ⟨Or.inl rfl, ⟨Or.inr ⟨rfl, rfl⟩, ⟨Or.inl rfl, ⟨Or.inl rfl, ⟨Or.inl rfl, ⟨Or.inl rfl, ⟨Or.inl rfl, trivial⟩⟩⟩⟩⟩⟩⟩ ?_
      refine q_115_74 (d := d) m y2 y1 s20 k ?_
      · intro s25 k
        exact Ex.rt hq rfl rfl ⟨s25, rfl, rfl, k⟩
def w_145_8 : Nat → Int32 → Int32 → Int32 → Int32 → Int32 → ST → (Int32 → ST → Prop) → (Int32 → ST → Prop) → Prop
  | 0, _, _, _, _, _, _, _, _ => False
  | n + 1, x1, x2, x3, x4, x5, s, X30, K => ((((1 : Int32) <<< (x2 &&& 31)) ≤ x5 → X30 x3 s) ∧ (¬ (((1 : Int32) <<< (x2 &&& 31)) ≤ x5) → w_283 x5 s (fun r2 s1 => ((x4 ≤ r2 → w_145_8 n x1 x2 x3 x4 (x5 + (1 : Int32)) s1 X30 K) ∧ (¬ (x4 ≤ r2) → w_146 x5 x2 s1 (fun r4 s3 => ((¬ r4 = x1 → w_145_8 n x1 x2 x3 x4 (x5 + (1 : Int32)) s3 X30 K) ∧ (¬ (¬ r4 = x1) → w_283 x5 s3 (fun r6 s5 => w_145_8 n x1 x2 x5 r6 (x5 + (1 : Int32)) s5 X30 K)))))))))
theorem q_145_8 {d : Nat} {X30 : Int32 → ST → Prop} {K : Int32 → ST → Prop} : ∀ (n : Nat) (x1 : Int32) (x2 : Int32) (x3 : Int32) (x4 : Int32) (x5 : Int32) (s : ST), w_145_8 n x1 x2 x3 x4 x5 s X30 K → (∀ (y3 : Int32) (s : ST), X30 y3 s → Ex sc (d + 2) 145 30 [pu, pu, pu, .int y3, pu, pu] [] (hpS s) (kI K)) → Ex sc (d + 2) 145 8 [.ref 0, .int x1, .int x2, .int x3, .int x4, .int x5] [] (hpS s) (kI K) := by
  have hq : prog[145]? = some pm145 := rfl
  intro n
  induction n with
  | zero =>
    intro x1 x2 x3 x4 x5 s k
    exact k.elim
  | succ n ih =>
    intro x1 x2 x3 x4 x5 s k hX30
    rw [w_145_8] at k
    refine Ex.seg hq 4 (j := 12) (L' := [.ref 0, .int x1, .int x2, .int x3, .int x4, .int x5]) (S' := [.int ((1 : Int32) <<< (x2 &&& 31)), .int x5]) (h' := hpS s) rfl ?_
    refine Ex.i2 hq rfl (fun c => ?_) (fun c => ?_)
    · have k := k.1 c
      refine Ex.fg (L := [pu, pu, pu, .int x3, pu, pu]) ⟨Or.inr ⟨rfl, rfl⟩, ⟨Or.inr ⟨rfl, rfl⟩, ⟨Or.inr ⟨rfl, rfl⟩, ⟨Or.inl rfl, ⟨Or.inr ⟨rfl, rfl⟩, ⟨Or.inr ⟨rfl, rfl⟩, trivial⟩⟩⟩⟩⟩⟩ ?_
      exact hX30 x3 s k
    · have k := k.2 c
      refine Ex.seg hq 1 (j := 14) (L' := [.ref 0, .int x1, .int x2, .int x3, .int x4, .int x5]) (S' := [.int x5]) (h' := hpS s) rfl ?_
      refine Ex.cl hq rfl rfl ?_
      refine Rn.mono (q_283 (d := d + 1) x5 s k) ?_
      rintro _ _ ⟨r2, s1, rfl, rfl, k⟩
      show Ex sc (d + 2) 145 15 [.ref 0, .int x1, .int x2, .int x3, .int x4, .int x5] [.int r2] (hpS s1) _
      refine Ex.seg hq 1 (j := 16) (L' := [.ref 0, .int x1, .int x2, .int x3, .int x4, .int x5]) (S' := [.int x4, .int r2]) (h' := hpS s1) rfl ?_
      refine Ex.i2 hq rfl (fun c => ?_) (fun c => ?_)
      · have k := k.1 c
        refine Ex.seg hq 2 (j := 8) (L' := [.ref 0, .int x1, .int x2, .int x3, .int x4, .int (x5 + (1 : Int32))]) (S' := []) (h' := hpS s1) rfl ?_
        exact ih x1 x2 x3 x4 (x5 + (1 : Int32)) s1 k hX30
      · have k := k.2 c
        refine Ex.seg hq 3 (j := 20) (L' := [.ref 0, .int x1, .int x2, .int x3, .int x4, .int x5]) (S' := [.int x2, .int x5, .ref 0]) (h' := hpS s1) rfl ?_
        refine Ex.cl hq rfl rfl ?_
        refine Rn.mono (q_146 (d := d + 0) x5 x2 s1 k) ?_
        rintro _ _ ⟨r4, s3, rfl, rfl, k⟩
        show Ex sc (d + 2) 145 21 [.ref 0, .int x1, .int x2, .int x3, .int x4, .int x5] [.int r4] (hpS s3) _
        refine Ex.seg hq 1 (j := 22) (L' := [.ref 0, .int x1, .int x2, .int x3, .int x4, .int x5]) (S' := [.int x1, .int r4]) (h' := hpS s3) rfl ?_
        refine Ex.i2 hq rfl (fun c => ?_) (fun c => ?_)
        · have k := k.1 c
          refine Ex.seg hq 2 (j := 8) (L' := [.ref 0, .int x1, .int x2, .int x3, .int x4, .int (x5 + (1 : Int32))]) (S' := []) (h' := hpS s3) rfl ?_
          exact ih x1 x2 x3 x4 (x5 + (1 : Int32)) s3 k hX30
        · have k := k.2 c
          refine Ex.seg hq 3 (j := 26) (L' := [.ref 0, .int x1, .int x2, .int x5, .int x4, .int x5]) (S' := [.int x5]) (h' := hpS s3) rfl ?_
          refine Ex.cl hq rfl rfl ?_
          refine Rn.mono (q_283 (d := d + 1) x5 s3 k) ?_
          rintro _ _ ⟨r6, s5, rfl, rfl, k⟩
          show Ex sc (d + 2) 145 27 [.ref 0, .int x1, .int x2, .int x5, .int x4, .int x5] [.int r6] (hpS s5) _
          refine Ex.seg hq 3 (j := 8) (L' := [.ref 0, .int x1, .int x2, .int x5, .int r6, .int (x5 + (1 : Int32))]) (S' := []) (h' := hpS s5) rfl ?_
          exact ih x1 x2 x5 r6 (x5 + (1 : Int32)) s5 k hX30
/-- RowAuditor.fewestThatMake(II)I -/
def w_145 (p0 : Int32) (p1 : Int32) (s : ST) (K : Int32 → ST → Prop) : Prop := (∃ m, w_145_8 m p0 p1 (-2 : Int32) (p1 + (1 : Int32)) (0 : Int32) s (fun y3 s7 => K y3 s7) K)
theorem q_145 {d : Nat} {K : Int32 → ST → Prop} (p0 : Int32) (p1 : Int32) (s : ST) (k : w_145 p0 p1 s K) : Rn sc (d + 2) 145 [.ref 0, .int p0, .int p1] (hpS s) (kI K) := by
  have hq : prog[145]? = some pm145 := rfl
  refine Rn.of (L := [.ref 0, .int p0, .int p1, pu, pu, pu]) hq rfl rfl ?_
  unfold w_145 at k
  refine Ex.seg hq 8 (j := 8) (L' := [.ref 0, .int p0, .int p1, .int (-2 : Int32), .int (p1 + (1 : Int32)), .int (0 : Int32)]) (S' := []) (h' := hpS s) rfl ?_
  obtain ⟨m, k⟩ := k
  refine q_145_8 (d := d) m p0 p1 (-2 : Int32) (p1 + (1 : Int32)) (0 : Int32) s k ?_
  · intro y3 s7 k
    refine Ex.seg hq 1 (j := 31) (L' := [pu, pu, pu, .int y3, pu, pu]) (S' := [.int y3]) (h' := hpS s7) rfl ?_
    exact Ex.rt hq rfl rfl ⟨y3, s7, rfl, rfl, k⟩
/-- RowAuditor.things(IZI)Z -/
def w_159 (p0 : Int32) (p1 : Int32) (p2 : Int32) (s : ST) (K : Int32 → ST → Prop) : Prop := w_162 p0 p1 s (fun r2 s1 => ((r2 = (-1 : Int32) → K (0 : Int32) s1) ∧ (¬ (r2 = (-1 : Int32)) → w_181 p2 (0 : Int32) (1073741823 : Int32) s1 (fun r4 s3 => ((¬ r4 = 0 → (pin r2 36 = true ∧ K (1 : Int32) (sA s3 28 (upd (s3.2.1 28) (r2).toNatClampNeg p2)))) ∧ (¬ (¬ r4 = 0) → K (0 : Int32) s3))))))
theorem q_159 {d : Nat} {K : Int32 → ST → Prop} (p0 : Int32) (p1 : Int32) (p2 : Int32) (s : ST) (k : w_159 p0 p1 p2 s K) : Rn sc (d + 3) 159 [.ref 0, .int p0, .int p1, .int p2] (hpS s) (kZ K) := by
  have hq : prog[159]? = some pm159 := rfl
  refine Rn.of (L := [.ref 0, .int p0, .int p1, .int p2, pu]) hq rfl rfl ?_
  unfold w_159 at k
  refine Ex.seg hq 2 (j := 2) (L' := [.ref 0, .int p0, .int p1, .int p2, pu]) (S' := [.int p1, .int p0]) (h' := hpS s) rfl ?_
  refine Ex.cl hq rfl rfl ?_
  refine Rn.mono (q_162 (d := d + 0) p0 p1 s k) ?_
  rintro _ _ ⟨r2, s1, rfl, rfl, k⟩
  show Ex sc (d + 3) 159 3 [.ref 0, .int p0, .int p1, .int p2, pu] [.int r2] (hpS s1) _
  refine Ex.seg hq 3 (j := 6) (L' := [.ref 0, .int p0, .int p1, .int p2, .int r2]) (S' := [.int (-1 : Int32), .int r2]) (h' := hpS s1) rfl ?_
  refine Ex.i2 hq rfl (fun c => ?_) (fun c => ?_)
  · have k := k.1 c
    refine Ex.seg hq 1 (j := 13) (L' := [.ref 0, .int p0, .int p1, .int p2, .int r2]) (S' := [.int (0 : Int32)]) (h' := hpS s1) rfl ?_
    exact Ex.zr hq rfl rfl (Or.inl rfl) ⟨(0 : Int32), s1, rfl, (Or.inl rfl), rfl, k⟩
  · have k := k.2 c
    refine Ex.seg hq 3 (j := 10) (L' := [.ref 0, .int p0, .int p1, .int p2, .int r2]) (S' := [.int (1073741823 : Int32), .int (0 : Int32), .int p2]) (h' := hpS s1) rfl ?_
    refine Ex.cl hq rfl rfl ?_
    refine Rn.mono (q_181 (d := d + 2) p2 (0 : Int32) (1073741823 : Int32) s1 k) ?_
    rintro _ _ ⟨r4, s3, rfl, hzr4, rfl, k⟩
    show Ex sc (d + 3) 159 11 [.ref 0, .int p0, .int p1, .int p2, .int r2] [.int r4] (hpS s3) _
    refine Ex.i1 hq rfl (fun c => ?_) (fun c => ?_)
    · have k := k.1 c
      refine Ex.seg hq 4 (j := 18) (L' := [.ref 0, .int p0, .int p1, .int p2, .int r2]) (S' := [.int p2, .int r2, .ref 28]) (h' := hpS s3) rfl ?_
      obtain ⟨hin, k⟩ := k
      refine Ex.ias hq rfl rfl hin (h' := hpS (sA s3 28 (upd (s3.2.1 28) (r2).toNatClampNeg p2))) (hset_28 _ _) ?_
      refine Ex.seg hq 1 (j := 20) (L' := [.ref 0, .int p0, .int p1, .int p2, .int r2]) (S' := [.int (1 : Int32)]) (h' := hpS (sA s3 28 (upd (s3.2.1 28) (r2).toNatClampNeg p2))) rfl ?_
      exact Ex.zr hq rfl rfl (Or.inr rfl) ⟨(1 : Int32), (sA s3 28 (upd (s3.2.1 28) (r2).toNatClampNeg p2)), rfl, (Or.inr rfl), rfl, k⟩
    · have k := k.2 c
      refine Ex.seg hq 1 (j := 13) (L' := [.ref 0, .int p0, .int p1, .int p2, .int r2]) (S' := [.int (0 : Int32)]) (h' := hpS s3) rfl ?_
      exact Ex.zr hq rfl rfl (Or.inl rfl) ⟨(0 : Int32), s3, rfl, (Or.inl rfl), rfl, k⟩
/-- RowAuditor.behind(IZIZ)I -/
def w_160 (p0 : Int32) (p1 : Int32) (p2 : Int32) (p3 : Int32) (s : ST) (K : Int32 → ST → Prop) : Prop := w_162 p0 p1 s (fun r2 s1 => w_162 p2 p3 s1 (fun r4 s3 => ((r2 = (-1 : Int32) → K (-1 : Int32) s3) ∧ (¬ (r2 = (-1 : Int32)) → ((¬ r4 = (-1 : Int32) → ((r2 = r4 → K (1 : Int32) s3) ∧ (¬ (r2 = r4) → w_163 r2 s3 (fun r6 s5 => (pin r4 36 = true ∧ (((r6 &&& ((s5.2.1 28) (r4).toNatClampNeg)) = 0 → K (0 : Int32) s5) ∧ (¬ ((r6 &&& ((s5.2.1 28) (r4).toNatClampNeg)) = 0) → K (1 : Int32) s5))))))) ∧ (¬ (¬ r4 = (-1 : Int32)) → K (-1 : Int32) s3))))))
theorem q_160 {d : Nat} {K : Int32 → ST → Prop} (p0 : Int32) (p1 : Int32) (p2 : Int32) (p3 : Int32) (s : ST) (k : w_160 p0 p1 p2 p3 s K) : Rn sc (d + 3) 160 [.ref 0, .int p0, .int p1, .int p2, .int p3] (hpS s) (kI K) := by
  have hq : prog[160]? = some pm160 := rfl
  refine Rn.of (L := [.ref 0, .int p0, .int p1, .int p2, .int p3, pu, pu]) hq rfl rfl ?_
  unfold w_160 at k
  refine Ex.seg hq 2 (j := 2) (L' := [.ref 0, .int p0, .int p1, .int p2, .int p3, pu, pu]) (S' := [.int p1, .int p0]) (h' := hpS s) rfl ?_
  refine Ex.cl hq rfl rfl ?_
  refine Rn.mono (q_162 (d := d + 0) p0 p1 s k) ?_
  rintro _ _ ⟨r2, s1, rfl, rfl, k⟩
  show Ex sc (d + 3) 160 3 [.ref 0, .int p0, .int p1, .int p2, .int p3, pu, pu] [.int r2] (hpS s1) _
  refine Ex.seg hq 3 (j := 6) (L' := [.ref 0, .int p0, .int p1, .int p2, .int p3, .int r2, pu]) (S' := [.int p3, .int p2]) (h' := hpS s1) rfl ?_
  refine Ex.cl hq rfl rfl ?_
  refine Rn.mono (q_162 (d := d + 0) p2 p3 s1 k) ?_
  rintro _ _ ⟨r4, s3, rfl, rfl, k⟩
  show Ex sc (d + 3) 160 7 [.ref 0, .int p0, .int p1, .int p2, .int p3, .int r2, pu] [.int r4] (hpS s3) _
  refine Ex.seg hq 3 (j := 10) (L' := [.ref 0, .int p0, .int p1, .int p2, .int p3, .int r2, .int r4]) (S' := [.int (-1 : Int32), .int r2]) (h' := hpS s3) rfl ?_
  refine Ex.i2 hq rfl (fun c => ?_) (fun c => ?_)
  · have k := k.1 c
    refine Ex.seg hq 1 (j := 15) (L' := [.ref 0, .int p0, .int p1, .int p2, .int p3, .int r2, .int r4]) (S' := [.int (-1 : Int32)]) (h' := hpS s3) rfl ?_
    exact Ex.rt hq rfl rfl ⟨(-1 : Int32), s3, rfl, rfl, k⟩
  · have k := k.2 c
    refine Ex.seg hq 2 (j := 13) (L' := [.ref 0, .int p0, .int p1, .int p2, .int p3, .int r2, .int r4]) (S' := [.int (-1 : Int32), .int r4]) (h' := hpS s3) rfl ?_
    refine Ex.i2 hq rfl (fun c => ?_) (fun c => ?_)
    · have k := k.1 c
      refine Ex.seg hq 2 (j := 18) (L' := [.ref 0, .int p0, .int p1, .int p2, .int p3, .int r2, .int r4]) (S' := [.int r4, .int r2]) (h' := hpS s3) rfl ?_
      refine Ex.i2 hq rfl (fun c => ?_) (fun c => ?_)
      · have k := k.1 c
        refine Ex.seg hq 2 (j := 31) (L' := [.ref 0, .int p0, .int p1, .int p2, .int p3, .int r2, .int r4]) (S' := [.int (1 : Int32)]) (h' := hpS s3) rfl ?_
        exact Ex.rt hq rfl rfl ⟨(1 : Int32), s3, rfl, rfl, k⟩
      · have k := k.2 c
        refine Ex.seg hq 2 (j := 21) (L' := [.ref 0, .int p0, .int p1, .int p2, .int p3, .int r2, .int r4]) (S' := [.int r2, .ref 0]) (h' := hpS s3) rfl ?_
        refine Ex.cl hq rfl rfl ?_
        refine Rn.mono (q_163 (d := d + 1) r2 s3 k) ?_
        rintro _ _ ⟨r6, s5, rfl, rfl, k⟩
        show Ex sc (d + 3) 160 22 [.ref 0, .int p0, .int p1, .int p2, .int p3, .int r2, .int r4] [.int r6] (hpS s5) _
        refine Ex.seg hq 3 (j := 25) (L' := [.ref 0, .int p0, .int p1, .int p2, .int p3, .int r2, .int r4]) (S' := [.int r4, .ref 28, .int r6]) (h' := hpS s5) rfl ?_
        obtain ⟨hin, k⟩ := k
        refine Ex.ial hq rfl rfl hin ?_
        refine Ex.seg hq 1 (j := 27) (L' := [.ref 0, .int p0, .int p1, .int p2, .int p3, .int r2, .int r4]) (S' := [.int (r6 &&& ((s5.2.1 28) (r4).toNatClampNeg))]) (h' := hpS s5) rfl ?_
        refine Ex.i1 hq rfl (fun c => ?_) (fun c => ?_)
        · have k := k.1 c
          refine Ex.seg hq 1 (j := 31) (L' := [.ref 0, .int p0, .int p1, .int p2, .int p3, .int r2, .int r4]) (S' := [.int (0 : Int32)]) (h' := hpS s5) rfl ?_
          exact Ex.rt hq rfl rfl ⟨(0 : Int32), s5, rfl, rfl, k⟩
        · have k := k.2 c
          refine Ex.seg hq 2 (j := 31) (L' := [.ref 0, .int p0, .int p1, .int p2, .int p3, .int r2, .int r4]) (S' := [.int (1 : Int32)]) (h' := hpS s5) rfl ?_
          exact Ex.rt hq rfl rfl ⟨(1 : Int32), s5, rfl, rfl, k⟩
    · have k := k.2 c
      refine Ex.seg hq 1 (j := 15) (L' := [.ref 0, .int p0, .int p1, .int p2, .int p3, .int r2, .int r4]) (S' := [.int (-1 : Int32)]) (h' := hpS s3) rfl ?_
      exact Ex.rt hq rfl rfl ⟨(-1 : Int32), s3, rfl, rfl, k⟩
/-- RowAuditor.answer(II)Z -/
def w_169 (p0 : Int32) (p1 : Int32) (s : ST) (K : Int32 → ST → Prop) : Prop := w_171 p0 s (fun r2 s1 => ((r2 = 0 → K (0 : Int32) s1) ∧ (¬ (r2 = 0) → w_181 p1 (0 : Int32) (1000000 : Int32) s1 (fun r4 s3 => ((r4 = 0 → K (0 : Int32) s3) ∧ (¬ (r4 = 0) → (pin p0 60 = true ∧ ((((s3.2.1 32) (p0).toNatClampNeg) = (-1 : Int32) → (pin p0 60 = true ∧ K (1 : Int32) (sA s3 32 (upd (s3.2.1 32) (p0).toNatClampNeg p1)))) ∧ (¬ (((s3.2.1 32) (p0).toNatClampNeg) = (-1 : Int32)) → K (0 : Int32) s3)))))))))
theorem q_169 {d : Nat} {K : Int32 → ST → Prop} (p0 : Int32) (p1 : Int32) (s : ST) (k : w_169 p0 p1 s K) : Rn sc (d + 2) 169 [.ref 0, .int p0, .int p1] (hpS s) (kZ K) := by
  have hq : prog[169]? = some pm169 := rfl
  refine Rn.of (L := [.ref 0, .int p0, .int p1]) hq rfl rfl ?_
  unfold w_169 at k
  refine Ex.seg hq 2 (j := 2) (L' := [.ref 0, .int p0, .int p1]) (S' := [.int p0, .ref 0]) (h' := hpS s) rfl ?_
  refine Ex.cl hq rfl rfl ?_
  refine Rn.mono (q_171 (d := d + 0) p0 s k) ?_
  rintro _ _ ⟨r2, s1, rfl, hzr2, rfl, k⟩
  show Ex sc (d + 2) 169 3 [.ref 0, .int p0, .int p1] [.int r2] (hpS s1) _
  refine Ex.i1 hq rfl (fun c => ?_) (fun c => ?_)
  · have k := k.1 c
    refine Ex.seg hq 1 (j := 16) (L' := [.ref 0, .int p0, .int p1]) (S' := [.int (0 : Int32)]) (h' := hpS s1) rfl ?_
    exact Ex.zr hq rfl rfl (Or.inl rfl) ⟨(0 : Int32), s1, rfl, (Or.inl rfl), rfl, k⟩
  · have k := k.2 c
    refine Ex.seg hq 3 (j := 7) (L' := [.ref 0, .int p0, .int p1]) (S' := [.int (1000000 : Int32), .int (0 : Int32), .int p1]) (h' := hpS s1) rfl ?_
    refine Ex.cl hq rfl rfl ?_
    refine Rn.mono (q_181 (d := d + 1) p1 (0 : Int32) (1000000 : Int32) s1 k) ?_
    rintro _ _ ⟨r4, s3, rfl, hzr4, rfl, k⟩
    show Ex sc (d + 2) 169 8 [.ref 0, .int p0, .int p1] [.int r4] (hpS s3) _
    refine Ex.i1 hq rfl (fun c => ?_) (fun c => ?_)
    · have k := k.1 c
      refine Ex.seg hq 1 (j := 16) (L' := [.ref 0, .int p0, .int p1]) (S' := [.int (0 : Int32)]) (h' := hpS s3) rfl ?_
      exact Ex.zr hq rfl rfl (Or.inl rfl) ⟨(0 : Int32), s3, rfl, (Or.inl rfl), rfl, k⟩
    · have k := k.2 c
      refine Ex.seg hq 3 (j := 12) (L' := [.ref 0, .int p0, .int p1]) (S' := [.int p0, .ref 32]) (h' := hpS s3) rfl ?_
      obtain ⟨hin, k⟩ := k
      refine Ex.ial hq rfl rfl hin ?_
      refine Ex.seg hq 1 (j := 14) (L' := [.ref 0, .int p0, .int p1]) (S' := [.int (-1 : Int32), .int ((s3.2.1 32) (p0).toNatClampNeg)]) (h' := hpS s3) rfl ?_
      refine Ex.i2 hq rfl (fun c => ?_) (fun c => ?_)
      · have k := k.1 c
        refine Ex.seg hq 4 (j := 21) (L' := [.ref 0, .int p0, .int p1]) (S' := [.int p1, .int p0, .ref 32]) (h' := hpS s3) rfl ?_
        obtain ⟨hin, k⟩ := k
        refine Ex.ias hq rfl rfl hin (h' := hpS (sA s3 32 (upd (s3.2.1 32) (p0).toNatClampNeg p1))) (hset_32 _ _) ?_
        refine Ex.seg hq 1 (j := 23) (L' := [.ref 0, .int p0, .int p1]) (S' := [.int (1 : Int32)]) (h' := hpS (sA s3 32 (upd (s3.2.1 32) (p0).toNatClampNeg p1))) rfl ?_
        exact Ex.zr hq rfl rfl (Or.inr rfl) ⟨(1 : Int32), (sA s3 32 (upd (s3.2.1 32) (p0).toNatClampNeg p1)), rfl, (Or.inr rfl), rfl, k⟩
      · have k := k.2 c
        refine Ex.seg hq 1 (j := 16) (L' := [.ref 0, .int p0, .int p1]) (S' := [.int (0 : Int32)]) (h' := hpS s3) rfl ?_
        exact Ex.zr hq rfl rfl (Or.inl rfl) ⟨(0 : Int32), s3, rfl, (Or.inl rfl), rfl, k⟩
def w_32_33 : Nat → Int32 → Int32 → Int32 → Int32 → ST → (Int32 → Int32 → Int32 → ST → Prop) → (Int32 → ST → Prop) → Prop
  | 0, _, _, _, _, _, _, _ => False
  | n + 1, x1, x2, x3, x4, s, X57, K => (((s.1 801) ≤ (s.1 5009) → X57 x1 x2 x3 s) ∧ (¬ ((s.1 801) ≤ (s.1 5009)) → w_123 (s.1 5009) s (fun r10 s9 => w_9 r10 (3 : Int32) s9 (fun r12 s11 => ((x4 < r12 → X57 x1 x2 x3 s11) ∧ (¬ (x4 < r12) → w_32_33 n x1 x2 x3 x4 (sI s11 5009 ((s11.1 5009) + (1 : Int32))) X57 K))))))
theorem q_32_33 {d : Nat} {X57 : Int32 → Int32 → Int32 → ST → Prop} {K : Int32 → ST → Prop} : ∀ (n : Nat) (x1 : Int32) (x2 : Int32) (x3 : Int32) (x4 : Int32) (s : ST), w_32_33 n x1 x2 x3 x4 s X57 K → (∀ (y1 : Int32) (y2 : Int32) (y3 : Int32) (s : ST), X57 y1 y2 y3 s → Ex sc (d + 3) 32 57 [.ref 50, .int y1, .int y2, .int y3, pu, pu] [] (hpS s) (kZ K)) → Ex sc (d + 3) 32 33 [.ref 50, .int x1, .int x2, .int x3, .int x4, pu] [] (hpS s) (kZ K) := by
  have hq : prog[32]? = some pm32 := rfl
  intro n
  induction n with
  | zero =>
    intro x1 x2 x3 x4 s k
    exact k.elim
  | succ n ih =>
    intro x1 x2 x3 x4 s k hX57
    rw [w_32_33] at k
    refine Ex.seg hq 5 (j := 38) (L' := [.ref 50, .int x1, .int x2, .int x3, .int x4, pu]) (S' := [.int (s.1 801), .int (s.1 5009)]) (h' := hpS s) rfl ?_
    refine Ex.i2 hq rfl (fun c => ?_) (fun c => ?_)
    · have k := k.1 c
      refine Ex.fg (L := [.ref 50, .int x1, .int x2, .int x3, pu, pu]) ⟨Or.inl rfl, ⟨Or.inl rfl, ⟨Or.inl rfl, ⟨Or.inl rfl, ⟨Or.inr ⟨rfl, rfl⟩, ⟨Or.inl rfl, trivial⟩⟩⟩⟩⟩⟩ ?_
      exact hX57 x1 x2 x3 s k
    · have k := k.2 c
      refine Ex.seg hq 6 (j := 45) (L' := [.ref 50, .int x1, .int x2, .int x3, .int x4, pu]) (S' := [.int (s.1 5009), .ref 8, .ref 1]) (h' := hpS s) rfl ?_
      refine Ex.cl hq rfl rfl ?_
      refine Rn.mono (q_123 (d := d + 2) (s.1 5009) s k) ?_
      rintro _ _ ⟨r10, s9, rfl, rfl, k⟩
      show Ex sc (d + 3) 32 46 [.ref 50, .int x1, .int x2, .int x3, .int x4, pu] [.int r10, .ref 1] (hpS s9) _
      refine Ex.seg hq 1 (j := 47) (L' := [.ref 50, .int x1, .int x2, .int x3, .int x4, pu]) (S' := [.int (3 : Int32), .int r10, .ref 1]) (h' := hpS s9) rfl ?_
      refine Ex.cl hq rfl rfl ?_
      refine Rn.mono (q_9 (d := d + 2) r10 (3 : Int32) s9 k) ?_
      rintro _ _ ⟨r12, s11, rfl, rfl, k⟩
      show Ex sc (d + 3) 32 48 [.ref 50, .int x1, .int x2, .int x3, .int x4, pu] [.int r12] (hpS s11) _
      refine Ex.seg hq 1 (j := 49) (L' := [.ref 50, .int x1, .int x2, .int x3, .int x4, pu]) (S' := [.int x4, .int r12]) (h' := hpS s11) rfl ?_
      refine Ex.i2 hq rfl (fun c => ?_) (fun c => ?_)
      · have k := k.1 c
        refine Ex.fg (L := [.ref 50, .int x1, .int x2, .int x3, pu, pu]) ⟨Or.inl rfl, ⟨Or.inl rfl, ⟨Or.inl rfl, ⟨Or.inl rfl, ⟨Or.inr ⟨rfl, rfl⟩, ⟨Or.inl rfl, trivial⟩⟩⟩⟩⟩⟩ ?_
        exact hX57 x1 x2 x3 s11 k
      · have k := k.2 c
        refine Ex.seg hq 7 (j := 33) (L' := [.ref 50, .int x1, .int x2, .int x3, .int x4, pu]) (S' := []) (h' := hpS (sI s11 5009 ((s11.1 5009) + (1 : Int32)))) rfl ?_
        exact ih x1 x2 x3 x4 (sI s11 5009 ((s11.1 5009) + (1 : Int32))) k hX57
def w_32_61 : Nat → Int32 → Int32 → Int32 → Int32 → ST → (Int32 → Int32 → ST → Prop) → (Int32 → ST → Prop) → Prop
  | 0, _, _, _, _, _, _, _ => False
  | n + 1, x1, x2, x3, x5, s, X86, K => (((s.1 5009) ≤ x5 → X86 x1 x2 s) ∧ (¬ ((s.1 5009) ≤ x5) → (((150 : Int32) ≤ x5 → X86 x1 x2 s) ∧ (¬ ((150 : Int32) ≤ x5) → (pin x5 150 = true ∧ w_123 x5 s (fun r15 s14 => w_33 x3 r15 s14 (fun r17 s16 => (pin x5 150 = true ∧ w_32_61 n x1 x2 x3 (x5 + (1 : Int32)) (sA s16 52 (upd (s16.2.1 52) (x5).toNatClampNeg (((s.2.1 51) (x5).toNatClampNeg) &&& r17))) X86 K))))))))
theorem q_32_61 {d : Nat} {X86 : Int32 → Int32 → ST → Prop} {K : Int32 → ST → Prop} : ∀ (n : Nat) (x1 : Int32) (x2 : Int32) (x3 : Int32) (x5 : Int32) (s : ST), w_32_61 n x1 x2 x3 x5 s X86 K → (∀ (y1 : Int32) (y2 : Int32) (s : ST), X86 y1 y2 s → Ex sc (d + 3) 32 86 [.ref 50, .int y1, .int y2, pu, pu, pu] [] (hpS s) (kZ K)) → Ex sc (d + 3) 32 61 [.ref 50, .int x1, .int x2, .int x3, pu, .int x5] [] (hpS s) (kZ K) := by
  have hq : prog[32]? = some pm32 := rfl
  intro n
  induction n with
  | zero =>
    intro x1 x2 x3 x5 s k
    exact k.elim
  | succ n ih =>
    intro x1 x2 x3 x5 s k hX86
    rw [w_32_61] at k
    refine Ex.seg hq 3 (j := 64) (L' := [.ref 50, .int x1, .int x2, .int x3, pu, .int x5]) (S' := [.int (s.1 5009), .int x5]) (h' := hpS s) rfl ?_
    refine Ex.i2 hq rfl (fun c => ?_) (fun c => ?_)
    · have k := k.1 c
      refine Ex.fg (L := [.ref 50, .int x1, .int x2, pu, pu, pu]) ⟨Or.inl rfl, ⟨Or.inl rfl, ⟨Or.inl rfl, ⟨Or.inr ⟨rfl, rfl⟩, ⟨Or.inl rfl, ⟨Or.inr ⟨rfl, rfl⟩, trivial⟩⟩⟩⟩⟩⟩ ?_
      exact hX86 x1 x2 s k
    · have k := k.2 c
      refine Ex.seg hq 2 (j := 67) (L' := [.ref 50, .int x1, .int x2, .int x3, pu, .int x5]) (S' := [.int (150 : Int32), .int x5]) (h' := hpS s) rfl ?_
      refine Ex.i2 hq rfl (fun c => ?_) (fun c => ?_)
      · have k := k.1 c
        refine Ex.fg (L := [.ref 50, .int x1, .int x2, pu, pu, pu]) ⟨Or.inl rfl, ⟨Or.inl rfl, ⟨Or.inl rfl, ⟨Or.inr ⟨rfl, rfl⟩, ⟨Or.inl rfl, ⟨Or.inr ⟨rfl, rfl⟩, trivial⟩⟩⟩⟩⟩⟩ ?_
        exact hX86 x1 x2 s k
      · have k := k.2 c
        refine Ex.seg hq 6 (j := 74) (L' := [.ref 50, .int x1, .int x2, .int x3, pu, .int x5]) (S' := [.int x5, .ref 51, .int x5, .ref 52]) (h' := hpS s) rfl ?_
        obtain ⟨hin, k⟩ := k
        refine Ex.ial hq rfl rfl hin ?_
        refine Ex.seg hq 5 (j := 80) (L' := [.ref 50, .int x1, .int x2, .int x3, pu, .int x5]) (S' := [.int x5, .ref 8, .int x3, .ref 50, .int ((s.2.1 51) (x5).toNatClampNeg), .int x5, .ref 52]) (h' := hpS s) rfl ?_
        refine Ex.cl hq rfl rfl ?_
        refine Rn.mono (q_123 (d := d + 2) x5 s k) ?_
        rintro _ _ ⟨r15, s14, rfl, rfl, k⟩
        show Ex sc (d + 3) 32 81 [.ref 50, .int x1, .int x2, .int x3, pu, .int x5] [.int r15, .int x3, .ref 50, .int ((s.2.1 51) (x5).toNatClampNeg), .int x5, .ref 52] (hpS s14) _
        refine Ex.cl hq rfl rfl ?_
        refine Rn.mono (q_33 (d := d + 0) x3 r15 s14 k) ?_
        rintro _ _ ⟨r17, s16, rfl, rfl, k⟩
        show Ex sc (d + 3) 32 82 [.ref 50, .int x1, .int x2, .int x3, pu, .int x5] [.int r17, .int ((s.2.1 51) (x5).toNatClampNeg), .int x5, .ref 52] (hpS s16) _
        refine Ex.seg hq 1 (j := 83) (L' := [.ref 50, .int x1, .int x2, .int x3, pu, .int x5]) (S' := [.int (((s.2.1 51) (x5).toNatClampNeg) &&& r17), .int x5, .ref 52]) (h' := hpS s16) rfl ?_
        obtain ⟨hin, k⟩ := k
        refine Ex.ias hq rfl rfl hin (h' := hpS (sA s16 52 (upd (s16.2.1 52) (x5).toNatClampNeg (((s.2.1 51) (x5).toNatClampNeg) &&& r17)))) (hset_52 _ _) ?_
        refine Ex.seg hq 2 (j := 61) (L' := [.ref 50, .int x1, .int x2, .int x3, pu, .int (x5 + (1 : Int32))]) (S' := []) (h' := hpS (sA s16 52 (upd (s16.2.1 52) (x5).toNatClampNeg (((s.2.1 51) (x5).toNatClampNeg) &&& r17)))) rfl ?_
        exact ih x1 x2 x3 (x5 + (1 : Int32)) (sA s16 52 (upd (s16.2.1 52) (x5).toNatClampNeg (((s.2.1 51) (x5).toNatClampNeg) &&& r17))) k hX86
/-- RowAuditor$Fitter.startAt(II)Z -/
def w_32 (p0 : Int32) (p1 : Int32) (s : ST) (K : Int32 → ST → Prop) : Prop := w_181 p0 (0 : Int32) (149 : Int32) s (fun r2 s1 => ((r2 = 0 → K (0 : Int32) s1) ∧ (¬ (r2 = 0) → (pin p0 150 = true ∧ w_184 (0 : Int32) ((s1.2.1 51) (p0).toNatClampNeg) s1 (fun r4 s3 => ((¬ r4 = 0 → w_123 p0 s3 (fun r6 s5 => w_9 r6 (3 : Int32) s5 (fun r8 s7 => (∃ m, w_32_33 m p0 p1 r6 (r8 + (s7.1 5008)) (sI s7 5009 (p0 + (1 : Int32))) (fun y1 y2 y3 s13 => (∃ m, w_32_61 m y1 y2 y3 (y1 + (1 : Int32)) s13 (fun y1 y2 s18 => w_34 (y1 + (1 : Int32)) s18 (fun s19 => (pin y1 150 = true ∧ w_36 (0 : Int32) y1 y2 (sA s19 52 (upd (s19.2.1 52) (y1).toNatClampNeg (1 : Int32))) (fun r22 s21 => K r22 s21)))) K)) K)))) ∧ (¬ (¬ r4 = 0) → K (0 : Int32) s3)))))))
theorem q_32 {d : Nat} {K : Int32 → ST → Prop} (p0 : Int32) (p1 : Int32) (s : ST) (k : w_32 p0 p1 s K) : Rn sc (d + 3) 32 [.ref 50, .int p0, .int p1] (hpS s) (kZ K) := by
  have hq : prog[32]? = some pm32 := rfl
  refine Rn.of (L := [.ref 50, .int p0, .int p1, pu, pu, pu]) hq rfl rfl ?_
  unfold w_32 at k
  refine Ex.seg hq 3 (j := 3) (L' := [.ref 50, .int p0, .int p1, pu, pu, pu]) (S' := [.int (149 : Int32), .int (0 : Int32), .int p0]) (h' := hpS s) rfl ?_
  refine Ex.cl hq rfl rfl ?_
  refine Rn.mono (q_181 (d := d + 2) p0 (0 : Int32) (149 : Int32) s k) ?_
  rintro _ _ ⟨r2, s1, rfl, hzr2, rfl, k⟩
  show Ex sc (d + 3) 32 4 [.ref 50, .int p0, .int p1, pu, pu, pu] [.int r2] (hpS s1) _
  refine Ex.i1 hq rfl (fun c => ?_) (fun c => ?_)
  · have k := k.1 c
    refine Ex.seg hq 1 (j := 13) (L' := [.ref 50, .int p0, .int p1, pu, pu, pu]) (S' := [.int (0 : Int32)]) (h' := hpS s1) rfl ?_
    exact Ex.zr hq rfl rfl (Or.inl rfl) ⟨(0 : Int32), s1, rfl, (Or.inl rfl), rfl, k⟩
  · have k := k.2 c
    refine Ex.seg hq 4 (j := 9) (L' := [.ref 50, .int p0, .int p1, pu, pu, pu]) (S' := [.int p0, .ref 51, .int (0 : Int32)]) (h' := hpS s1) rfl ?_
    obtain ⟨hin, k⟩ := k
    refine Ex.ial hq rfl rfl hin ?_
    refine Ex.cl hq rfl rfl ?_
    refine Rn.mono (q_184 (d := d + 2) (0 : Int32) ((s1.2.1 51) (p0).toNatClampNeg) s1 k) ?_
    rintro _ _ ⟨r4, s3, rfl, hzr4, rfl, k⟩
    show Ex sc (d + 3) 32 11 [.ref 50, .int p0, .int p1, pu, pu, pu] [.int r4] (hpS s3) _
    refine Ex.i1 hq rfl (fun c => ?_) (fun c => ?_)
    · have k := k.1 c
      refine Ex.seg hq 3 (j := 17) (L' := [.ref 50, .int p0, .int p1, pu, pu, pu]) (S' := [.int p0, .ref 8]) (h' := hpS s3) rfl ?_
      refine Ex.cl hq rfl rfl ?_
      refine Rn.mono (q_123 (d := d + 2) p0 s3 k) ?_
      rintro _ _ ⟨r6, s5, rfl, rfl, k⟩
      show Ex sc (d + 3) 32 18 [.ref 50, .int p0, .int p1, pu, pu, pu] [.int r6] (hpS s5) _
      refine Ex.seg hq 5 (j := 23) (L' := [.ref 50, .int p0, .int p1, .int r6, pu, pu]) (S' := [.int (3 : Int32), .int r6, .ref 1]) (h' := hpS s5) rfl ?_
      refine Ex.cl hq rfl rfl ?_
      refine Rn.mono (q_9 (d := d + 2) r6 (3 : Int32) s5 k) ?_
      rintro _ _ ⟨r8, s7, rfl, rfl, k⟩
      show Ex sc (d + 3) 32 24 [.ref 50, .int p0, .int p1, .int r6, pu, pu] [.int r8] (hpS s7) _
      refine Ex.seg hq 9 (j := 33) (L' := [.ref 50, .int p0, .int p1, .int r6, .int (r8 + (s7.1 5008)), pu]) (S' := []) (h' := hpS (sI s7 5009 (p0 + (1 : Int32)))) rfl ?_
      obtain ⟨m, k⟩ := k
      refine q_32_33 (d := d) m p0 p1 r6 (r8 + (s7.1 5008)) (sI s7 5009 (p0 + (1 : Int32))) k ?_
      · intro y1 y2 y3 s13 k
        refine Ex.seg hq 4 (j := 61) (L' := [.ref 50, .int y1, .int y2, .int y3, pu, .int (y1 + (1 : Int32))]) (S' := []) (h' := hpS s13) rfl ?_
        obtain ⟨m, k⟩ := k
        refine q_32_61 (d := d) m y1 y2 y3 (y1 + (1 : Int32)) s13 k ?_
        · intro y1 y2 s18 k
          refine Ex.seg hq 4 (j := 90) (L' := [.ref 50, .int y1, .int y2, pu, pu, pu]) (S' := [.int (y1 + (1 : Int32)), .ref 50]) (h' := hpS s18) rfl ?_
          refine Ex.cl hq rfl rfl ?_
          refine Rn.mono (q_34 (d := d + 0) (y1 + (1 : Int32)) s18 k) ?_
          rintro _ _ ⟨s19, rfl, rfl, k⟩
          show Ex sc (d + 3) 32 91 [.ref 50, .int y1, .int y2, pu, pu, pu] [] (hpS s19) _
          refine Ex.seg hq 4 (j := 95) (L' := [.ref 50, .int y1, .int y2, pu, pu, pu]) (S' := [.int (1 : Int32), .int y1, .ref 52]) (h' := hpS s19) rfl ?_
          obtain ⟨hin, k⟩ := k
          refine Ex.ias hq rfl rfl hin (h' := hpS (sA s19 52 (upd (s19.2.1 52) (y1).toNatClampNeg (1 : Int32)))) (hset_52 _ _) ?_
          refine Ex.seg hq 4 (j := 100) (L' := [.ref 50, .int y1, .int y2, pu, pu, pu]) (S' := [.int y2, .int y1, .int (0 : Int32), .ref 50]) (h' := hpS (sA s19 52 (upd (s19.2.1 52) (y1).toNatClampNeg (1 : Int32)))) rfl ?_
          refine Ex.cl hq rfl rfl ?_
          refine Rn.mono (q_36 (d := d + 0) (0 : Int32) y1 y2 (sA s19 52 (upd (s19.2.1 52) (y1).toNatClampNeg (1 : Int32))) k) ?_
          rintro _ _ ⟨r22, s21, rfl, hzr22, rfl, k⟩
          show Ex sc (d + 3) 32 101 [.ref 50, .int y1, .int y2, pu, pu, pu] [.int r22] (hpS s21) _
          exact Ex.zr hq rfl rfl hzr22 ⟨r22, s21, rfl, hzr22, rfl, k⟩
    · have k := k.2 c
      refine Ex.seg hq 1 (j := 13) (L' := [.ref 50, .int p0, .int p1, pu, pu, pu]) (S' := [.int (0 : Int32)]) (h' := hpS s3) rfl ?_
      exact Ex.zr hq rfl rfl (Or.inl rfl) ⟨(0 : Int32), s3, rfl, (Or.inl rfl), rfl, k⟩
/-- RowAuditor$Flow.pass(I)V -/
def w_42 (p0 : Int32) (s : ST) (K : ST → Prop) : Prop := w_9 p0 (0 : Int32) s (fun r2 s1 => w_9 p0 (1 : Int32) s1 (fun r4 s3 => w_16 p0 s3 (fun r6 s5 => w_181 r4 (0 : Int32) (9 : Int32) s5 (fun r8 s7 => ((¬ r8 = 0 → ((¬ r2 = 0 → ((¬ r2 = (1 : Int32) → ((¬ r2 = (2 : Int32) → K s7) ∧ (¬ (¬ r2 = (2 : Int32)) → w_181 r6 (0 : Int32) (9 : Int32) s7 (fun r10 s9 => ((r10 = 0 → K s9) ∧ (¬ (r10 = 0) → (pin r6 10 = true ∧ w_119 p0 s9 (fun r12 s11 => w_43 r4 ((s9.2.1 38) (r6).toNatClampNeg) r12 s11 (fun s13 => (pin r6 10 = true ∧ w_119 p0 s13 (fun r16 s15 => (pin r6 10 = true ∧ K (sA s15 39 (upd (s15.2.1 39) (r6).toNatClampNeg (((s13.2.1 39) (r6).toNatClampNeg) + r16))))))))))))))) ∧ (¬ (¬ r2 = (1 : Int32)) → w_119 p0 s7 (fun r18 s17 => w_43 r4 (2 : Int32) r18 s17 (fun s19 => K s19))))) ∧ (¬ (¬ r2 = 0) → (pin r4 10 = true ∧ w_119 p0 s7 (fun r22 s21 => (pin r4 10 = true ∧ K (sA s21 39 (upd (s21.2.1 39) (r4).toNatClampNeg (((s7.2.1 39) (r4).toNatClampNeg) + r22))))))))) ∧ (¬ (¬ r8 = 0) → K s7))))))
theorem q_42 {d : Nat} {K : ST → Prop} (p0 : Int32) (s : ST) (k : w_42 p0 s K) : Rn sc (d + 3) 42 [.ref 37, .int p0] (hpS s) (kV K) := by
  have hq : prog[42]? = some pm42 := rfl
  refine Rn.of (L := [.ref 37, .int p0, pu, pu, pu]) hq rfl rfl ?_
  unfold w_42 at k
  refine Ex.seg hq 4 (j := 4) (L' := [.ref 37, .int p0, pu, pu, pu]) (S' := [.int (0 : Int32), .int p0, .ref 1]) (h' := hpS s) rfl ?_
  refine Ex.cl hq rfl rfl ?_
  refine Rn.mono (q_9 (d := d + 2) p0 (0 : Int32) s k) ?_
  rintro _ _ ⟨r2, s1, rfl, rfl, k⟩
  show Ex sc (d + 3) 42 5 [.ref 37, .int p0, pu, pu, pu] [.int r2] (hpS s1) _
  refine Ex.seg hq 5 (j := 10) (L' := [.ref 37, .int p0, .int r2, pu, pu]) (S' := [.int (1 : Int32), .int p0, .ref 1]) (h' := hpS s1) rfl ?_
  refine Ex.cl hq rfl rfl ?_
  refine Rn.mono (q_9 (d := d + 2) p0 (1 : Int32) s1 k) ?_
  rintro _ _ ⟨r4, s3, rfl, rfl, k⟩
  show Ex sc (d + 3) 42 11 [.ref 37, .int p0, .int r2, pu, pu] [.int r4] (hpS s3) _
  refine Ex.seg hq 4 (j := 15) (L' := [.ref 37, .int p0, .int r2, .int r4, pu]) (S' := [.int p0, .ref 1]) (h' := hpS s3) rfl ?_
  refine Ex.cl hq rfl rfl ?_
  refine Rn.mono (q_16 (d := d + 1) p0 s3 k) ?_
  rintro _ _ ⟨r6, s5, rfl, rfl, k⟩
  show Ex sc (d + 3) 42 16 [.ref 37, .int p0, .int r2, .int r4, pu] [.int r6] (hpS s5) _
  refine Ex.seg hq 4 (j := 20) (L' := [.ref 37, .int p0, .int r2, .int r4, .int r6]) (S' := [.int (9 : Int32), .int (0 : Int32), .int r4]) (h' := hpS s5) rfl ?_
  refine Ex.cl hq rfl rfl ?_
  refine Rn.mono (q_181 (d := d + 2) r4 (0 : Int32) (9 : Int32) s5 k) ?_
  rintro _ _ ⟨r8, s7, rfl, hzr8, rfl, k⟩
  show Ex sc (d + 3) 42 21 [.ref 37, .int p0, .int r2, .int r4, .int r6] [.int r8] (hpS s7) _
  refine Ex.i1 hq rfl (fun c => ?_) (fun c => ?_)
  · have k := k.1 c
    refine Ex.seg hq 1 (j := 24) (L' := [.ref 37, .int p0, .int r2, .int r4, .int r6]) (S' := [.int r2]) (h' := hpS s7) rfl ?_
    refine Ex.i1 hq rfl (fun c => ?_) (fun c => ?_)
    · have k := k.1 c
      refine Ex.seg hq 2 (j := 39) (L' := [.ref 37, .int p0, .int r2, .int r4, .int r6]) (S' := [.int (1 : Int32), .int r2]) (h' := hpS s7) rfl ?_
      refine Ex.i2 hq rfl (fun c => ?_) (fun c => ?_)
      · have k := k.1 c
        refine Ex.seg hq 2 (j := 51) (L' := [.ref 37, .int p0, .int r2, .int r4, .int r6]) (S' := [.int (2 : Int32), .int r2]) (h' := hpS s7) rfl ?_
        refine Ex.i2 hq rfl (fun c => ?_) (fun c => ?_)
        · have k := k.1 c
          exact Ex.rt hq rfl rfl ⟨s7, rfl, rfl, k⟩
        · have k := k.2 c
          refine Ex.seg hq 3 (j := 55) (L' := [.ref 37, .int p0, .int r2, .int r4, .int r6]) (S' := [.int (9 : Int32), .int (0 : Int32), .int r6]) (h' := hpS s7) rfl ?_
          refine Ex.cl hq rfl rfl ?_
          refine Rn.mono (q_181 (d := d + 2) r6 (0 : Int32) (9 : Int32) s7 k) ?_
          rintro _ _ ⟨r10, s9, rfl, hzr10, rfl, k⟩
          show Ex sc (d + 3) 42 56 [.ref 37, .int p0, .int r2, .int r4, .int r6] [.int r10] (hpS s9) _
          refine Ex.i1 hq rfl (fun c => ?_) (fun c => ?_)
          · have k := k.1 c
            exact Ex.rt hq rfl rfl ⟨s9, rfl, rfl, k⟩
          · have k := k.2 c
            refine Ex.seg hq 5 (j := 62) (L' := [.ref 37, .int p0, .int r2, .int r4, .int r6]) (S' := [.int r6, .ref 38, .int r4, .ref 37]) (h' := hpS s9) rfl ?_
            obtain ⟨hin, k⟩ := k
            refine Ex.ial hq rfl rfl hin ?_
            refine Ex.seg hq 3 (j := 66) (L' := [.ref 37, .int p0, .int r2, .int r4, .int r6]) (S' := [.int p0, .ref 8, .int ((s9.2.1 38) (r6).toNatClampNeg), .int r4, .ref 37]) (h' := hpS s9) rfl ?_
            refine Ex.cl hq rfl rfl ?_
            refine Rn.mono (q_119 (d := d + 2) p0 s9 k) ?_
            rintro _ _ ⟨r12, s11, rfl, rfl, k⟩
            show Ex sc (d + 3) 42 67 [.ref 37, .int p0, .int r2, .int r4, .int r6] [.int r12, .int ((s9.2.1 38) (r6).toNatClampNeg), .int r4, .ref 37] (hpS s11) _
            refine Ex.cl hq rfl rfl ?_
            refine Rn.mono (q_43 (d := d + 0) r4 ((s9.2.1 38) (r6).toNatClampNeg) r12 s11 k) ?_
            rintro _ _ ⟨s13, rfl, rfl, k⟩
            show Ex sc (d + 3) 42 68 [.ref 37, .int p0, .int r2, .int r4, .int r6] [] (hpS s13) _
            refine Ex.seg hq 4 (j := 72) (L' := [.ref 37, .int p0, .int r2, .int r4, .int r6]) (S' := [.int r6, .ref 39, .int r6, .ref 39]) (h' := hpS s13) rfl ?_
            obtain ⟨hin, k⟩ := k
            refine Ex.ial hq rfl rfl hin ?_
            refine Ex.seg hq 3 (j := 76) (L' := [.ref 37, .int p0, .int r2, .int r4, .int r6]) (S' := [.int p0, .ref 8, .int ((s13.2.1 39) (r6).toNatClampNeg), .int r6, .ref 39]) (h' := hpS s13) rfl ?_
            refine Ex.cl hq rfl rfl ?_
            refine Rn.mono (q_119 (d := d + 2) p0 s13 k) ?_
            rintro _ _ ⟨r16, s15, rfl, rfl, k⟩
            show Ex sc (d + 3) 42 77 [.ref 37, .int p0, .int r2, .int r4, .int r6] [.int r16, .int ((s13.2.1 39) (r6).toNatClampNeg), .int r6, .ref 39] (hpS s15) _
            refine Ex.seg hq 1 (j := 78) (L' := [.ref 37, .int p0, .int r2, .int r4, .int r6]) (S' := [.int (((s13.2.1 39) (r6).toNatClampNeg) + r16), .int r6, .ref 39]) (h' := hpS s15) rfl ?_
            obtain ⟨hin, k⟩ := k
            refine Ex.ias hq rfl rfl hin (h' := hpS (sA s15 39 (upd (s15.2.1 39) (r6).toNatClampNeg (((s13.2.1 39) (r6).toNatClampNeg) + r16)))) (hset_39 _ _) ?_
            exact Ex.rt hq rfl rfl ⟨(sA s15 39 (upd (s15.2.1 39) (r6).toNatClampNeg (((s13.2.1 39) (r6).toNatClampNeg) + r16))), rfl, rfl, k⟩
      · have k := k.2 c
        refine Ex.seg hq 6 (j := 46) (L' := [.ref 37, .int p0, .int r2, .int r4, .int r6]) (S' := [.int p0, .ref 8, .int (2 : Int32), .int r4, .ref 37]) (h' := hpS s7) rfl ?_
        refine Ex.cl hq rfl rfl ?_
        refine Rn.mono (q_119 (d := d + 2) p0 s7 k) ?_
        rintro _ _ ⟨r18, s17, rfl, rfl, k⟩
        show Ex sc (d + 3) 42 47 [.ref 37, .int p0, .int r2, .int r4, .int r6] [.int r18, .int (2 : Int32), .int r4, .ref 37] (hpS s17) _
        refine Ex.cl hq rfl rfl ?_
        refine Rn.mono (q_43 (d := d + 0) r4 (2 : Int32) r18 s17 k) ?_
        rintro _ _ ⟨s19, rfl, rfl, k⟩
        show Ex sc (d + 3) 42 48 [.ref 37, .int p0, .int r2, .int r4, .int r6] [] (hpS s19) _
        refine Ex.seg hq 1 (j := 79) (L' := [.ref 37, .int p0, .int r2, .int r4, .int r6]) (S' := []) (h' := hpS s19) rfl ?_
        exact Ex.rt hq rfl rfl ⟨s19, rfl, rfl, k⟩
    · have k := k.2 c
      refine Ex.seg hq 4 (j := 29) (L' := [.ref 37, .int p0, .int r2, .int r4, .int r6]) (S' := [.int r4, .ref 39, .int r4, .ref 39]) (h' := hpS s7) rfl ?_
      obtain ⟨hin, k⟩ := k
      refine Ex.ial hq rfl rfl hin ?_
      refine Ex.seg hq 3 (j := 33) (L' := [.ref 37, .int p0, .int r2, .int r4, .int r6]) (S' := [.int p0, .ref 8, .int ((s7.2.1 39) (r4).toNatClampNeg), .int r4, .ref 39]) (h' := hpS s7) rfl ?_
      refine Ex.cl hq rfl rfl ?_
      refine Rn.mono (q_119 (d := d + 2) p0 s7 k) ?_
      rintro _ _ ⟨r22, s21, rfl, rfl, k⟩
      show Ex sc (d + 3) 42 34 [.ref 37, .int p0, .int r2, .int r4, .int r6] [.int r22, .int ((s7.2.1 39) (r4).toNatClampNeg), .int r4, .ref 39] (hpS s21) _
      refine Ex.seg hq 1 (j := 35) (L' := [.ref 37, .int p0, .int r2, .int r4, .int r6]) (S' := [.int (((s7.2.1 39) (r4).toNatClampNeg) + r22), .int r4, .ref 39]) (h' := hpS s21) rfl ?_
      obtain ⟨hin, k⟩ := k
      refine Ex.ias hq rfl rfl hin (h' := hpS (sA s21 39 (upd (s21.2.1 39) (r4).toNatClampNeg (((s7.2.1 39) (r4).toNatClampNeg) + r22)))) (hset_39 _ _) ?_
      refine Ex.seg hq 1 (j := 79) (L' := [.ref 37, .int p0, .int r2, .int r4, .int r6]) (S' := []) (h' := hpS (sA s21 39 (upd (s21.2.1 39) (r4).toNatClampNeg (((s7.2.1 39) (r4).toNatClampNeg) + r22)))) rfl ?_
      exact Ex.rt hq rfl rfl ⟨(sA s21 39 (upd (s21.2.1 39) (r4).toNatClampNeg (((s7.2.1 39) (r4).toNatClampNeg) + r22))), rfl, rfl, k⟩
  · have k := k.2 c
    exact Ex.rt hq rfl rfl ⟨s7, rfl, rfl, k⟩
end WP
