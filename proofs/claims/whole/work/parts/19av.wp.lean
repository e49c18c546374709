/-! ===== weakest preconditions, printed by wip/whole/genwp.py ===== -/
section WP
variable {sc : Nat × (Nat → Int32)}
def w_236_L14 : Nat → Int32 → Int32 → ST → (ST → Prop) → (Int32 → ST → Prop) → (ST → Prop) → (Int32 → ST → Prop) → Prop
  | 0, _, _, _, _, _, _, _ => False
  | n + 1, x1, x2, s, X41, X37, X30, K => ((x2 < 0 → X41  s) ∧ (¬ (x2 < 0) → (pin x1 150 = true ∧ w_233 x2 ((s.2.1 60) (x1).toNatClampNeg) s (fun r6 s5 => ((¬ r6 = 0 → w_235 x2 (108 : Int32) s5 (fun r8 s7 => ((r8 = 0 → w_235 x2 (114 : Int32) s7 (fun r10 s9 => ((r10 = 0 → w_236_L14 n x1 (x2 + (-1 : Int32)) s9 X41 X37 X30 K) ∧ (¬ (r10 = 0) → X37 x2 s9)))) ∧ (¬ (r8 = 0) → X30  s7)))) ∧ (¬ (¬ r6 = 0) → w_236_L14 n x1 (x2 + (-1 : Int32)) s5 X41 X37 X30 K))))))
theorem q_236_L14 {d : Nat} {X41 : ST → Prop} {X37 : Int32 → ST → Prop} {X30 : ST → Prop} {K : Int32 → ST → Prop} : ∀ (n : Nat) (x1 : Int32) (x2 : Int32) (s : ST), w_236_L14 n x1 x2 s X41 X37 X30 K → (∀ (s : ST), X41  s → Ex sc (d + 3) 236 41 [pu, pu, pu] [] (hpS s) (kI K)) → (∀ (y2 : Int32) (s : ST), X37 y2 s → Ex sc (d + 3) 236 37 [pu, pu, .int y2] [] (hpS s) (kI K)) → (∀ (s : ST), X30  s → Ex sc (d + 3) 236 30 [pu, pu, pu] [] (hpS s) (kI K)) → Ex sc (d + 3) 236 14 [.ref 55, .int x1, .int x2] [] (hpS s) (kI K) := by
  have hq : prog[236]? = some pm236 := rfl
  intro n
  induction n with
  | zero =>
    intro x1 x2 s k
    exact k.elim
  | succ n ih =>
    intro x1 x2 s k hX41 hX37 hX30
    rw [w_236_L14] at k
    refine Ex.seg hq 1 (j := 15) (L' := [.ref 55, .int x1, .int x2]) (S' := [.int x2]) (h' := hpS s) rfl ?_
    refine Ex.i1 hq rfl (fun c => ?_) (fun c => ?_)
    · have k := k.1 c
      refine Ex.fg (L := [pu, pu, pu]) ⟨Or.inr ⟨rfl, rfl⟩, ⟨Or.inr ⟨rfl, rfl⟩, ⟨Or.inr ⟨rfl, rfl⟩, trivial⟩⟩⟩ ?_
      exact hX41  s k
    · have k := k.2 c
      refine Ex.seg hq 5 (j := 21) (L' := [.ref 55, .int x1, .int x2]) (S' := [.int x1, .ref 60, .int x2, .ref 55]) (h' := hpS s) rfl ?_
      obtain ⟨hin, k⟩ := k
      refine Ex.ial hq rfl rfl hin ?_
      refine Ex.cl hq rfl rfl ?_
      refine Rn.mono (q_233 (d := d + 1) x2 ((s.2.1 60) (x1).toNatClampNeg) s k) ?_
      rintro _ _ ⟨r6, s5, rfl, hzr6, rfl, k⟩
      show Ex sc (d + 3) 236 23 [.ref 55, .int x1, .int x2] [.int r6] (hpS s5) _
      refine Ex.i1 hq rfl (fun c => ?_) (fun c => ?_)
      · have k := k.1 c
        refine Ex.seg hq 3 (j := 28) (L' := [.ref 55, .int x1, .int x2]) (S' := [.int (108 : Int32), .int x2, .ref 55]) (h' := hpS s5) rfl ?_
        refine Ex.cl hq rfl rfl ?_
        refine Rn.mono (q_235 (d := d + 0) x2 (108 : Int32) s5 k) ?_
        rintro _ _ ⟨r8, s7, rfl, hzr8, rfl, k⟩
        show Ex sc (d + 3) 236 29 [.ref 55, .int x1, .int x2] [.int r8] (hpS s7) _
        refine Ex.i1 hq rfl (fun c => ?_) (fun c => ?_)
        · have k := k.1 c
          refine Ex.seg hq 3 (j := 35) (L' := [.ref 55, .int x1, .int x2]) (S' := [.int (114 : Int32), .int x2, .ref 55]) (h' := hpS s7) rfl ?_
          refine Ex.cl hq rfl rfl ?_
          refine Rn.mono (q_235 (d := d + 0) x2 (114 : Int32) s7 k) ?_
          rintro _ _ ⟨r10, s9, rfl, hzr10, rfl, k⟩
          show Ex sc (d + 3) 236 36 [.ref 55, .int x1, .int x2] [.int r10] (hpS s9) _
          refine Ex.i1 hq rfl (fun c => ?_) (fun c => ?_)
          · have k := k.1 c
            refine Ex.seg hq 2 (j := 14) (L' := [.ref 55, .int x1, .int (x2 + (-1 : Int32))]) (S' := []) (h' := hpS s9) rfl ?_
            exact ih x1 (x2 + (-1 : Int32)) s9 k hX41 hX37 hX30
          · have k := k.2 c
            refine Ex.fg (L := [pu, pu, .int x2]) ⟨Or.inr ⟨rfl, rfl⟩, ⟨Or.inr ⟨rfl, rfl⟩, ⟨Or.inl rfl, trivial⟩⟩⟩ ?_
            exact hX37 x2 s9 k
        · have k := k.2 c
          refine Ex.fg (L := [pu, pu, pu]) ⟨Or.inr ⟨rfl, rfl⟩, ⟨Or.inr ⟨rfl, rfl⟩, ⟨Or.inr ⟨rfl, rfl⟩, trivial⟩⟩⟩ ?_
          exact hX30  s7 k
      · have k := k.2 c
        refine Ex.seg hq 3 (j := 14) (L' := [.ref 55, .int x1, .int (x2 + (-1 : Int32))]) (S' := []) (h' := hpS s5) rfl ?_
        exact ih x1 (x2 + (-1 : Int32)) s5 k hX41 hX37 hX30
/-- RowAuditorModel.brokenBy(I)I -/
def w_236 (p1 : Int32) (s : ST) (K : Int32 → ST → Prop) : Prop := (pin p1 150 = true ∧ w_234 ((s.2.1 60) (p1).toNatClampNeg) s (fun s1 => w_230 p1 s1 (fun s3 => (∃ m, w_236_L14 m p1 ((s3.1 5541) - (1 : Int32)) s3 (fun s11 => K (-2 : Int32) s11) (fun y2 s12 => K y2 s12) (fun s13 => K (-2 : Int32) s13) K))))
theorem q_236 {d : Nat} {K : Int32 → ST → Prop} (p1 : Int32) (s : ST) (k : w_236 p1 s K) : Rn sc (d + 3) 236 [.ref 55, .int p1] (hpS s) (kI K) := by
  have hq : prog[236]? = some pm236 := rfl
  refine Rn.of (L := [.ref 55, .int p1, pu]) hq rfl rfl ?_
  unfold w_236 at k
  refine Ex.seg hq 4 (j := 4) (L' := [.ref 55, .int p1, pu]) (S' := [.int p1, .ref 60, .ref 55]) (h' := hpS s) rfl ?_
  obtain ⟨hin, k⟩ := k
  refine Ex.ial hq rfl rfl hin ?_
  refine Ex.cl hq rfl rfl ?_
  refine Rn.mono (q_234 (d := d + 0) ((s.2.1 60) (p1).toNatClampNeg) s k) ?_
  rintro _ _ ⟨s1, rfl, rfl, k⟩
  show Ex sc (d + 3) 236 6 [.ref 55, .int p1, pu] [] (hpS s1) _
  refine Ex.seg hq 2 (j := 8) (L' := [.ref 55, .int p1, pu]) (S' := [.int p1, .ref 55]) (h' := hpS s1) rfl ?_
  refine Ex.cl hq rfl rfl ?_
  refine Rn.mono (q_230 (d := d + 1) p1 s1 k) ?_
  rintro _ _ ⟨s3, rfl, rfl, k⟩
  show Ex sc (d + 3) 236 9 [.ref 55, .int p1, pu] [] (hpS s3) _
  refine Ex.seg hq 5 (j := 14) (L' := [.ref 55, .int p1, .int ((s3.1 5541) - (1 : Int32))]) (S' := []) (h' := hpS s3) rfl ?_
  obtain ⟨m, k⟩ := k
  refine q_236_L14 (d := d) m p1 ((s3.1 5541) - (1 : Int32)) s3 k ?_ ?_ ?_
  · intro s11 k
    refine Ex.seg hq 1 (j := 42) (L' := [pu, pu, pu]) (S' := [.int (-2 : Int32)]) (h' := hpS s11) rfl ?_
    exact Ex.rt hq rfl rfl ⟨(-2 : Int32), s11, rfl, rfl, k⟩
  · intro y2 s12 k
    refine Ex.seg hq 1 (j := 38) (L' := [pu, pu, .int y2]) (S' := [.int y2]) (h' := hpS s12) rfl ?_
    exact Ex.rt hq rfl rfl ⟨y2, s12, rfl, rfl, k⟩
  · intro s13 k
    refine Ex.seg hq 1 (j := 31) (L' := [pu, pu, pu]) (S' := [.int (-2 : Int32)]) (h' := hpS s13) rfl ?_
    exact Ex.rt hq rfl rfl ⟨(-2 : Int32), s13, rfl, rfl, k⟩
/-- RowAuditorModel.broken(II)I -/
def w_237 (p1 : Int32) (p2 : Int32) (s : ST) (K : Int32 → ST → Prop) : Prop := w_190 p1 s (fun r2 s1 => ((r2 = 0 → K (-1 : Int32) s1) ∧ (¬ (r2 = 0) → w_187 p2 s1 (fun r4 s3 => ((¬ r4 = 0 → w_197 p2 s3 (fun s5 => (pin p1 150 = true ∧ ((¬ ((s5.2.1 74) (p1).toNatClampNeg) = (-1 : Int32) → w_236 p1 s5 (fun r8 s7 => K r8 s7)) ∧ (¬ (¬ ((s5.2.1 74) (p1).toNatClampNeg) = (-1 : Int32)) → K (-1 : Int32) s5))))) ∧ (¬ (¬ r4 = 0) → K (-1 : Int32) s3))))))
theorem q_237 {d : Nat} {K : Int32 → ST → Prop} (p1 : Int32) (p2 : Int32) (s : ST) (k : w_237 p1 p2 s K) : Rn sc (d + 4) 237 [.ref 55, .int p1, .int p2] (hpS s) (kI K) := by
  have hq : prog[237]? = some pm237 := rfl
  refine Rn.of (L := [.ref 55, .int p1, .int p2]) hq rfl rfl ?_
  unfold w_237 at k
  refine Ex.seg hq 2 (j := 2) (L' := [.ref 55, .int p1, .int p2]) (S' := [.int p1, .ref 55]) (h' := hpS s) rfl ?_
  refine Ex.cl hq rfl rfl ?_
  refine Rn.mono (q_190 (d := d + 3) p1 s k) ?_
  rintro _ _ ⟨r2, s1, rfl, hzr2, rfl, k⟩
  show Ex sc (d + 4) 237 3 [.ref 55, .int p1, .int p2] [.int r2] (hpS s1) _
  refine Ex.i1 hq rfl (fun c => ?_) (fun c => ?_)
  · have k := k.1 c
    refine Ex.seg hq 1 (j := 8) (L' := [.ref 55, .int p1, .int p2]) (S' := [.int (-1 : Int32)]) (h' := hpS s1) rfl ?_
    exact Ex.rt hq rfl rfl ⟨(-1 : Int32), s1, rfl, rfl, k⟩
  · have k := k.2 c
    refine Ex.seg hq 1 (j := 5) (L' := [.ref 55, .int p1, .int p2]) (S' := [.int p2]) (h' := hpS s1) rfl ?_
    refine Ex.cl hq rfl rfl ?_
    refine Rn.mono (q_187 (d := d + 3) p2 s1 k) ?_
    rintro _ _ ⟨r4, s3, rfl, hzr4, rfl, k⟩
    show Ex sc (d + 4) 237 6 [.ref 55, .int p1, .int p2] [.int r4] (hpS s3) _
    refine Ex.i1 hq rfl (fun c => ?_) (fun c => ?_)
    · have k := k.1 c
      refine Ex.seg hq 2 (j := 11) (L' := [.ref 55, .int p1, .int p2]) (S' := [.int p2, .ref 55]) (h' := hpS s3) rfl ?_
      refine Ex.cl hq rfl rfl ?_
      refine Rn.mono (q_197 (d := d + 2) p2 s3 k) ?_
      rintro _ _ ⟨s5, rfl, rfl, k⟩
      show Ex sc (d + 4) 237 12 [.ref 55, .int p1, .int p2] [] (hpS s5) _
      refine Ex.seg hq 3 (j := 15) (L' := [.ref 55, .int p1, .int p2]) (S' := [.int p1, .ref 74]) (h' := hpS s5) rfl ?_
      obtain ⟨hin, k⟩ := k
      refine Ex.ial hq rfl rfl hin ?_
      refine Ex.seg hq 1 (j := 17) (L' := [.ref 55, .int p1, .int p2]) (S' := [.int (-1 : Int32), .int ((s5.2.1 74) (p1).toNatClampNeg)]) (h' := hpS s5) rfl ?_
      refine Ex.i2 hq rfl (fun c => ?_) (fun c => ?_)
      · have k := k.1 c
        refine Ex.seg hq 2 (j := 22) (L' := [.ref 55, .int p1, .int p2]) (S' := [.int p1, .ref 55]) (h' := hpS s5) rfl ?_
        refine Ex.cl hq rfl rfl ?_
        refine Rn.mono (q_236 (d := d + 0) p1 s5 k) ?_
        rintro _ _ ⟨r8, s7, rfl, rfl, k⟩
        show Ex sc (d + 4) 237 23 [.ref 55, .int p1, .int p2] [.int r8] (hpS s7) _
        exact Ex.rt hq rfl rfl ⟨r8, s7, rfl, rfl, k⟩
      · have k := k.2 c
        refine Ex.seg hq 2 (j := 23) (L' := [.ref 55, .int p1, .int p2]) (S' := [.int (-1 : Int32)]) (h' := hpS s5) rfl ?_
        exact Ex.rt hq rfl rfl ⟨(-1 : Int32), s5, rfl, rfl, k⟩
    · have k := k.2 c
      refine Ex.seg hq 1 (j := 8) (L' := [.ref 55, .int p1, .int p2]) (S' := [.int (-1 : Int32)]) (h' := hpS s3) rfl ?_
      exact Ex.rt hq rfl rfl ⟨(-1 : Int32), s3, rfl, rfl, k⟩
/-- RowAuditorModel.clear(II)Z -/
def w_238 (p1 : Int32) (p2 : Int32) (s : ST) (K : Int32 → ST → Prop) : Prop := w_190 p1 s (fun r2 s1 => ((r2 = 0 → K (0 : Int32) s1) ∧ (¬ (r2 = 0) → w_191 p2 s1 (fun r4 s3 => ((r4 = 0 → K (0 : Int32) s3) ∧ (¬ (r4 = 0) → (pin p1 150 = true ∧ ((((s3.2.1 67) (p1).toNatClampNeg) = (-1 : Int32) → (pin p1 150 = true ∧ K (1 : Int32) (sA s3 67 (upd (s3.2.1 67) (p1).toNatClampNeg (s3.1 5500))))) ∧ (¬ (((s3.2.1 67) (p1).toNatClampNeg) = (-1 : Int32)) → K (0 : Int32) s3)))))))))
theorem q_238 {d : Nat} {K : Int32 → ST → Prop} (p1 : Int32) (p2 : Int32) (s : ST) (k : w_238 p1 p2 s K) : Rn sc (d + 1) 238 [.ref 55, .int p1, .int p2] (hpS s) (kZ K) := by
  have hq : prog[238]? = some pm238 := rfl
  refine Rn.of (L := [.ref 55, .int p1, .int p2]) hq rfl rfl ?_
  unfold w_238 at k
  refine Ex.seg hq 2 (j := 2) (L' := [.ref 55, .int p1, .int p2]) (S' := [.int p1, .ref 55]) (h' := hpS s) rfl ?_
  refine Ex.cl hq rfl rfl ?_
  refine Rn.mono (q_190 (d := d + 0) p1 s k) ?_
  rintro _ _ ⟨r2, s1, rfl, hzr2, rfl, k⟩
  show Ex sc (d + 1) 238 3 [.ref 55, .int p1, .int p2] [.int r2] (hpS s1) _
  refine Ex.i1 hq rfl (fun c => ?_) (fun c => ?_)
  · have k := k.1 c
    refine Ex.seg hq 1 (j := 14) (L' := [.ref 55, .int p1, .int p2]) (S' := [.int (0 : Int32)]) (h' := hpS s1) rfl ?_
    exact Ex.zr hq rfl rfl (Or.inl rfl) ⟨(0 : Int32), s1, rfl, (Or.inl rfl), rfl, k⟩
  · have k := k.2 c
    refine Ex.seg hq 1 (j := 5) (L' := [.ref 55, .int p1, .int p2]) (S' := [.int p2]) (h' := hpS s1) rfl ?_
    refine Ex.cl hq rfl rfl ?_
    refine Rn.mono (q_191 (d := d + 0) p2 s1 k) ?_
    rintro _ _ ⟨r4, s3, rfl, hzr4, rfl, k⟩
    show Ex sc (d + 1) 238 6 [.ref 55, .int p1, .int p2] [.int r4] (hpS s3) _
    refine Ex.i1 hq rfl (fun c => ?_) (fun c => ?_)
    · have k := k.1 c
      refine Ex.seg hq 1 (j := 14) (L' := [.ref 55, .int p1, .int p2]) (S' := [.int (0 : Int32)]) (h' := hpS s3) rfl ?_
      exact Ex.zr hq rfl rfl (Or.inl rfl) ⟨(0 : Int32), s3, rfl, (Or.inl rfl), rfl, k⟩
    · have k := k.2 c
      refine Ex.seg hq 3 (j := 10) (L' := [.ref 55, .int p1, .int p2]) (S' := [.int p1, .ref 67]) (h' := hpS s3) rfl ?_
      obtain ⟨hin, k⟩ := k
      refine Ex.ial hq rfl rfl hin ?_
      refine Ex.seg hq 1 (j := 12) (L' := [.ref 55, .int p1, .int p2]) (S' := [.int (-1 : Int32), .int ((s3.2.1 67) (p1).toNatClampNeg)]) (h' := hpS s3) rfl ?_
      refine Ex.i2 hq rfl (fun c => ?_) (fun c => ?_)
      · have k := k.1 c
        refine Ex.seg hq 5 (j := 20) (L' := [.ref 55, .int p1, .int p2]) (S' := [.int (s3.1 5500), .int p1, .ref 67]) (h' := hpS s3) rfl ?_
        obtain ⟨hin, k⟩ := k
        refine Ex.ias hq rfl rfl hin (h' := hpS (sA s3 67 (upd (s3.2.1 67) (p1).toNatClampNeg (s3.1 5500)))) (hset_67 _ _) ?_
        refine Ex.seg hq 1 (j := 22) (L' := [.ref 55, .int p1, .int p2]) (S' := [.int (1 : Int32)]) (h' := hpS (sA s3 67 (upd (s3.2.1 67) (p1).toNatClampNeg (s3.1 5500)))) rfl ?_
        exact Ex.zr hq rfl rfl (Or.inr rfl) ⟨(1 : Int32), (sA s3 67 (upd (s3.2.1 67) (p1).toNatClampNeg (s3.1 5500))), rfl, (Or.inr rfl), rfl, k⟩
      · have k := k.2 c
        refine Ex.seg hq 1 (j := 14) (L' := [.ref 55, .int p1, .int p2]) (S' := [.int (0 : Int32)]) (h' := hpS s3) rfl ?_
        exact Ex.zr hq rfl rfl (Or.inl rfl) ⟨(0 : Int32), s3, rfl, (Or.inl rfl), rfl, k⟩
/-- RowAuditorModel.isFinding(II)Z -/
def w_239 (p1 : Int32) (p2 : Int32) (s : ST) (K : Int32 → ST → Prop) : Prop := (pin p1 150 = true ∧ ((((s.2.1 67) (p1).toNatClampNeg) = (-1 : Int32) → w_236 p1 s (fun r2 s1 => ((r2 = (-2 : Int32) → K (0 : Int32) s1) ∧ (¬ (r2 = (-2 : Int32)) → K (1 : Int32) s1)))) ∧ (¬ (((s.2.1 67) (p1).toNatClampNeg) = (-1 : Int32)) → (pin p1 150 = true ∧ ((((s.2.1 67) (p1).toNatClampNeg) ≤ p2 → K (0 : Int32) s) ∧ (¬ (((s.2.1 67) (p1).toNatClampNeg) ≤ p2) → w_236 p1 s (fun r4 s3 => ((r4 = (-2 : Int32) → K (0 : Int32) s3) ∧ (¬ (r4 = (-2 : Int32)) → K (1 : Int32) s3)))))))))
theorem q_239 {d : Nat} {K : Int32 → ST → Prop} (p1 : Int32) (p2 : Int32) (s : ST) (k : w_239 p1 p2 s K) : Rn sc (d + 4) 239 [.ref 55, .int p1, .int p2] (hpS s) (kZ K) := by
  have hq : prog[239]? = some pm239 := rfl
  refine Rn.of (L := [.ref 55, .int p1, .int p2]) hq rfl rfl ?_
  unfold w_239 at k
  refine Ex.seg hq 3 (j := 3) (L' := [.ref 55, .int p1, .int p2]) (S' := [.int p1, .ref 67]) (h' := hpS s) rfl ?_
  obtain ⟨hin, k⟩ := k
  refine Ex.ial hq rfl rfl hin ?_
  refine Ex.seg hq 1 (j := 5) (L' := [.ref 55, .int p1, .int p2]) (S' := [.int (-1 : Int32), .int ((s.2.1 67) (p1).toNatClampNeg)]) (h' := hpS s) rfl ?_
  refine Ex.i2 hq rfl (fun c => ?_) (fun c => ?_)
  · have k := k.1 c
    refine Ex.seg hq 2 (j := 14) (L' := [.ref 55, .int p1, .int p2]) (S' := [.int p1, .ref 55]) (h' := hpS s) rfl ?_
    refine Ex.cl hq rfl rfl ?_
    refine Rn.mono (q_236 (d := d + 0) p1 s k) ?_
    rintro _ _ ⟨r2, s1, rfl, rfl, k⟩
    show Ex sc (d + 4) 239 15 [.ref 55, .int p1, .int p2] [.int r2] (hpS s1) _
    refine Ex.seg hq 1 (j := 16) (L' := [.ref 55, .int p1, .int p2]) (S' := [.int (-2 : Int32), .int r2]) (h' := hpS s1) rfl ?_
    refine Ex.i2 hq rfl (fun c => ?_) (fun c => ?_)
    · have k := k.1 c
      refine Ex.seg hq 1 (j := 20) (L' := [.ref 55, .int p1, .int p2]) (S' := [.int (0 : Int32)]) (h' := hpS s1) rfl ?_
      exact Ex.zr hq rfl rfl (Or.inl rfl) ⟨(0 : Int32), s1, rfl, (Or.inl rfl), rfl, k⟩
    · have k := k.2 c
      refine Ex.seg hq 2 (j := 20) (L' := [.ref 55, .int p1, .int p2]) (S' := [.int (1 : Int32)]) (h' := hpS s1) rfl ?_
      exact Ex.zr hq rfl rfl (Or.inr rfl) ⟨(1 : Int32), s1, rfl, (Or.inr rfl), rfl, k⟩
  · have k := k.2 c
    refine Ex.seg hq 3 (j := 9) (L' := [.ref 55, .int p1, .int p2]) (S' := [.int p1, .ref 67]) (h' := hpS s) rfl ?_
    obtain ⟨hin, k⟩ := k
    refine Ex.ial hq rfl rfl hin ?_
    refine Ex.seg hq 1 (j := 11) (L' := [.ref 55, .int p1, .int p2]) (S' := [.int p2, .int ((s.2.1 67) (p1).toNatClampNeg)]) (h' := hpS s) rfl ?_
    refine Ex.i2 hq rfl (fun c => ?_) (fun c => ?_)
    · have k := k.1 c
      refine Ex.seg hq 1 (j := 20) (L' := [.ref 55, .int p1, .int p2]) (S' := [.int (0 : Int32)]) (h' := hpS s) rfl ?_
      exact Ex.zr hq rfl rfl (Or.inl rfl) ⟨(0 : Int32), s, rfl, (Or.inl rfl), rfl, k⟩
    · have k := k.2 c
      refine Ex.seg hq 2 (j := 14) (L' := [.ref 55, .int p1, .int p2]) (S' := [.int p1, .ref 55]) (h' := hpS s) rfl ?_
      refine Ex.cl hq rfl rfl ?_
      refine Rn.mono (q_236 (d := d + 0) p1 s k) ?_
      rintro _ _ ⟨r4, s3, rfl, rfl, k⟩
      show Ex sc (d + 4) 239 15 [.ref 55, .int p1, .int p2] [.int r4] (hpS s3) _
      refine Ex.seg hq 1 (j := 16) (L' := [.ref 55, .int p1, .int p2]) (S' := [.int (-2 : Int32), .int r4]) (h' := hpS s3) rfl ?_
      refine Ex.i2 hq rfl (fun c => ?_) (fun c => ?_)
      · have k := k.1 c
        refine Ex.seg hq 1 (j := 20) (L' := [.ref 55, .int p1, .int p2]) (S' := [.int (0 : Int32)]) (h' := hpS s3) rfl ?_
        exact Ex.zr hq rfl rfl (Or.inl rfl) ⟨(0 : Int32), s3, rfl, (Or.inl rfl), rfl, k⟩
      · have k := k.2 c
        refine Ex.seg hq 2 (j := 20) (L' := [.ref 55, .int p1, .int p2]) (S' := [.int (1 : Int32)]) (h' := hpS s3) rfl ?_
        exact Ex.zr hq rfl rfl (Or.inr rfl) ⟨(1 : Int32), s3, rfl, (Or.inr rfl), rfl, k⟩
def w_240_L7 : Nat → Int32 → Int32 → Int32 → ST → (Int32 → ST → Prop) → (Int32 → ST → Prop) → Prop
  | 0, _, _, _, _, _, _ => False
  | n + 1, x1, x2, x3, s, X27, K => (((s.1 5520) ≤ x3 → X27 x2 s) ∧ (¬ ((s.1 5520) ≤ x3) → (pin x3 150 = true ∧ w_239 ((s.2.1 72) (x3).toNatClampNeg) x1 s (fun r4 s3 => ((r4 = 0 → w_240_L7 n x1 (x2 + (0 : Int32)) (x3 + (1 : Int32)) s3 X27 K) ∧ (¬ (r4 = 0) → w_240_L7 n x1 (x2 + (1 : Int32)) (x3 + (1 : Int32)) s3 X27 K))))))
theorem q_240_L7 {d : Nat} {X27 : Int32 → ST → Prop} {K : Int32 → ST → Prop} : ∀ (n : Nat) (x1 : Int32) (x2 : Int32) (x3 : Int32) (s : ST), w_240_L7 n x1 x2 x3 s X27 K → (∀ (y2 : Int32) (s : ST), X27 y2 s → Ex sc (d + 5) 240 27 [pu, pu, .int y2, pu] [] (hpS s) (kI K)) → Ex sc (d + 5) 240 7 [.ref 55, .int x1, .int x2, .int x3] [] (hpS s) (kI K) := by
  have hq : prog[240]? = some pm240 := rfl
  intro n
  induction n with
  | zero =>
    intro x1 x2 x3 s k
    exact k.elim
  | succ n ih =>
    intro x1 x2 x3 s k hX27
    rw [w_240_L7] at k
    refine Ex.seg hq 3 (j := 10) (L' := [.ref 55, .int x1, .int x2, .int x3]) (S' := [.int (s.1 5520), .int x3]) (h' := hpS s) rfl ?_
    refine Ex.i2 hq rfl (fun c => ?_) (fun c => ?_)
    · have k := k.1 c
      refine Ex.fg (L := [pu, pu, .int x2, pu]) ⟨Or.inr ⟨rfl, rfl⟩, ⟨Or.inr ⟨rfl, rfl⟩, ⟨Or.inl rfl, ⟨Or.inr ⟨rfl, rfl⟩, trivial⟩⟩⟩⟩ ?_
      exact hX27 x2 s k
    · have k := k.2 c
      refine Ex.seg hq 5 (j := 16) (L' := [.ref 55, .int x1, .int x2, .int x3]) (S' := [.int x3, .ref 72, .ref 55, .int x2]) (h' := hpS s) rfl ?_
      obtain ⟨hin, k⟩ := k
      refine Ex.ial hq rfl rfl hin ?_
      refine Ex.seg hq 1 (j := 18) (L' := [.ref 55, .int x1, .int x2, .int x3]) (S' := [.int x1, .int ((s.2.1 72) (x3).toNatClampNeg), .ref 55, .int x2]) (h' := hpS s) rfl ?_
      refine Ex.cl hq rfl rfl ?_
      refine Rn.mono (q_239 (d := d + 0) ((s.2.1 72) (x3).toNatClampNeg) x1 s k) ?_
      rintro _ _ ⟨r4, s3, rfl, hzr4, rfl, k⟩
      show Ex sc (d + 5) 240 19 [.ref 55, .int x1, .int x2, .int x3] [.int r4, .int x2] (hpS s3) _
      refine Ex.i1 hq rfl (fun c => ?_) (fun c => ?_)
      · have k := k.1 c
        refine Ex.seg hq 5 (j := 7) (L' := [.ref 55, .int x1, .int (x2 + (0 : Int32)), .int (x3 + (1 : Int32))]) (S' := []) (h' := hpS s3) rfl ?_
        exact ih x1 (x2 + (0 : Int32)) (x3 + (1 : Int32)) s3 k hX27
      · have k := k.2 c
        refine Ex.seg hq 6 (j := 7) (L' := [.ref 55, .int x1, .int (x2 + (1 : Int32)), .int (x3 + (1 : Int32))]) (S' := []) (h' := hpS s3) rfl ?_
        exact ih x1 (x2 + (1 : Int32)) (x3 + (1 : Int32)) s3 k hX27
/-- RowAuditorModel.findingsBy(I)I -/
def w_240 (p1 : Int32) (s : ST) (K : Int32 → ST → Prop) : Prop := w_197 p1 s (fun s1 => (∃ m, w_240_L7 m p1 (0 : Int32) (0 : Int32) s1 (fun y2 s5 => K y2 s5) K))
theorem q_240 {d : Nat} {K : Int32 → ST → Prop} (p1 : Int32) (s : ST) (k : w_240 p1 s K) : Rn sc (d + 5) 240 [.ref 55, .int p1] (hpS s) (kI K) := by
  have hq : prog[240]? = some pm240 := rfl
  refine Rn.of (L := [.ref 55, .int p1, pu, pu]) hq rfl rfl ?_
  unfold w_240 at k
  refine Ex.seg hq 2 (j := 2) (L' := [.ref 55, .int p1, pu, pu]) (S' := [.int p1, .ref 55]) (h' := hpS s) rfl ?_
  refine Ex.cl hq rfl rfl ?_
  refine Rn.mono (q_197 (d := d + 3) p1 s k) ?_
  rintro _ _ ⟨s1, rfl, rfl, k⟩
  show Ex sc (d + 5) 240 3 [.ref 55, .int p1, pu, pu] [] (hpS s1) _
  refine Ex.seg hq 4 (j := 7) (L' := [.ref 55, .int p1, .int (0 : Int32), .int (0 : Int32)]) (S' := []) (h' := hpS s1) rfl ?_
  obtain ⟨m, k⟩ := k
  refine q_240_L7 (d := d) m p1 (0 : Int32) (0 : Int32) s1 k ?_
  · intro y2 s5 k
    refine Ex.seg hq 1 (j := 28) (L' := [pu, pu, .int y2, pu]) (S' := [.int y2]) (h' := hpS s5) rfl ?_
    exact Ex.rt hq rfl rfl ⟨y2, s5, rfl, rfl, k⟩
/-- RowAuditorModel.findings(I)I -/
def w_241 (p1 : Int32) (s : ST) (K : Int32 → ST → Prop) : Prop := w_187 p1 s (fun r2 s1 => ((r2 = 0 → K (-1 : Int32) s1) ∧ (¬ (r2 = 0) → w_240 p1 s1 (fun r4 s3 => K r4 s3))))
theorem q_241 {d : Nat} {K : Int32 → ST → Prop} (p1 : Int32) (s : ST) (k : w_241 p1 s K) : Rn sc (d + 6) 241 [.ref 55, .int p1] (hpS s) (kI K) := by
  have hq : prog[241]? = some pm241 := rfl
  refine Rn.of (L := [.ref 55, .int p1]) hq rfl rfl ?_
  unfold w_241 at k
  refine Ex.seg hq 1 (j := 1) (L' := [.ref 55, .int p1]) (S' := [.int p1]) (h' := hpS s) rfl ?_
  refine Ex.cl hq rfl rfl ?_
  refine Rn.mono (q_187 (d := d + 5) p1 s k) ?_
  rintro _ _ ⟨r2, s1, rfl, hzr2, rfl, k⟩
  show Ex sc (d + 6) 241 2 [.ref 55, .int p1] [.int r2] (hpS s1) _
  refine Ex.i1 hq rfl (fun c => ?_) (fun c => ?_)
  · have k := k.1 c
    refine Ex.seg hq 1 (j := 8) (L' := [.ref 55, .int p1]) (S' := [.int (-1 : Int32)]) (h' := hpS s1) rfl ?_
    exact Ex.rt hq rfl rfl ⟨(-1 : Int32), s1, rfl, rfl, k⟩
  · have k := k.2 c
    refine Ex.seg hq 2 (j := 5) (L' := [.ref 55, .int p1]) (S' := [.int p1, .ref 55]) (h' := hpS s1) rfl ?_
    refine Ex.cl hq rfl rfl ?_
    refine Rn.mono (q_240 (d := d + 0) p1 s1 k) ?_
    rintro _ _ ⟨r4, s3, rfl, rfl, k⟩
    show Ex sc (d + 6) 241 6 [.ref 55, .int p1] [.int r4] (hpS s3) _
    refine Ex.seg hq 1 (j := 8) (L' := [.ref 55, .int p1]) (S' := [.int r4]) (h' := hpS s3) rfl ?_
    exact Ex.rt hq rfl rfl ⟨r4, s3, rfl, rfl, k⟩
def w_242_L14 : Nat → Int32 → Int32 → Int32 → Int32 → ST → (ST → Prop) → (Int32 → ST → Prop) → (Int32 → ST → Prop) → Prop
  | 0, _, _, _, _, _, _, _, _ => False
  | n + 1, x1, x2, x3, x4, s, X41, X30, K => (((s.1 5520) ≤ x4 → X41  s) ∧ (¬ ((s.1 5520) ≤ x4) → (pin x4 150 = true ∧ w_239 ((s.2.1 72) (x4).toNatClampNeg) x1 s (fun r6 s5 => ((¬ r6 = 0 → ((¬ x3 = x2 → w_242_L14 n x1 x2 (x3 + (1 : Int32)) (x4 + (1 : Int32)) s5 X41 X30 K) ∧ (¬ (¬ x3 = x2) → X30 x4 s5))) ∧ (¬ (¬ r6 = 0) → w_242_L14 n x1 x2 x3 (x4 + (1 : Int32)) s5 X41 X30 K))))))
theorem q_242_L14 {d : Nat} {X41 : ST → Prop} {X30 : Int32 → ST → Prop} {K : Int32 → ST → Prop} : ∀ (n : Nat) (x1 : Int32) (x2 : Int32) (x3 : Int32) (x4 : Int32) (s : ST), w_242_L14 n x1 x2 x3 x4 s X41 X30 K → (∀ (s : ST), X41  s → Ex sc (d + 5) 242 41 [pu, pu, pu, pu, pu] [] (hpS s) (kI K)) → (∀ (y4 : Int32) (s : ST), X30 y4 s → Ex sc (d + 5) 242 30 [.ref 55, pu, pu, pu, .int y4] [] (hpS s) (kI K)) → Ex sc (d + 5) 242 14 [.ref 55, .int x1, .int x2, .int x3, .int x4] [] (hpS s) (kI K) := by
  have hq : prog[242]? = some pm242 := rfl
  intro n
  induction n with
  | zero =>
    intro x1 x2 x3 x4 s k
    exact k.elim
  | succ n ih =>
    intro x1 x2 x3 x4 s k hX41 hX30
    rw [w_242_L14] at k
    refine Ex.seg hq 3 (j := 17) (L' := [.ref 55, .int x1, .int x2, .int x3, .int x4]) (S' := [.int (s.1 5520), .int x4]) (h' := hpS s) rfl ?_
    refine Ex.i2 hq rfl (fun c => ?_) (fun c => ?_)
    · have k := k.1 c
      refine Ex.fg (L := [pu, pu, pu, pu, pu]) ⟨Or.inr ⟨rfl, rfl⟩, ⟨Or.inr ⟨rfl, rfl⟩, ⟨Or.inr ⟨rfl, rfl⟩, ⟨Or.inr ⟨rfl, rfl⟩, ⟨Or.inr ⟨rfl, rfl⟩, trivial⟩⟩⟩⟩⟩ ?_
      exact hX41  s k
    · have k := k.2 c
      refine Ex.seg hq 4 (j := 22) (L' := [.ref 55, .int x1, .int x2, .int x3, .int x4]) (S' := [.int x4, .ref 72, .ref 55]) (h' := hpS s) rfl ?_
      obtain ⟨hin, k⟩ := k
      refine Ex.ial hq rfl rfl hin ?_
      refine Ex.seg hq 1 (j := 24) (L' := [.ref 55, .int x1, .int x2, .int x3, .int x4]) (S' := [.int x1, .int ((s.2.1 72) (x4).toNatClampNeg), .ref 55]) (h' := hpS s) rfl ?_
      refine Ex.cl hq rfl rfl ?_
      refine Rn.mono (q_239 (d := d + 0) ((s.2.1 72) (x4).toNatClampNeg) x1 s k) ?_
      rintro _ _ ⟨r6, s5, rfl, hzr6, rfl, k⟩
      show Ex sc (d + 5) 242 25 [.ref 55, .int x1, .int x2, .int x3, .int x4] [.int r6] (hpS s5) _
      refine Ex.i1 hq rfl (fun c => ?_) (fun c => ?_)
      · have k := k.1 c
        refine Ex.seg hq 2 (j := 29) (L' := [.ref 55, .int x1, .int x2, .int x3, .int x4]) (S' := [.int x2, .int x3]) (h' := hpS s5) rfl ?_
        refine Ex.i2 hq rfl (fun c => ?_) (fun c => ?_)
        · have k := k.1 c
          refine Ex.seg hq 6 (j := 14) (L' := [.ref 55, .int x1, .int x2, .int (x3 + (1 : Int32)), .int (x4 + (1 : Int32))]) (S' := []) (h' := hpS s5) rfl ?_
          exact ih x1 x2 (x3 + (1 : Int32)) (x4 + (1 : Int32)) s5 k hX41 hX30
        · have k := k.2 c
          refine Ex.fg (L := [.ref 55, pu, pu, pu, .int x4]) ⟨Or.inl rfl, ⟨Or.inr ⟨rfl, rfl⟩, ⟨Or.inr ⟨rfl, rfl⟩, ⟨Or.inr ⟨rfl, rfl⟩, ⟨Or.inl rfl, trivial⟩⟩⟩⟩⟩ ?_
          exact hX30 x4 s5 k
      · have k := k.2 c
        refine Ex.seg hq 3 (j := 14) (L' := [.ref 55, .int x1, .int x2, .int x3, .int (x4 + (1 : Int32))]) (S' := []) (h' := hpS s5) rfl ?_
        exact ih x1 x2 x3 (x4 + (1 : Int32)) s5 k hX41 hX30
/-- RowAuditorModel.finding(II)I -/
def w_242 (p1 : Int32) (p2 : Int32) (s : ST) (K : Int32 → ST → Prop) : Prop := w_187 p1 s (fun r2 s1 => ((r2 = 0 → K (-1 : Int32) s1) ∧ (¬ (r2 = 0) → ((0 ≤ p2 → w_197 p1 s1 (fun s3 => (∃ m, w_242_L14 m p1 p2 (0 : Int32) (0 : Int32) s3 (fun s7 => K (-1 : Int32) s7) (fun y4 s8 => (pin y4 150 = true ∧ K ((s8.2.1 72) (y4).toNatClampNeg) s8)) K))) ∧ (¬ (0 ≤ p2) → K (-1 : Int32) s1)))))
theorem q_242 {d : Nat} {K : Int32 → ST → Prop} (p1 : Int32) (p2 : Int32) (s : ST) (k : w_242 p1 p2 s K) : Rn sc (d + 5) 242 [.ref 55, .int p1, .int p2] (hpS s) (kI K) := by
  have hq : prog[242]? = some pm242 := rfl
  refine Rn.of (L := [.ref 55, .int p1, .int p2, pu, pu]) hq rfl rfl ?_
  unfold w_242 at k
  refine Ex.seg hq 1 (j := 1) (L' := [.ref 55, .int p1, .int p2, pu, pu]) (S' := [.int p1]) (h' := hpS s) rfl ?_
  refine Ex.cl hq rfl rfl ?_
  refine Rn.mono (q_187 (d := d + 4) p1 s k) ?_
  rintro _ _ ⟨r2, s1, rfl, hzr2, rfl, k⟩
  show Ex sc (d + 5) 242 2 [.ref 55, .int p1, .int p2, pu, pu] [.int r2] (hpS s1) _
  refine Ex.i1 hq rfl (fun c => ?_) (fun c => ?_)
  · have k := k.1 c
    refine Ex.seg hq 1 (j := 6) (L' := [.ref 55, .int p1, .int p2, pu, pu]) (S' := [.int (-1 : Int32)]) (h' := hpS s1) rfl ?_
    exact Ex.rt hq rfl rfl ⟨(-1 : Int32), s1, rfl, rfl, k⟩
  · have k := k.2 c
    refine Ex.seg hq 1 (j := 4) (L' := [.ref 55, .int p1, .int p2, pu, pu]) (S' := [.int p2]) (h' := hpS s1) rfl ?_
    refine Ex.i1 hq rfl (fun c => ?_) (fun c => ?_)
    · have k := k.1 c
      refine Ex.seg hq 2 (j := 9) (L' := [.ref 55, .int p1, .int p2, pu, pu]) (S' := [.int p1, .ref 55]) (h' := hpS s1) rfl ?_
      refine Ex.cl hq rfl rfl ?_
      refine Rn.mono (q_197 (d := d + 3) p1 s1 k) ?_
      rintro _ _ ⟨s3, rfl, rfl, k⟩
      show Ex sc (d + 5) 242 10 [.ref 55, .int p1, .int p2, pu, pu] [] (hpS s3) _
      refine Ex.seg hq 4 (j := 14) (L' := [.ref 55, .int p1, .int p2, .int (0 : Int32), .int (0 : Int32)]) (S' := []) (h' := hpS s3) rfl ?_
      obtain ⟨m, k⟩ := k
      refine q_242_L14 (d := d) m p1 p2 (0 : Int32) (0 : Int32) s3 k ?_ ?_
      · intro s7 k
        refine Ex.seg hq 1 (j := 42) (L' := [pu, pu, pu, pu, pu]) (S' := [.int (-1 : Int32)]) (h' := hpS s7) rfl ?_
        exact Ex.rt hq rfl rfl ⟨(-1 : Int32), s7, rfl, rfl, k⟩
      · intro y4 s8 k
        refine Ex.seg hq 3 (j := 33) (L' := [.ref 55, pu, pu, pu, .int y4]) (S' := [.int y4, .ref 72]) (h' := hpS s8) rfl ?_
        obtain ⟨hin, k⟩ := k
        refine Ex.ial hq rfl rfl hin ?_
        exact Ex.rt hq rfl rfl ⟨((s8.2.1 72) (y4).toNatClampNeg), s8, rfl, rfl, k⟩
    · have k := k.2 c
      refine Ex.seg hq 1 (j := 6) (L' := [.ref 55, .int p1, .int p2, pu, pu]) (S' := [.int (-1 : Int32)]) (h' := hpS s1) rfl ?_
      exact Ex.rt hq rfl rfl ⟨(-1 : Int32), s1, rfl, rfl, k⟩
/-- RowAuditorModel.ifFalse(I)I -/
def w_243 (p1 : Int32) (s : ST) (K : Int32 → ST → Prop) : Prop := w_191 p1 s (fun r2 s1 => ((¬ r2 = 0 → w_240 (s1.1 5500) (sI s1 5552 p1) (fun r4 s3 => K r4 (sI s3 5552 (-2 : Int32)))) ∧ (¬ (¬ r2 = 0) → K (-1 : Int32) s1)))
theorem q_243 {d : Nat} {K : Int32 → ST → Prop} (p1 : Int32) (s : ST) (k : w_243 p1 s K) : Rn sc (d + 6) 243 [.ref 55, .int p1] (hpS s) (kI K) := by
  have hq : prog[243]? = some pm243 := rfl
  refine Rn.of (L := [.ref 55, .int p1, pu]) hq rfl rfl ?_
  unfold w_243 at k
  refine Ex.seg hq 1 (j := 1) (L' := [.ref 55, .int p1, pu]) (S' := [.int p1]) (h' := hpS s) rfl ?_
  refine Ex.cl hq rfl rfl ?_
  refine Rn.mono (q_191 (d := d + 5) p1 s k) ?_
  rintro _ _ ⟨r2, s1, rfl, hzr2, rfl, k⟩
  show Ex sc (d + 6) 243 2 [.ref 55, .int p1, pu] [.int r2] (hpS s1) _
  refine Ex.i1 hq rfl (fun c => ?_) (fun c => ?_)
  · have k := k.1 c
    refine Ex.seg hq 6 (j := 11) (L' := [.ref 55, .int p1, pu]) (S' := [.int (s1.1 5500), .ref 55]) (h' := hpS (sI s1 5552 p1)) rfl ?_
    refine Ex.cl hq rfl rfl ?_
    refine Rn.mono (q_240 (d := d + 0) (s1.1 5500) (sI s1 5552 p1) k) ?_
    rintro _ _ ⟨r4, s3, rfl, rfl, k⟩
    show Ex sc (d + 6) 243 12 [.ref 55, .int p1, pu] [.int r4] (hpS s3) _
    refine Ex.seg hq 5 (j := 17) (L' := [.ref 55, .int p1, .int r4]) (S' := [.int r4]) (h' := hpS (sI s3 5552 (-2 : Int32))) rfl ?_
    exact Ex.rt hq rfl rfl ⟨r4, (sI s3 5552 (-2 : Int32)), rfl, rfl, k⟩
  · have k := k.2 c
    refine Ex.seg hq 1 (j := 4) (L' := [.ref 55, .int p1, pu]) (S' := [.int (-1 : Int32)]) (h' := hpS s1) rfl ?_
    exact Ex.rt hq rfl rfl ⟨(-1 : Int32), s1, rfl, rfl, k⟩
def w_244_L4 : Nat → Int32 → Int32 → Int32 → ST → (Int32 → ST → Prop) → (Int32 → ST → Prop) → Prop
  | 0, _, _, _, _, _, _ => False
  | n + 1, x0, x1, x2, s, X17, K => (((30 : Int32) ≤ x2 → X17 x1 s) ∧ (¬ ((30 : Int32) ≤ x2) → w_244_L4 n x0 (x1 + ((x0 >>> (x2 &&& 31)) &&& (1 : Int32))) (x2 + (1 : Int32)) s X17 K))
theorem q_244_L4 {d : Nat} {X17 : Int32 → ST → Prop} {K : Int32 → ST → Prop} : ∀ (n : Nat) (x0 : Int32) (x1 : Int32) (x2 : Int32) (s : ST), w_244_L4 n x0 x1 x2 s X17 K → (∀ (y1 : Int32) (s : ST), X17 y1 s → Ex sc (d + 0) 244 17 [pu, .int y1, pu] [] (hpS s) (kI K)) → Ex sc (d + 0) 244 4 [.int x0, .int x1, .int x2] [] (hpS s) (kI K) := by
  have hq : prog[244]? = some pm244 := rfl
  intro n
  induction n with
  | zero =>
    intro x0 x1 x2 s k
    exact k.elim
  | succ n ih =>
    intro x0 x1 x2 s k hX17
    rw [w_244_L4] at k
    refine Ex.seg hq 2 (j := 6) (L' := [.int x0, .int x1, .int x2]) (S' := [.int (30 : Int32), .int x2]) (h' := hpS s) rfl ?_
    refine Ex.i2 hq rfl (fun c => ?_) (fun c => ?_)
    · have k := k.1 c
      refine Ex.fg (L := [pu, .int x1, pu]) ⟨Or.inr ⟨rfl, rfl⟩, ⟨Or.inl rfl, ⟨Or.inr ⟨rfl, rfl⟩, trivial⟩⟩⟩ ?_
      exact hX17 x1 s k
    · have k := k.2 c
      refine Ex.seg hq 10 (j := 4) (L' := [.int x0, .int (x1 + ((x0 >>> (x2 &&& 31)) &&& (1 : Int32))), .int (x2 + (1 : Int32))]) (S' := []) (h' := hpS s) rfl ?_
      exact ih x0 (x1 + ((x0 >>> (x2 &&& 31)) &&& (1 : Int32))) (x2 + (1 : Int32)) s k hX17
/-- RowAuditorModel.bits(I)I -/
def w_244 (p0 : Int32) (s : ST) (K : Int32 → ST → Prop) : Prop := (∃ m, w_244_L4 m p0 (0 : Int32) (0 : Int32) s (fun y1 s1 => K y1 s1) K)
theorem q_244 {d : Nat} {K : Int32 → ST → Prop} (p0 : Int32) (s : ST) (k : w_244 p0 s K) : Rn sc (d + 0) 244 [.int p0] (hpS s) (kI K) := by
  have hq : prog[244]? = some pm244 := rfl
  refine Rn.of (L := [.int p0, pu, pu]) hq rfl rfl ?_
  unfold w_244 at k
  refine Ex.seg hq 4 (j := 4) (L' := [.int p0, .int (0 : Int32), .int (0 : Int32)]) (S' := []) (h' := hpS s) rfl ?_
  obtain ⟨m, k⟩ := k
  refine q_244_L4 (d := d) m p0 (0 : Int32) (0 : Int32) s k ?_
  · intro y1 s1 k
    refine Ex.seg hq 1 (j := 18) (L' := [pu, .int y1, pu]) (S' := [.int y1]) (h' := hpS s1) rfl ?_
    exact Ex.rt hq rfl rfl ⟨y1, s1, rfl, rfl, k⟩
def w_245_L51 : Nat → Int32 → Int32 → Int32 → Int32 → Int32 → Int32 → ST → (Int32 → Int32 → Int32 → Int32 → Int32 → ST → Prop) → (ST → Prop) → (Int32 → ST → Prop) → Prop
  | 0, _, _, _, _, _, _, _, _, _, _ => False
  | n + 1, x1, x2, x3, x4, x5, x6, s, X64, X60, K => ((x4 ≤ x6 → X64 x1 x2 x3 x4 x5 s) ∧ (¬ (x4 ≤ x6) → (pin x6 12 = true ∧ ((¬ ((s.2.1 95) (x6).toNatClampNeg) = x5 → w_245_L51 n x1 x2 x3 x4 x5 (x6 + (1 : Int32)) s X64 X60 K) ∧ (¬ (¬ ((s.2.1 95) (x6).toNatClampNeg) = x5) → X60  s)))))
theorem q_245_L51 {d : Nat} {X64 : Int32 → Int32 → Int32 → Int32 → Int32 → ST → Prop} {X60 : ST → Prop} {K : Int32 → ST → Prop} : ∀ (n : Nat) (x1 : Int32) (x2 : Int32) (x3 : Int32) (x4 : Int32) (x5 : Int32) (x6 : Int32) (s : ST), w_245_L51 n x1 x2 x3 x4 x5 x6 s X64 X60 K → (∀ (y1 : Int32) (y2 : Int32) (y3 : Int32) (y4 : Int32) (y5 : Int32) (s : ST), X64 y1 y2 y3 y4 y5 s → Ex sc (d + 2) 245 64 [.ref 55, .int y1, .int y2, .int y3, .int y4, .int y5, pu, pu] [] (hpS s) (kI K)) → (∀ (s : ST), X60  s → Ex sc (d + 2) 245 60 [pu, pu, pu, pu, pu, pu, pu, pu] [] (hpS s) (kI K)) → Ex sc (d + 2) 245 51 [.ref 55, .int x1, .int x2, .int x3, .int x4, .int x5, .int x6, pu] [] (hpS s) (kI K) := by
  have hq : prog[245]? = some pm245 := rfl
  intro n
  induction n with
  | zero =>
    intro x1 x2 x3 x4 x5 x6 s k
    exact k.elim
  | succ n ih =>
    intro x1 x2 x3 x4 x5 x6 s k hX64 hX60
    rw [w_245_L51] at k
    refine Ex.seg hq 2 (j := 53) (L' := [.ref 55, .int x1, .int x2, .int x3, .int x4, .int x5, .int x6, pu]) (S' := [.int x4, .int x6]) (h' := hpS s) rfl ?_
    refine Ex.i2 hq rfl (fun c => ?_) (fun c => ?_)
    · have k := k.1 c
      refine Ex.fg (L := [.ref 55, .int x1, .int x2, .int x3, .int x4, .int x5, pu, pu]) ⟨Or.inl rfl, ⟨Or.inl rfl, ⟨Or.inl rfl, ⟨Or.inl rfl, ⟨Or.inl rfl, ⟨Or.inl rfl, ⟨Or.inr ⟨rfl, rfl⟩, ⟨Or.inl rfl, trivial⟩⟩⟩⟩⟩⟩⟩⟩ ?_
      exact hX64 x1 x2 x3 x4 x5 s k
    · have k := k.2 c
      refine Ex.seg hq 3 (j := 57) (L' := [.ref 55, .int x1, .int x2, .int x3, .int x4, .int x5, .int x6, pu]) (S' := [.int x6, .ref 95]) (h' := hpS s) rfl ?_
      obtain ⟨hin, k⟩ := k
      refine Ex.ial hq rfl rfl hin ?_
      refine Ex.seg hq 1 (j := 59) (L' := [.ref 55, .int x1, .int x2, .int x3, .int x4, .int x5, .int x6, pu]) (S' := [.int x5, .int ((s.2.1 95) (x6).toNatClampNeg)]) (h' := hpS s) rfl ?_
      refine Ex.i2 hq rfl (fun c => ?_) (fun c => ?_)
      · have k := k.1 c
        refine Ex.seg hq 2 (j := 51) (L' := [.ref 55, .int x1, .int x2, .int x3, .int x4, .int x5, .int (x6 + (1 : Int32)), pu]) (S' := []) (h' := hpS s) rfl ?_
        exact ih x1 x2 x3 x4 x5 (x6 + (1 : Int32)) s k hX64 hX60
      · have k := k.2 c
        refine Ex.fg (L := [pu, pu, pu, pu, pu, pu, pu, pu]) ⟨Or.inr ⟨rfl, rfl⟩, ⟨Or.inr ⟨rfl, rfl⟩, ⟨Or.inr ⟨rfl, rfl⟩, ⟨Or.inr ⟨rfl, rfl⟩, ⟨Or.inr ⟨rfl, rfl⟩, ⟨Or.inr ⟨rfl, rfl⟩, ⟨Or.inr ⟨rfl, rfl⟩, ⟨Or.inl rfl, trivial⟩⟩⟩⟩⟩⟩⟩⟩ ?_
        exact hX60  s k
def w_245_L27 : Nat → Int32 → Int32 → Int32 → Int32 → ST → (Int32 → Int32 → Int32 → ST → Prop) → (ST → Prop) → (ST → Prop) → (Int32 → ST → Prop) → Prop
  | 0, _, _, _, _, _, _, _, _, _ => False
  | n + 1, x1, x2, x3, x4, s, X78, X47, X60, K => ((x2 ≤ x4 → X78 x1 x2 x3 s) ∧ (¬ (x2 ≤ x4) → (pin x4 200 = true ∧ w_190 (((s.2.1 75) (x4).toNatClampNeg) &&& (255 : Int32)) s (fun r8 s7 => ((r8 = 0 → X47  s7) ∧ (¬ (r8 = 0) → (pin (((s.2.1 75) (x4).toNatClampNeg) &&& (255 : Int32)) 150 = true ∧ ((¬ ((s7.2.1 74) ((((s.2.1 75) (x4).toNatClampNeg) &&& (255 : Int32))).toNatClampNeg) = (-1 : Int32) → (∃ m, w_245_L51 m x1 x2 x3 x4 (((s.2.1 75) (x4).toNatClampNeg) &&& (255 : Int32)) (0 : Int32) s7 (fun y1 y2 y3 y4 y5 s9 => (pin y4 12 = true ∧ (pin y5 150 = true ∧ w_245_L27 n y1 y2 (y3 + ((s9.2.1 73) (y5).toNatClampNeg)) (y4 + (1 : Int32)) (sA s9 95 (upd (s9.2.1 95) (y4).toNatClampNeg y5)) X78 X47 X60 K))) (fun s10 => X60  s10) K)) ∧ (¬ (¬ ((s7.2.1 74) ((((s.2.1 75) (x4).toNatClampNeg) &&& (255 : Int32))).toNatClampNeg) = (-1 : Int32)) → X47  s7)))))))))
theorem q_245_L27 {d : Nat} {X78 : Int32 → Int32 → Int32 → ST → Prop} {X47 : ST → Prop} {X60 : ST → Prop} {K : Int32 → ST → Prop} : ∀ (n : Nat) (x1 : Int32) (x2 : Int32) (x3 : Int32) (x4 : Int32) (s : ST), w_245_L27 n x1 x2 x3 x4 s X78 X47 X60 K → (∀ (y1 : Int32) (y2 : Int32) (y3 : Int32) (s : ST), X78 y1 y2 y3 s → Ex sc (d + 2) 245 78 [.ref 55, .int y1, .int y2, .int y3, pu, pu, pu, pu] [] (hpS s) (kI K)) → (∀ (s : ST), X47  s → Ex sc (d + 2) 245 47 [pu, pu, pu, pu, pu, pu, pu, pu] [] (hpS s) (kI K)) → (∀ (s : ST), X60  s → Ex sc (d + 2) 245 60 [pu, pu, pu, pu, pu, pu, pu, pu] [] (hpS s) (kI K)) → Ex sc (d + 2) 245 27 [.ref 55, .int x1, .int x2, .int x3, .int x4, pu, pu, pu] [] (hpS s) (kI K) := by
  have hq : prog[245]? = some pm245 := rfl
  intro n
  induction n with
  | zero =>
    intro x1 x2 x3 x4 s k
    exact k.elim
  | succ n ih =>
    intro x1 x2 x3 x4 s k hX78 hX47 hX60
    rw [w_245_L27] at k
    refine Ex.seg hq 2 (j := 29) (L' := [.ref 55, .int x1, .int x2, .int x3, .int x4, pu, pu, pu]) (S' := [.int x2, .int x4]) (h' := hpS s) rfl ?_
    refine Ex.i2 hq rfl (fun c => ?_) (fun c => ?_)
    · have k := k.1 c
      refine Ex.fg (L := [.ref 55, .int x1, .int x2, .int x3, pu, pu, pu, pu]) ⟨Or.inl rfl, ⟨Or.inl rfl, ⟨Or.inl rfl, ⟨Or.inl rfl, ⟨Or.inr ⟨rfl, rfl⟩, ⟨Or.inl rfl, ⟨Or.inl rfl, ⟨Or.inl rfl, trivial⟩⟩⟩⟩⟩⟩⟩⟩ ?_
      exact hX78 x1 x2 x3 s k
    · have k := k.2 c
      refine Ex.seg hq 3 (j := 33) (L' := [.ref 55, .int x1, .int x2, .int x3, .int x4, pu, pu, pu]) (S' := [.int x4, .ref 75]) (h' := hpS s) rfl ?_
      obtain ⟨hin, k⟩ := k
      refine Ex.bal hq rfl ⟨rfl, rfl⟩ hin ?_
      refine Ex.seg hq 5 (j := 39) (L' := [.ref 55, .int x1, .int x2, .int x3, .int x4, .int (((s.2.1 75) (x4).toNatClampNeg) &&& (255 : Int32)), pu, pu]) (S' := [.int (((s.2.1 75) (x4).toNatClampNeg) &&& (255 : Int32)), .ref 55]) (h' := hpS s) rfl ?_
      refine Ex.cl hq rfl rfl ?_
      refine Rn.mono (q_190 (d := d + 1) (((s.2.1 75) (x4).toNatClampNeg) &&& (255 : Int32)) s k) ?_
      rintro _ _ ⟨r8, s7, rfl, hzr8, rfl, k⟩
      show Ex sc (d + 2) 245 40 [.ref 55, .int x1, .int x2, .int x3, .int x4, .int (((s.2.1 75) (x4).toNatClampNeg) &&& (255 : Int32)), pu, pu] [.int r8] (hpS s7) _
      refine Ex.i1 hq rfl (fun c => ?_) (fun c => ?_)
      · have k := k.1 c
        refine Ex.fg (L := [pu, pu, pu, pu, pu, pu, pu, pu]) ⟨Or.inr ⟨rfl, rfl⟩, ⟨Or.inr ⟨rfl, rfl⟩, ⟨Or.inr ⟨rfl, rfl⟩, ⟨Or.inr ⟨rfl, rfl⟩, ⟨Or.inr ⟨rfl, rfl⟩, ⟨Or.inr ⟨rfl, rfl⟩, ⟨Or.inl rfl, ⟨Or.inl rfl, trivial⟩⟩⟩⟩⟩⟩⟩⟩ ?_
        exact hX47  s7 k
      · have k := k.2 c
        refine Ex.seg hq 3 (j := 44) (L' := [.ref 55, .int x1, .int x2, .int x3, .int x4, .int (((s.2.1 75) (x4).toNatClampNeg) &&& (255 : Int32)), pu, pu]) (S' := [.int (((s.2.1 75) (x4).toNatClampNeg) &&& (255 : Int32)), .ref 74]) (h' := hpS s7) rfl ?_
        obtain ⟨hin, k⟩ := k
        refine Ex.ial hq rfl rfl hin ?_
        refine Ex.seg hq 1 (j := 46) (L' := [.ref 55, .int x1, .int x2, .int x3, .int x4, .int (((s.2.1 75) (x4).toNatClampNeg) &&& (255 : Int32)), pu, pu]) (S' := [.int (-1 : Int32), .int ((s7.2.1 74) ((((s.2.1 75) (x4).toNatClampNeg) &&& (255 : Int32))).toNatClampNeg)]) (h' := hpS s7) rfl ?_
        refine Ex.i2 hq rfl (fun c => ?_) (fun c => ?_)
        · have k := k.1 c
          refine Ex.seg hq 2 (j := 51) (L' := [.ref 55, .int x1, .int x2, .int x3, .int x4, .int (((s.2.1 75) (x4).toNatClampNeg) &&& (255 : Int32)), .int (0 : Int32), pu]) (S' := []) (h' := hpS s7) rfl ?_
          obtain ⟨m, k⟩ := k
          refine q_245_L51 (d := d) m x1 x2 x3 x4 (((s.2.1 75) (x4).toNatClampNeg) &&& (255 : Int32)) (0 : Int32) s7 k ?_ ?_
          · intro y1 y2 y3 y4 y5 s9 k
            refine Ex.seg hq 4 (j := 68) (L' := [.ref 55, .int y1, .int y2, .int y3, .int y4, .int y5, pu, pu]) (S' := [.int y5, .int y4, .ref 95]) (h' := hpS s9) rfl ?_
            obtain ⟨hin, k⟩ := k
            refine Ex.ias hq rfl rfl hin (h' := hpS (sA s9 95 (upd (s9.2.1 95) (y4).toNatClampNeg y5))) (hset_95 _ _) ?_
            refine Ex.seg hq 4 (j := 73) (L' := [.ref 55, .int y1, .int y2, .int y3, .int y4, .int y5, pu, pu]) (S' := [.int y5, .ref 73, .int y3]) (h' := hpS (sA s9 95 (upd (s9.2.1 95) (y4).toNatClampNeg y5))) rfl ?_
            obtain ⟨hin, k⟩ := k
            refine Ex.ial hq rfl rfl hin ?_
            refine Ex.seg hq 4 (j := 27) (L' := [.ref 55, .int y1, .int y2, .int (y3 + ((s9.2.1 73) (y5).toNatClampNeg)), .int (y4 + (1 : Int32)), .int y5, pu, pu]) (S' := []) (h' := hpS (sA s9 95 (upd (s9.2.1 95) (y4).toNatClampNeg y5))) rfl ?_
            refine Ex.fg (L := [.ref 55, .int y1, .int y2, .int (y3 + ((s9.2.1 73) (y5).toNatClampNeg)), .int (y4 + (1 : Int32)), pu, pu, pu]) ⟨Or.inl rfl, ⟨Or.inl rfl, ⟨Or.inl rfl, ⟨Or.inl rfl, ⟨Or.inl rfl, ⟨Or.inr ⟨rfl, rfl⟩, ⟨Or.inl rfl, ⟨Or.inl rfl, trivial⟩⟩⟩⟩⟩⟩⟩⟩ ?_
            exact ih y1 y2 (y3 + ((s9.2.1 73) (y5).toNatClampNeg)) (y4 + (1 : Int32)) (sA s9 95 (upd (s9.2.1 95) (y4).toNatClampNeg y5)) k hX78 hX47 hX60
          · intro s10 k
            exact hX60  s10 k
        · have k := k.2 c
          refine Ex.fg (L := [pu, pu, pu, pu, pu, pu, pu, pu]) ⟨Or.inr ⟨rfl, rfl⟩, ⟨Or.inr ⟨rfl, rfl⟩, ⟨Or.inr ⟨rfl, rfl⟩, ⟨Or.inr ⟨rfl, rfl⟩, ⟨Or.inr ⟨rfl, rfl⟩, ⟨Or.inr ⟨rfl, rfl⟩, ⟨Or.inl rfl, ⟨Or.inl rfl, trivial⟩⟩⟩⟩⟩⟩⟩⟩ ?_
          exact hX47  s7 k
def w_245_L91 : Nat → Int32 → Int32 → Int32 → Int32 → Int32 → Int32 → Int32 → ST → (Int32 → Int32 → Int32 → Int32 → Int32 → Int32 → ST → Prop) → (Int32 → ST → Prop) → Prop
  | 0, _, _, _, _, _, _, _, _, _, _ => False
  | n + 1, x1, x2, x3, x4, x5, x6, x7, s, X115, K => ((x2 ≤ x7 → X115 x1 x2 x3 x4 x5 x6 s) ∧ (¬ (x2 ≤ x7) → ((¬ ((x5 >>> (x7 &&& 31)) &&& (1 : Int32)) = (1 : Int32) → w_245_L91 n x1 x2 x3 x4 x5 (x6 + (0 : Int32)) (x7 + (1 : Int32)) s X115 K) ∧ (¬ (¬ ((x5 >>> (x7 &&& 31)) &&& (1 : Int32)) = (1 : Int32)) → (pin x7 12 = true ∧ (pin ((s.2.1 95) (x7).toNatClampNeg) 150 = true ∧ w_245_L91 n x1 x2 x3 x4 x5 (x6 + ((s.2.1 73) (((s.2.1 95) (x7).toNatClampNeg)).toNatClampNeg)) (x7 + (1 : Int32)) s X115 K))))))
theorem q_245_L91 {d : Nat} {X115 : Int32 → Int32 → Int32 → Int32 → Int32 → Int32 → ST → Prop} {K : Int32 → ST → Prop} : ∀ (n : Nat) (x1 : Int32) (x2 : Int32) (x3 : Int32) (x4 : Int32) (x5 : Int32) (x6 : Int32) (x7 : Int32) (s : ST), w_245_L91 n x1 x2 x3 x4 x5 x6 x7 s X115 K → (∀ (y1 : Int32) (y2 : Int32) (y3 : Int32) (y4 : Int32) (y5 : Int32) (y6 : Int32) (s : ST), X115 y1 y2 y3 y4 y5 y6 s → Ex sc (d + 2) 245 115 [.ref 55, .int y1, .int y2, .int y3, .int y4, .int y5, .int y6, pu] [] (hpS s) (kI K)) → Ex sc (d + 2) 245 91 [.ref 55, .int x1, .int x2, .int x3, .int x4, .int x5, .int x6, .int x7] [] (hpS s) (kI K) := by
  have hq : prog[245]? = some pm245 := rfl
  intro n
  induction n with
  | zero =>
    intro x1 x2 x3 x4 x5 x6 x7 s k
    exact k.elim
  | succ n ih =>
    intro x1 x2 x3 x4 x5 x6 x7 s k hX115
    rw [w_245_L91] at k
    refine Ex.seg hq 2 (j := 93) (L' := [.ref 55, .int x1, .int x2, .int x3, .int x4, .int x5, .int x6, .int x7]) (S' := [.int x2, .int x7]) (h' := hpS s) rfl ?_
    refine Ex.i2 hq rfl (fun c => ?_) (fun c => ?_)
    · have k := k.1 c
      refine Ex.fg (L := [.ref 55, .int x1, .int x2, .int x3, .int x4, .int x5, .int x6, pu]) ⟨Or.inl rfl, ⟨Or.inl rfl, ⟨Or.inl rfl, ⟨Or.inl rfl, ⟨Or.inl rfl, ⟨Or.inl rfl, ⟨Or.inl rfl, ⟨Or.inr ⟨rfl, rfl⟩, trivial⟩⟩⟩⟩⟩⟩⟩⟩ ?_
      exact hX115 x1 x2 x3 x4 x5 x6 s k
    · have k := k.2 c
      refine Ex.seg hq 7 (j := 101) (L' := [.ref 55, .int x1, .int x2, .int x3, .int x4, .int x5, .int x6, .int x7]) (S' := [.int (1 : Int32), .int ((x5 >>> (x7 &&& 31)) &&& (1 : Int32)), .int x6]) (h' := hpS s) rfl ?_
      refine Ex.i2 hq rfl (fun c => ?_) (fun c => ?_)
      · have k := k.1 c
        refine Ex.seg hq 5 (j := 91) (L' := [.ref 55, .int x1, .int x2, .int x3, .int x4, .int x5, .int (x6 + (0 : Int32)), .int (x7 + (1 : Int32))]) (S' := []) (h' := hpS s) rfl ?_
        exact ih x1 x2 x3 x4 x5 (x6 + (0 : Int32)) (x7 + (1 : Int32)) s k hX115
      · have k := k.2 c
        refine Ex.seg hq 5 (j := 107) (L' := [.ref 55, .int x1, .int x2, .int x3, .int x4, .int x5, .int x6, .int x7]) (S' := [.int x7, .ref 95, .ref 73, .int x6]) (h' := hpS s) rfl ?_
        obtain ⟨hin, k⟩ := k
        refine Ex.ial hq rfl rfl hin ?_
        obtain ⟨hin, k⟩ := k
        refine Ex.ial hq rfl rfl hin ?_
        refine Ex.seg hq 5 (j := 91) (L' := [.ref 55, .int x1, .int x2, .int x3, .int x4, .int x5, .int (x6 + ((s.2.1 73) (((s.2.1 95) (x7).toNatClampNeg)).toNatClampNeg)), .int (x7 + (1 : Int32))]) (S' := []) (h' := hpS s) rfl ?_
        exact ih x1 x2 x3 x4 x5 (x6 + ((s.2.1 73) (((s.2.1 95) (x7).toNatClampNeg)).toNatClampNeg)) (x7 + (1 : Int32)) s k hX115
def w_245_L82 : Nat → Int32 → Int32 → Int32 → Int32 → Int32 → ST → (Int32 → ST → Prop) → (Int32 → ST → Prop) → Prop
  | 0, _, _, _, _, _, _, _, _ => False
  | n + 1, x1, x2, x3, x4, x5, s, X132, K => ((((1 : Int32) <<< (x2 &&& 31)) ≤ x5 → X132 x4 s) ∧ (¬ (((1 : Int32) <<< (x2 &&& 31)) ≤ x5) → (∃ m, w_245_L91 m x1 x2 x3 x4 x5 (0 : Int32) (0 : Int32) s (fun y1 y2 y3 y4 y5 y6 s12 => ((¬ y6 = (y3 - y1) → w_245_L82 n y1 y2 y3 y4 (y5 + (1 : Int32)) s12 X132 K) ∧ (¬ (¬ y6 = (y3 - y1)) → ((y4 = (-1 : Int32) → w_245_L82 n y1 y2 y3 y5 (y5 + (1 : Int32)) s12 X132 K) ∧ (¬ (y4 = (-1 : Int32)) → w_244 y5 s12 (fun r14 s13 => w_244 y4 s13 (fun r16 s15 => ((r16 ≤ r14 → w_245_L82 n y1 y2 y3 y4 (y5 + (1 : Int32)) s15 X132 K) ∧ (¬ (r16 ≤ r14) → w_245_L82 n y1 y2 y3 y5 (y5 + (1 : Int32)) s15 X132 K))))))))) K)))
theorem q_245_L82 {d : Nat} {X132 : Int32 → ST → Prop} {K : Int32 → ST → Prop} : ∀ (n : Nat) (x1 : Int32) (x2 : Int32) (x3 : Int32) (x4 : Int32) (x5 : Int32) (s : ST), w_245_L82 n x1 x2 x3 x4 x5 s X132 K → (∀ (y4 : Int32) (s : ST), X132 y4 s → Ex sc (d + 2) 245 132 [pu, pu, pu, pu, .int y4, pu, pu, pu] [] (hpS s) (kI K)) → Ex sc (d + 2) 245 82 [.ref 55, .int x1, .int x2, .int x3, .int x4, .int x5, pu, pu] [] (hpS s) (kI K) := by
  have hq : prog[245]? = some pm245 := rfl
  intro n
  induction n with
  | zero =>
    intro x1 x2 x3 x4 x5 s k
    exact k.elim
  | succ n ih =>
    intro x1 x2 x3 x4 x5 s k hX132
    rw [w_245_L82] at k
    refine Ex.seg hq 4 (j := 86) (L' := [.ref 55, .int x1, .int x2, .int x3, .int x4, .int x5, pu, pu]) (S' := [.int ((1 : Int32) <<< (x2 &&& 31)), .int x5]) (h' := hpS s) rfl ?_
    refine Ex.i2 hq rfl (fun c => ?_) (fun c => ?_)
    · have k := k.1 c
      refine Ex.fg (L := [pu, pu, pu, pu, .int x4, pu, pu, pu]) ⟨Or.inr ⟨rfl, rfl⟩, ⟨Or.inr ⟨rfl, rfl⟩, ⟨Or.inr ⟨rfl, rfl⟩, ⟨Or.inr ⟨rfl, rfl⟩, ⟨Or.inl rfl, ⟨Or.inr ⟨rfl, rfl⟩, ⟨Or.inl rfl, ⟨Or.inl rfl, trivial⟩⟩⟩⟩⟩⟩⟩⟩ ?_
      exact hX132 x4 s k
    · have k := k.2 c
      refine Ex.seg hq 4 (j := 91) (L' := [.ref 55, .int x1, .int x2, .int x3, .int x4, .int x5, .int (0 : Int32), .int (0 : Int32)]) (S' := []) (h' := hpS s) rfl ?_
      obtain ⟨m, k⟩ := k
      refine q_245_L91 (d := d) m x1 x2 x3 x4 x5 (0 : Int32) (0 : Int32) s k ?_
      · intro y1 y2 y3 y4 y5 y6 s12 k
        refine Ex.seg hq 4 (j := 119) (L' := [.ref 55, .int y1, .int y2, .int y3, .int y4, .int y5, .int y6, pu]) (S' := [.int (y3 - y1), .int y6]) (h' := hpS s12) rfl ?_
        refine Ex.i2 hq rfl (fun c => ?_) (fun c => ?_)
        · have k := k.1 c
          refine Ex.seg hq 2 (j := 82) (L' := [.ref 55, .int y1, .int y2, .int y3, .int y4, .int (y5 + (1 : Int32)), .int y6, pu]) (S' := []) (h' := hpS s12) rfl ?_
          refine Ex.fg (L := [.ref 55, .int y1, .int y2, .int y3, .int y4, .int (y5 + (1 : Int32)), pu, pu]) ⟨Or.inl rfl, ⟨Or.inl rfl, ⟨Or.inl rfl, ⟨Or.inl rfl, ⟨Or.inl rfl, ⟨Or.inl rfl, ⟨Or.inr ⟨rfl, rfl⟩, ⟨Or.inl rfl, trivial⟩⟩⟩⟩⟩⟩⟩⟩ ?_
          exact ih y1 y2 y3 y4 (y5 + (1 : Int32)) s12 k hX132
        · have k := k.2 c
          refine Ex.seg hq 2 (j := 122) (L' := [.ref 55, .int y1, .int y2, .int y3, .int y4, .int y5, .int y6, pu]) (S' := [.int (-1 : Int32), .int y4]) (h' := hpS s12) rfl ?_
          refine Ex.i2 hq rfl (fun c => ?_) (fun c => ?_)
          · have k := k.1 c
            refine Ex.seg hq 4 (j := 82) (L' := [.ref 55, .int y1, .int y2, .int y3, .int y5, .int (y5 + (1 : Int32)), .int y6, pu]) (S' := []) (h' := hpS s12) rfl ?_
            refine Ex.fg (L := [.ref 55, .int y1, .int y2, .int y3, .int y5, .int (y5 + (1 : Int32)), pu, pu]) ⟨Or.inl rfl, ⟨Or.inl rfl, ⟨Or.inl rfl, ⟨Or.inl rfl, ⟨Or.inl rfl, ⟨Or.inl rfl, ⟨Or.inr ⟨rfl, rfl⟩, ⟨Or.inl rfl, trivial⟩⟩⟩⟩⟩⟩⟩⟩ ?_
            exact ih y1 y2 y3 y5 (y5 + (1 : Int32)) s12 k hX132
          · have k := k.2 c
            refine Ex.seg hq 1 (j := 124) (L' := [.ref 55, .int y1, .int y2, .int y3, .int y4, .int y5, .int y6, pu]) (S' := [.int y5]) (h' := hpS s12) rfl ?_
            refine Ex.cl hq rfl rfl ?_
            refine Rn.mono (q_244 (d := d + 1) y5 s12 k) ?_
            rintro _ _ ⟨r14, s13, rfl, rfl, k⟩
            show Ex sc (d + 2) 245 125 [.ref 55, .int y1, .int y2, .int y3, .int y4, .int y5, .int y6, pu] [.int r14] (hpS s13) _
            refine Ex.seg hq 1 (j := 126) (L' := [.ref 55, .int y1, .int y2, .int y3, .int y4, .int y5, .int y6, pu]) (S' := [.int y4, .int r14]) (h' := hpS s13) rfl ?_
            refine Ex.cl hq rfl rfl ?_
            refine Rn.mono (q_244 (d := d + 1) y4 s13 k) ?_
            rintro _ _ ⟨r16, s15, rfl, rfl, k⟩
            show Ex sc (d + 2) 245 127 [.ref 55, .int y1, .int y2, .int y3, .int y4, .int y5, .int y6, pu] [.int r16, .int r14] (hpS s15) _
            refine Ex.i2 hq rfl (fun c => ?_) (fun c => ?_)
            · have k := k.1 c
              refine Ex.seg hq 2 (j := 82) (L' := [.ref 55, .int y1, .int y2, .int y3, .int y4, .int (y5 + (1 : Int32)), .int y6, pu]) (S' := []) (h' := hpS s15) rfl ?_
              refine Ex.fg (L := [.ref 55, .int y1, .int y2, .int y3, .int y4, .int (y5 + (1 : Int32)), pu, pu]) ⟨Or.inl rfl, ⟨Or.inl rfl, ⟨Or.inl rfl, ⟨Or.inl rfl, ⟨Or.inl rfl, ⟨Or.inl rfl, ⟨Or.inr ⟨rfl, rfl⟩, ⟨Or.inl rfl, trivial⟩⟩⟩⟩⟩⟩⟩⟩ ?_
              exact ih y1 y2 y3 y4 (y5 + (1 : Int32)) s15 k hX132
            · have k := k.2 c
              refine Ex.seg hq 4 (j := 82) (L' := [.ref 55, .int y1, .int y2, .int y3, .int y5, .int (y5 + (1 : Int32)), .int y6, pu]) (S' := []) (h' := hpS s15) rfl ?_
              refine Ex.fg (L := [.ref 55, .int y1, .int y2, .int y3, .int y5, .int (y5 + (1 : Int32)), pu, pu]) ⟨Or.inl rfl, ⟨Or.inl rfl, ⟨Or.inl rfl, ⟨Or.inl rfl, ⟨Or.inl rfl, ⟨Or.inl rfl, ⟨Or.inr ⟨rfl, rfl⟩, ⟨Or.inl rfl, trivial⟩⟩⟩⟩⟩⟩⟩⟩ ?_
              exact ih y1 y2 y3 y5 (y5 + (1 : Int32)) s15 k hX132
/-- RowAuditorModel.parted(II)I -/
def w_245 (p1 : Int32) (p2 : Int32) (s : ST) (K : Int32 → ST → Prop) : Prop := w_186 p1 (0 : Int32) (12000000 : Int32) s (fun r2 s1 => ((r2 = 0 → K (-1 : Int32) s1) ∧ (¬ (r2 = 0) → w_186 p2 (1 : Int32) (12 : Int32) s1 (fun r4 s3 => ((r4 = 0 → K (-1 : Int32) s3) ∧ (¬ (r4 = 0) → ((p2 ≤ (s3.1 5525) → w_197 (s3.1 5500) (sI s3 5525 (0 : Int32)) (fun s5 => (∃ m, w_245_L27 m p1 p2 (0 : Int32) (0 : Int32) s5 (fun y1 y2 y3 s11 => (∃ m, w_245_L82 m y1 y2 y3 (-1 : Int32) (0 : Int32) s11 (fun y4 s17 => ((¬ y4 = (-1 : Int32) → K y4 s17) ∧ (¬ (¬ y4 = (-1 : Int32)) → K (-2 : Int32) s17))) K)) (fun s18 => K (-3 : Int32) s18) (fun s19 => K (-3 : Int32) s19) K))) ∧ (¬ (p2 ≤ (s3.1 5525)) → K (-1 : Int32) s3))))))))
theorem q_245 {d : Nat} {K : Int32 → ST → Prop} (p1 : Int32) (p2 : Int32) (s : ST) (k : w_245 p1 p2 s K) : Rn sc (d + 2) 245 [.ref 55, .int p1, .int p2] (hpS s) (kI K) := by
  have hq : prog[245]? = some pm245 := rfl
  refine Rn.of (L := [.ref 55, .int p1, .int p2, pu, pu, pu, pu, pu]) hq rfl rfl ?_
  unfold w_245 at k
  refine Ex.seg hq 3 (j := 3) (L' := [.ref 55, .int p1, .int p2, pu, pu, pu, pu, pu]) (S' := [.int (12000000 : Int32), .int (0 : Int32), .int p1]) (h' := hpS s) rfl ?_
  refine Ex.cl hq rfl rfl ?_
  refine Rn.mono (q_186 (d := d + 1) p1 (0 : Int32) (12000000 : Int32) s k) ?_
  rintro _ _ ⟨r2, s1, rfl, hzr2, rfl, k⟩
  show Ex sc (d + 2) 245 4 [.ref 55, .int p1, .int p2, pu, pu, pu, pu, pu] [.int r2] (hpS s1) _
  refine Ex.i1 hq rfl (fun c => ?_) (fun c => ?_)
  · have k := k.1 c
    refine Ex.seg hq 1 (j := 15) (L' := [.ref 55, .int p1, .int p2, pu, pu, pu, pu, pu]) (S' := [.int (-1 : Int32)]) (h' := hpS s1) rfl ?_
    exact Ex.rt hq rfl rfl ⟨(-1 : Int32), s1, rfl, rfl, k⟩
  · have k := k.2 c
    refine Ex.seg hq 3 (j := 8) (L' := [.ref 55, .int p1, .int p2, pu, pu, pu, pu, pu]) (S' := [.int (12 : Int32), .int (1 : Int32), .int p2]) (h' := hpS s1) rfl ?_
    refine Ex.cl hq rfl rfl ?_
    refine Rn.mono (q_186 (d := d + 1) p2 (1 : Int32) (12 : Int32) s1 k) ?_
    rintro _ _ ⟨r4, s3, rfl, hzr4, rfl, k⟩
    show Ex sc (d + 2) 245 9 [.ref 55, .int p1, .int p2, pu, pu, pu, pu, pu] [.int r4] (hpS s3) _
    refine Ex.i1 hq rfl (fun c => ?_) (fun c => ?_)
    · have k := k.1 c
      refine Ex.seg hq 1 (j := 15) (L' := [.ref 55, .int p1, .int p2, pu, pu, pu, pu, pu]) (S' := [.int (-1 : Int32)]) (h' := hpS s3) rfl ?_
      exact Ex.rt hq rfl rfl ⟨(-1 : Int32), s3, rfl, rfl, k⟩
    · have k := k.2 c
      refine Ex.seg hq 3 (j := 13) (L' := [.ref 55, .int p1, .int p2, pu, pu, pu, pu, pu]) (S' := [.int (s3.1 5525), .int p2]) (h' := hpS s3) rfl ?_
      refine Ex.i2 hq rfl (fun c => ?_) (fun c => ?_)
      · have k := k.1 c
        refine Ex.seg hq 6 (j := 22) (L' := [.ref 55, .int p1, .int p2, pu, pu, pu, pu, pu]) (S' := [.int (s3.1 5500), .ref 55]) (h' := hpS (sI s3 5525 (0 : Int32))) rfl ?_
        refine Ex.cl hq rfl rfl ?_
        refine Rn.mono (q_197 (d := d + 0) (s3.1 5500) (sI s3 5525 (0 : Int32)) k) ?_
        rintro _ _ ⟨s5, rfl, rfl, k⟩
        show Ex sc (d + 2) 245 23 [.ref 55, .int p1, .int p2, pu, pu, pu, pu, pu] [] (hpS s5) _
        refine Ex.seg hq 4 (j := 27) (L' := [.ref 55, .int p1, .int p2, .int (0 : Int32), .int (0 : Int32), pu, pu, pu]) (S' := []) (h' := hpS s5) rfl ?_
        obtain ⟨m, k⟩ := k
        refine q_245_L27 (d := d) m p1 p2 (0 : Int32) (0 : Int32) s5 k ?_ ?_ ?_
        · intro y1 y2 y3 s11 k
          refine Ex.seg hq 4 (j := 82) (L' := [.ref 55, .int y1, .int y2, .int y3, .int (-1 : Int32), .int (0 : Int32), pu, pu]) (S' := []) (h' := hpS s11) rfl ?_
          obtain ⟨m, k⟩ := k
          refine q_245_L82 (d := d) m y1 y2 y3 (-1 : Int32) (0 : Int32) s11 k ?_
          · intro y4 s17 k
            refine Ex.seg hq 2 (j := 134) (L' := [pu, pu, pu, pu, .int y4, pu, pu, pu]) (S' := [.int (-1 : Int32), .int y4]) (h' := hpS s17) rfl ?_
            refine Ex.i2 hq rfl (fun c => ?_) (fun c => ?_)
            · have k := k.1 c
              refine Ex.seg hq 1 (j := 138) (L' := [pu, pu, pu, pu, .int y4, pu, pu, pu]) (S' := [.int y4]) (h' := hpS s17) rfl ?_
              exact Ex.rt hq rfl rfl ⟨y4, s17, rfl, rfl, k⟩
            · have k := k.2 c
              refine Ex.seg hq 2 (j := 138) (L' := [pu, pu, pu, pu, .int y4, pu, pu, pu]) (S' := [.int (-2 : Int32)]) (h' := hpS s17) rfl ?_
              exact Ex.rt hq rfl rfl ⟨(-2 : Int32), s17, rfl, rfl, k⟩
        · intro s18 k
          refine Ex.seg hq 1 (j := 48) (L' := [pu, pu, pu, pu, pu, pu, pu, pu]) (S' := [.int (-3 : Int32)]) (h' := hpS s18) rfl ?_
          exact Ex.rt hq rfl rfl ⟨(-3 : Int32), s18, rfl, rfl, k⟩
        · intro s19 k
          refine Ex.seg hq 1 (j := 61) (L' := [pu, pu, pu, pu, pu, pu, pu, pu]) (S' := [.int (-3 : Int32)]) (h' := hpS s19) rfl ?_
          exact Ex.rt hq rfl rfl ⟨(-3 : Int32), s19, rfl, rfl, k⟩
      · have k := k.2 c
        refine Ex.seg hq 1 (j := 15) (L' := [.ref 55, .int p1, .int p2, pu, pu, pu, pu, pu]) (S' := [.int (-1 : Int32)]) (h' := hpS s3) rfl ?_
        exact Ex.rt hq rfl rfl ⟨(-1 : Int32), s3, rfl, rfl, k⟩
/-- RowAuditorModel.joins(III)V -/
def w_246 (p1 : Int32) (p2 : Int32) (p3 : Int32) (s : ST) (K : ST → Prop) : Prop := (pin (s.1 5558) 700 = true ∧ (pin (s.1 5558) 700 = true ∧ (pin (s.1 5558) 700 = true ∧ (pin (s.1 5558) 700 = true ∧ K (sA (sA (sA (sA (sI s 5558 ((s.1 5558) + (1 : Int32))) 96 (upd (s.2.1 96) ((s.1 5558)).toNatClampNeg p1)) 97 (upd (s.2.1 97) ((s.1 5558)).toNatClampNeg p2)) 98 (upd (s.2.1 98) ((s.1 5558)).toNatClampNeg p3)) 99 (upd (s.2.1 99) ((s.1 5558)).toNatClampNeg (0 : Int32)))))))
theorem q_246 {d : Nat} {K : ST → Prop} (p1 : Int32) (p2 : Int32) (p3 : Int32) (s : ST) (k : w_246 p1 p2 p3 s K) : Rn sc (d + 0) 246 [.ref 55, .int p1, .int p2, .int p3] (hpS s) (kV K) := by
  have hq : prog[246]? = some pm246 := rfl
  refine Rn.of (L := [.ref 55, .int p1, .int p2, .int p3]) hq rfl rfl ?_
  unfold w_246 at k
  refine Ex.seg hq 5 (j := 5) (L' := [.ref 55, .int p1, .int p2, .int p3]) (S' := [.int p1, .int (s.1 5558), .ref 96]) (h' := hpS s) rfl ?_
  obtain ⟨hin, k⟩ := k
  refine Ex.ias hq rfl rfl hin (h' := hpS (sA s 96 (upd (s.2.1 96) ((s.1 5558)).toNatClampNeg p1))) (hset_96 _ _) ?_
  refine Ex.seg hq 5 (j := 11) (L' := [.ref 55, .int p1, .int p2, .int p3]) (S' := [.int p2, .int (s.1 5558), .ref 97]) (h' := hpS (sA s 96 (upd (s.2.1 96) ((s.1 5558)).toNatClampNeg p1))) rfl ?_
  obtain ⟨hin, k⟩ := k
  refine Ex.ias hq rfl rfl hin (h' := hpS (sA (sA s 96 (upd (s.2.1 96) ((s.1 5558)).toNatClampNeg p1)) 97 (upd (s.2.1 97) ((s.1 5558)).toNatClampNeg p2))) (hset_97 _ _) ?_
  refine Ex.seg hq 5 (j := 17) (L' := [.ref 55, .int p1, .int p2, .int p3]) (S' := [.int p3, .int (s.1 5558), .ref 98]) (h' := hpS (sA (sA s 96 (upd (s.2.1 96) ((s.1 5558)).toNatClampNeg p1)) 97 (upd (s.2.1 97) ((s.1 5558)).toNatClampNeg p2))) rfl ?_
  obtain ⟨hin, k⟩ := k
  refine Ex.ias hq rfl rfl hin (h' := hpS (sA (sA (sA s 96 (upd (s.2.1 96) ((s.1 5558)).toNatClampNeg p1)) 97 (upd (s.2.1 97) ((s.1 5558)).toNatClampNeg p2)) 98 (upd (s.2.1 98) ((s.1 5558)).toNatClampNeg p3))) (hset_98 _ _) ?_
  refine Ex.seg hq 5 (j := 23) (L' := [.ref 55, .int p1, .int p2, .int p3]) (S' := [.int (0 : Int32), .int (s.1 5558), .ref 99]) (h' := hpS (sA (sA (sA s 96 (upd (s.2.1 96) ((s.1 5558)).toNatClampNeg p1)) 97 (upd (s.2.1 97) ((s.1 5558)).toNatClampNeg p2)) 98 (upd (s.2.1 98) ((s.1 5558)).toNatClampNeg p3))) rfl ?_
  obtain ⟨hin, k⟩ := k
  refine Ex.ias hq rfl rfl hin (h' := hpS (sA (sA (sA (sA s 96 (upd (s.2.1 96) ((s.1 5558)).toNatClampNeg p1)) 97 (upd (s.2.1 97) ((s.1 5558)).toNatClampNeg p2)) 98 (upd (s.2.1 98) ((s.1 5558)).toNatClampNeg p3)) 99 (upd (s.2.1 99) ((s.1 5558)).toNatClampNeg (0 : Int32)))) (hset_99 _ _) ?_
  refine Ex.seg hq 6 (j := 30) (L' := [.ref 55, .int p1, .int p2, .int p3]) (S' := []) (h' := hpS (sA (sA (sA (sA (sI s 5558 ((s.1 5558) + (1 : Int32))) 96 (upd (s.2.1 96) ((s.1 5558)).toNatClampNeg p1)) 97 (upd (s.2.1 97) ((s.1 5558)).toNatClampNeg p2)) 98 (upd (s.2.1 98) ((s.1 5558)).toNatClampNeg p3)) 99 (upd (s.2.1 99) ((s.1 5558)).toNatClampNeg (0 : Int32)))) rfl ?_
  exact Ex.rt hq rfl rfl ⟨(sA (sA (sA (sA (sI s 5558 ((s.1 5558) + (1 : Int32))) 96 (upd (s.2.1 96) ((s.1 5558)).toNatClampNeg p1)) 97 (upd (s.2.1 97) ((s.1 5558)).toNatClampNeg p2)) 98 (upd (s.2.1 98) ((s.1 5558)).toNatClampNeg p3)) 99 (upd (s.2.1 99) ((s.1 5558)).toNatClampNeg (0 : Int32))), rfl, rfl, k⟩
/-- RowAuditorModel.newNode()I -/
def w_247  (s : ST) (K : Int32 → ST → Prop) : Prop := K (((s.1 5557) + (1 : Int32)) - (1 : Int32)) (sI s 5557 ((s.1 5557) + (1 : Int32)))
theorem q_247 {d : Nat} {K : Int32 → ST → Prop}  (s : ST) (k : w_247  s K) : Rn sc (d + 0) 247 [.ref 55] (hpS s) (kI K) := by
  have hq : prog[247]? = some pm247 := rfl
  refine Rn.of (L := [.ref 55]) hq rfl rfl ?_
  unfold w_247 at k
  refine Ex.seg hq 10 (j := 10) (L' := [.ref 55]) (S' := [.int (((s.1 5557) + (1 : Int32)) - (1 : Int32))]) (h' := hpS (sI s 5557 ((s.1 5557) + (1 : Int32)))) rfl ?_
  exact Ex.rt hq rfl rfl ⟨(((s.1 5557) + (1 : Int32)) - (1 : Int32)), (sI s 5557 ((s.1 5557) + (1 : Int32))), rfl, rfl, k⟩
def w_248_L8 : Nat → Int32 → ST → (ST → Prop) → (ST → Prop) → Prop
  | 0, _, _, _, _ => False
  | n + 1, x1, s, X28, K => (((s.1 5501) ≤ x1 → X28  s) ∧ (¬ ((s.1 5501) ≤ x1) → w_247 s (fun r2 s1 => (pin x1 10 = true ∧ (pin x1 10 = true ∧ (pin x1 10 = true ∧ w_248_L8 n (x1 + (1 : Int32)) (sA (sA s1 101 (upd (s1.2.1 101) (x1).toNatClampNeg r2)) 102 (upd (s1.2.1 102) (x1).toNatClampNeg ((s1.2.1 56) (x1).toNatClampNeg))) X28 K))))))
theorem q_248_L8 {d : Nat} {X28 : ST → Prop} {K : ST → Prop} : ∀ (n : Nat) (x1 : Int32) (s : ST), w_248_L8 n x1 s X28 K → (∀ (s : ST), X28  s → Ex sc (d + 1) 248 28 [.ref 55, pu, pu, pu, pu, pu, pu, pu] [] (hpS s) (kV K)) → Ex sc (d + 1) 248 8 [.ref 55, .int x1, pu, pu, pu, pu, pu, pu] [] (hpS s) (kV K) := by
  have hq : prog[248]? = some pm248 := rfl
  intro n
  induction n with
  | zero =>
    intro x1 s k
    exact k.elim
  | succ n ih =>
    intro x1 s k hX28
    rw [w_248_L8] at k
    refine Ex.seg hq 3 (j := 11) (L' := [.ref 55, .int x1, pu, pu, pu, pu, pu, pu]) (S' := [.int (s.1 5501), .int x1]) (h' := hpS s) rfl ?_
    refine Ex.i2 hq rfl (fun c => ?_) (fun c => ?_)
    · have k := k.1 c
      refine Ex.fg (L := [.ref 55, pu, pu, pu, pu, pu, pu, pu]) ⟨Or.inl rfl, ⟨Or.inr ⟨rfl, rfl⟩, ⟨Or.inl rfl, ⟨Or.inl rfl, ⟨Or.inl rfl, ⟨Or.inl rfl, ⟨Or.inl rfl, ⟨Or.inl rfl, trivial⟩⟩⟩⟩⟩⟩⟩⟩ ?_
      exact hX28  s k
    · have k := k.2 c
      refine Ex.seg hq 4 (j := 16) (L' := [.ref 55, .int x1, pu, pu, pu, pu, pu, pu]) (S' := [.ref 55, .int x1, .ref 101]) (h' := hpS s) rfl ?_
      refine Ex.cl hq rfl rfl ?_
      refine Rn.mono (q_247 (d := d + 0) s k) ?_
      rintro _ _ ⟨r2, s1, rfl, rfl, k⟩
      show Ex sc (d + 1) 248 17 [.ref 55, .int x1, pu, pu, pu, pu, pu, pu] [.int r2, .int x1, .ref 101] (hpS s1) _
      obtain ⟨hin, k⟩ := k
      refine Ex.ias hq rfl rfl hin (h' := hpS (sA s1 101 (upd (s1.2.1 101) (x1).toNatClampNeg r2))) (hset_101 _ _) ?_
      refine Ex.seg hq 6 (j := 24) (L' := [.ref 55, .int x1, pu, pu, pu, pu, pu, pu]) (S' := [.int x1, .ref 56, .int x1, .ref 102]) (h' := hpS (sA s1 101 (upd (s1.2.1 101) (x1).toNatClampNeg r2))) rfl ?_
      obtain ⟨hin, k⟩ := k
      refine Ex.ial hq rfl rfl hin ?_
      obtain ⟨hin, k⟩ := k
      refine Ex.ias hq rfl rfl hin (h' := hpS (sA (sA s1 101 (upd (s1.2.1 101) (x1).toNatClampNeg r2)) 102 (upd (s1.2.1 102) (x1).toNatClampNeg ((s1.2.1 56) (x1).toNatClampNeg)))) (hset_102 _ _) ?_
      refine Ex.seg hq 2 (j := 8) (L' := [.ref 55, .int (x1 + (1 : Int32)), pu, pu, pu, pu, pu, pu]) (S' := []) (h' := hpS (sA (sA s1 101 (upd (s1.2.1 101) (x1).toNatClampNeg r2)) 102 (upd (s1.2.1 102) (x1).toNatClampNeg ((s1.2.1 56) (x1).toNatClampNeg)))) rfl ?_
      exact ih (x1 + (1 : Int32)) (sA (sA s1 101 (upd (s1.2.1 101) (x1).toNatClampNeg r2)) 102 (upd (s1.2.1 102) (x1).toNatClampNeg ((s1.2.1 56) (x1).toNatClampNeg))) k hX28
def w_248_L30 : Nat → Int32 → ST → (ST → Prop) → (ST → Prop) → Prop
  | 0, _, _, _, _ => False
  | n + 1, x1, s, X191, K => (((s.1 5520) ≤ x1 → X191  s) ∧ (¬ ((s.1 5520) ≤ x1) → (pin x1 150 = true ∧ (pin ((s.2.1 72) (x1).toNatClampNeg) 150 = true ∧ (pin ((s.2.1 72) (x1).toNatClampNeg) 150 = true ∧ ((¬ ((s.2.1 57) (((s.2.1 72) (x1).toNatClampNeg)).toNatClampNeg) = (3 : Int32) → (pin ((s.2.1 72) (x1).toNatClampNeg) 150 = true ∧ ((¬ ((s.2.1 57) (((s.2.1 72) (x1).toNatClampNeg)).toNatClampNeg) = 0 → (pin ((s.2.1 58) (((s.2.1 72) (x1).toNatClampNeg)).toNatClampNeg) 10 = true ∧ (pin ((s.2.1 72) (x1).toNatClampNeg) 150 = true ∧ ((((s.2.1 73) (((s.2.1 72) (x1).toNatClampNeg)).toNatClampNeg) ≤ ((s.2.1 102) (((s.2.1 58) (((s.2.1 72) (x1).toNatClampNeg)).toNatClampNeg)).toNatClampNeg) → (pin ((s.2.1 58) (((s.2.1 72) (x1).toNatClampNeg)).toNatClampNeg) 10 = true ∧ (pin ((s.2.1 58) (((s.2.1 72) (x1).toNatClampNeg)).toNatClampNeg) 10 = true ∧ w_247 s (fun r5 s4 => (pin ((s.2.1 58) (((s.2.1 72) (x1).toNatClampNeg)).toNatClampNeg) 10 = true ∧ (pin ((s.2.1 58) (((s.2.1 72) (x1).toNatClampNeg)).toNatClampNeg) 10 = true ∧ (pin ((s.2.1 72) (x1).toNatClampNeg) 150 = true ∧ w_246 ((s.2.1 101) (((s.2.1 58) (((s.2.1 72) (x1).toNatClampNeg)).toNatClampNeg)).toNatClampNeg) ((upd (s4.2.1 101) (((s.2.1 58) (((s.2.1 72) (x1).toNatClampNeg)).toNatClampNeg)).toNatClampNeg r5) (((s.2.1 58) (((s.2.1 72) (x1).toNatClampNeg)).toNatClampNeg)).toNatClampNeg) (((s.2.1 102) (((s.2.1 58) (((s.2.1 72) (x1).toNatClampNeg)).toNatClampNeg)).toNatClampNeg) - ((s4.2.1 73) (((s.2.1 72) (x1).toNatClampNeg)).toNatClampNeg)) (sA s4 101 (upd (s4.2.1 101) (((s.2.1 58) (((s.2.1 72) (x1).toNatClampNeg)).toNatClampNeg)).toNatClampNeg r5)) (fun s6 => (pin ((s.2.1 72) (x1).toNatClampNeg) 150 = true ∧ (pin ((s.2.1 58) (((s.2.1 72) (x1).toNatClampNeg)).toNatClampNeg) 10 = true ∧ (pin ((s.2.1 72) (x1).toNatClampNeg) 150 = true ∧ ((¬ ((s6.2.1 57) (((s.2.1 72) (x1).toNatClampNeg)).toNatClampNeg) = (1 : Int32) → (pin ((s.2.1 72) (x1).toNatClampNeg) 150 = true ∧ (pin ((s6.2.1 59) (((s.2.1 72) (x1).toNatClampNeg)).toNatClampNeg) 10 = true ∧ w_247 (sA s6 102 (upd (s6.2.1 102) (((s.2.1 58) (((s.2.1 72) (x1).toNatClampNeg)).toNatClampNeg)).toNatClampNeg (((s.2.1 102) (((s.2.1 58) (((s.2.1 72) (x1).toNatClampNeg)).toNatClampNeg)).toNatClampNeg) - ((s6.2.1 73) (((s.2.1 72) (x1).toNatClampNeg)).toNatClampNeg)))) (fun r9 s8 => (pin ((s6.2.1 59) (((s.2.1 72) (x1).toNatClampNeg)).toNatClampNeg) 10 = true ∧ (pin ((s6.2.1 59) (((s.2.1 72) (x1).toNatClampNeg)).toNatClampNeg) 10 = true ∧ (pin ((s6.2.1 59) (((s.2.1 72) (x1).toNatClampNeg)).toNatClampNeg) 10 = true ∧ w_246 ((s6.2.1 101) (((s6.2.1 59) (((s.2.1 72) (x1).toNatClampNeg)).toNatClampNeg)).toNatClampNeg) ((upd (s8.2.1 101) (((s6.2.1 59) (((s.2.1 72) (x1).toNatClampNeg)).toNatClampNeg)).toNatClampNeg r9) (((s6.2.1 59) (((s.2.1 72) (x1).toNatClampNeg)).toNatClampNeg)).toNatClampNeg) ((s8.2.1 102) (((s6.2.1 59) (((s.2.1 72) (x1).toNatClampNeg)).toNatClampNeg)).toNatClampNeg) (sA s8 101 (upd (s8.2.1 101) (((s6.2.1 59) (((s.2.1 72) (x1).toNatClampNeg)).toNatClampNeg)).toNatClampNeg r9)) (fun s10 => (pin ((s6.2.1 59) (((s.2.1 72) (x1).toNatClampNeg)).toNatClampNeg) 10 = true ∧ (pin ((s.2.1 72) (x1).toNatClampNeg) 150 = true ∧ w_246 ((s.2.1 101) (((s.2.1 58) (((s.2.1 72) (x1).toNatClampNeg)).toNatClampNeg)).toNatClampNeg) ((s10.2.1 101) (((s6.2.1 59) (((s.2.1 72) (x1).toNatClampNeg)).toNatClampNeg)).toNatClampNeg) ((s10.2.1 73) (((s.2.1 72) (x1).toNatClampNeg)).toNatClampNeg) s10 (fun s12 => (pin ((s6.2.1 59) (((s.2.1 72) (x1).toNatClampNeg)).toNatClampNeg) 10 = true ∧ (pin ((s.2.1 72) (x1).toNatClampNeg) 150 = true ∧ (pin ((s6.2.1 59) (((s.2.1 72) (x1).toNatClampNeg)).toNatClampNeg) 10 = true ∧ w_248_L30 n (x1 + (1 : Int32)) (sA s12 102 (upd (s12.2.1 102) (((s6.2.1 59) (((s.2.1 72) (x1).toNatClampNeg)).toNatClampNeg)).toNatClampNeg (((s12.2.1 102) (((s6.2.1 59) (((s.2.1 72) (x1).toNatClampNeg)).toNatClampNeg)).toNatClampNeg) + ((s12.2.1 73) (((s.2.1 72) (x1).toNatClampNeg)).toNatClampNeg)))) X191 K)))))))))))))) ∧ (¬ (¬ ((s6.2.1 57) (((s.2.1 72) (x1).toNatClampNeg)).toNatClampNeg) = (1 : Int32)) → (pin ((s.2.1 72) (x1).toNatClampNeg) 150 = true ∧ w_246 ((s.2.1 101) (((s.2.1 58) (((s.2.1 72) (x1).toNatClampNeg)).toNatClampNeg)).toNatClampNeg) (0 : Int32) ((s6.2.1 73) (((s.2.1 72) (x1).toNatClampNeg)).toNatClampNeg) (sA s6 102 (upd (s6.2.1 102) (((s.2.1 58) (((s.2.1 72) (x1).toNatClampNeg)).toNatClampNeg)).toNatClampNeg (((s.2.1 102) (((s.2.1 58) (((s.2.1 72) (x1).toNatClampNeg)).toNatClampNeg)).toNatClampNeg) - ((s6.2.1 73) (((s.2.1 72) (x1).toNatClampNeg)).toNatClampNeg)))) (fun s14 => w_248_L30 n (x1 + (1 : Int32)) s14 X191 K))))))))))))))) ∧ (¬ (((s.2.1 73) (((s.2.1 72) (x1).toNatClampNeg)).toNatClampNeg) ≤ ((s.2.1 102) (((s.2.1 58) (((s.2.1 72) (x1).toNatClampNeg)).toNatClampNeg)).toNatClampNeg)) → (pin ((s.2.1 72) (x1).toNatClampNeg) 150 = true ∧ (pin ((s.2.1 58) (((s.2.1 72) (x1).toNatClampNeg)).toNatClampNeg) 10 = true ∧ w_247 s (fun r17 s16 => (pin ((s.2.1 58) (((s.2.1 72) (x1).toNatClampNeg)).toNatClampNeg) 10 = true ∧ (pin ((s.2.1 58) (((s.2.1 72) (x1).toNatClampNeg)).toNatClampNeg) 10 = true ∧ (pin ((s.2.1 72) (x1).toNatClampNeg) 150 = true ∧ w_246 ((s.2.1 101) (((s.2.1 58) (((s.2.1 72) (x1).toNatClampNeg)).toNatClampNeg)).toNatClampNeg) ((upd (s16.2.1 101) (((s.2.1 58) (((s.2.1 72) (x1).toNatClampNeg)).toNatClampNeg)).toNatClampNeg r17) (((s.2.1 58) (((s.2.1 72) (x1).toNatClampNeg)).toNatClampNeg)).toNatClampNeg) (((s.2.1 73) (((s.2.1 72) (x1).toNatClampNeg)).toNatClampNeg) - ((s16.2.1 73) (((s.2.1 72) (x1).toNatClampNeg)).toNatClampNeg)) (sA s16 101 (upd (s16.2.1 101) (((s.2.1 58) (((s.2.1 72) (x1).toNatClampNeg)).toNatClampNeg)).toNatClampNeg r17)) (fun s18 => (pin ((s.2.1 72) (x1).toNatClampNeg) 150 = true ∧ (pin ((s.2.1 58) (((s.2.1 72) (x1).toNatClampNeg)).toNatClampNeg) 10 = true ∧ (pin ((s.2.1 72) (x1).toNatClampNeg) 150 = true ∧ ((¬ ((s18.2.1 57) (((s.2.1 72) (x1).toNatClampNeg)).toNatClampNeg) = (1 : Int32) → (pin ((s.2.1 72) (x1).toNatClampNeg) 150 = true ∧ (pin ((s18.2.1 59) (((s.2.1 72) (x1).toNatClampNeg)).toNatClampNeg) 10 = true ∧ w_247 (sA s18 102 (upd (s18.2.1 102) (((s.2.1 58) (((s.2.1 72) (x1).toNatClampNeg)).toNatClampNeg)).toNatClampNeg (((s.2.1 73) (((s.2.1 72) (x1).toNatClampNeg)).toNatClampNeg) - ((s18.2.1 73) (((s.2.1 72) (x1).toNatClampNeg)).toNatClampNeg)))) (fun r21 s20 => (pin ((s18.2.1 59) (((s.2.1 72) (x1).toNatClampNeg)).toNatClampNeg) 10 = true ∧ (pin ((s18.2.1 59) (((s.2.1 72) (x1).toNatClampNeg)).toNatClampNeg) 10 = true ∧ (pin ((s18.2.1 59) (((s.2.1 72) (x1).toNatClampNeg)).toNatClampNeg) 10 = true ∧ w_246 ((s18.2.1 101) (((s18.2.1 59) (((s.2.1 72) (x1).toNatClampNeg)).toNatClampNeg)).toNatClampNeg) ((upd (s20.2.1 101) (((s18.2.1 59) (((s.2.1 72) (x1).toNatClampNeg)).toNatClampNeg)).toNatClampNeg r21) (((s18.2.1 59) (((s.2.1 72) (x1).toNatClampNeg)).toNatClampNeg)).toNatClampNeg) ((s20.2.1 102) (((s18.2.1 59) (((s.2.1 72) (x1).toNatClampNeg)).toNatClampNeg)).toNatClampNeg) (sA s20 101 (upd (s20.2.1 101) (((s18.2.1 59) (((s.2.1 72) (x1).toNatClampNeg)).toNatClampNeg)).toNatClampNeg r21)) (fun s22 => (pin ((s18.2.1 59) (((s.2.1 72) (x1).toNatClampNeg)).toNatClampNeg) 10 = true ∧ (pin ((s.2.1 72) (x1).toNatClampNeg) 150 = true ∧ w_246 ((s.2.1 101) (((s.2.1 58) (((s.2.1 72) (x1).toNatClampNeg)).toNatClampNeg)).toNatClampNeg) ((s22.2.1 101) (((s18.2.1 59) (((s.2.1 72) (x1).toNatClampNeg)).toNatClampNeg)).toNatClampNeg) ((s22.2.1 73) (((s.2.1 72) (x1).toNatClampNeg)).toNatClampNeg) s22 (fun s24 => (pin ((s18.2.1 59) (((s.2.1 72) (x1).toNatClampNeg)).toNatClampNeg) 10 = true ∧ (pin ((s.2.1 72) (x1).toNatClampNeg) 150 = true ∧ (pin ((s18.2.1 59) (((s.2.1 72) (x1).toNatClampNeg)).toNatClampNeg) 10 = true ∧ w_248_L30 n (x1 + (1 : Int32)) (sA s24 102 (upd (s24.2.1 102) (((s18.2.1 59) (((s.2.1 72) (x1).toNatClampNeg)).toNatClampNeg)).toNatClampNeg (((s24.2.1 102) (((s18.2.1 59) (((s.2.1 72) (x1).toNatClampNeg)).toNatClampNeg)).toNatClampNeg) + ((s24.2.1 73) (((s.2.1 72) (x1).toNatClampNeg)).toNatClampNeg)))) X191 K)))))))))))))) ∧ (¬ (¬ ((s18.2.1 57) (((s.2.1 72) (x1).toNatClampNeg)).toNatClampNeg) = (1 : Int32)) → (pin ((s.2.1 72) (x1).toNatClampNeg) 150 = true ∧ w_246 ((s.2.1 101) (((s.2.1 58) (((s.2.1 72) (x1).toNatClampNeg)).toNatClampNeg)).toNatClampNeg) (0 : Int32) ((s18.2.1 73) (((s.2.1 72) (x1).toNatClampNeg)).toNatClampNeg) (sA s18 102 (upd (s18.2.1 102) (((s.2.1 58) (((s.2.1 72) (x1).toNatClampNeg)).toNatClampNeg)).toNatClampNeg (((s.2.1 73) (((s.2.1 72) (x1).toNatClampNeg)).toNatClampNeg) - ((s18.2.1 73) (((s.2.1 72) (x1).toNatClampNeg)).toNatClampNeg)))) (fun s26 => w_248_L30 n (x1 + (1 : Int32)) s26 X191 K))))))))))))))))))) ∧ (¬ (¬ ((s.2.1 57) (((s.2.1 72) (x1).toNatClampNeg)).toNatClampNeg) = 0) → (pin ((s.2.1 58) (((s.2.1 72) (x1).toNatClampNeg)).toNatClampNeg) 10 = true ∧ (pin ((s.2.1 72) (x1).toNatClampNeg) 150 = true ∧ (pin ((s.2.1 58) (((s.2.1 72) (x1).toNatClampNeg)).toNatClampNeg) 10 = true ∧ w_248_L30 n (x1 + (1 : Int32)) (sA s 102 (upd (s.2.1 102) (((s.2.1 58) (((s.2.1 72) (x1).toNatClampNeg)).toNatClampNeg)).toNatClampNeg (((s.2.1 102) (((s.2.1 58) (((s.2.1 72) (x1).toNatClampNeg)).toNatClampNeg)).toNatClampNeg) + ((s.2.1 73) (((s.2.1 72) (x1).toNatClampNeg)).toNatClampNeg)))) X191 K))))))) ∧ (¬ (¬ ((s.2.1 57) (((s.2.1 72) (x1).toNatClampNeg)).toNatClampNeg) = (3 : Int32)) → w_248_L30 n (x1 + (1 : Int32)) s X191 K)))))))
theorem q_248_L30 {d : Nat} {X191 : ST → Prop} {K : ST → Prop} : ∀ (n : Nat) (x1 : Int32) (s : ST), w_248_L30 n x1 s X191 K → (∀ (s : ST), X191  s → Ex sc (d + 1) 248 191 [pu, pu, pu, pu, pu, pu, pu, pu] [] (hpS s) (kV K)) → Ex sc (d + 1) 248 30 [.ref 55, .int x1, pu, pu, pu, pu, pu, pu] [] (hpS s) (kV K) := by
  have hq : prog[248]? = some pm248 := rfl
  intro n
  induction n with
  | zero =>
    intro x1 s k
    exact k.elim
  | succ n ih =>
    intro x1 s k hX191
    rw [w_248_L30] at k
    refine Ex.seg hq 3 (j := 33) (L' := [.ref 55, .int x1, pu, pu, pu, pu, pu, pu]) (S' := [.int (s.1 5520), .int x1]) (h' := hpS s) rfl ?_
    refine Ex.i2 hq rfl (fun c => ?_) (fun c => ?_)
    · have k := k.1 c
      refine Ex.fg (L := [pu, pu, pu, pu, pu, pu, pu, pu]) ⟨Or.inr ⟨rfl, rfl⟩, ⟨Or.inr ⟨rfl, rfl⟩, ⟨Or.inl rfl, ⟨Or.inl rfl, ⟨Or.inl rfl, ⟨Or.inl rfl, ⟨Or.inl rfl, ⟨Or.inl rfl, trivial⟩⟩⟩⟩⟩⟩⟩⟩ ?_
      exact hX191  s k
    · have k := k.2 c
      refine Ex.seg hq 3 (j := 37) (L' := [.ref 55, .int x1, pu, pu, pu, pu, pu, pu]) (S' := [.int x1, .ref 72]) (h' := hpS s) rfl ?_
      obtain ⟨hin, k⟩ := k
      refine Ex.ial hq rfl rfl hin ?_
      refine Ex.seg hq 4 (j := 42) (L' := [.ref 55, .int x1, .int ((s.2.1 72) (x1).toNatClampNeg), pu, pu, pu, pu, pu]) (S' := [.int ((s.2.1 72) (x1).toNatClampNeg), .ref 58]) (h' := hpS s) rfl ?_
      obtain ⟨hin, k⟩ := k
      refine Ex.ial hq rfl rfl hin ?_
      refine Ex.seg hq 4 (j := 47) (L' := [.ref 55, .int x1, .int ((s.2.1 72) (x1).toNatClampNeg), .int ((s.2.1 58) (((s.2.1 72) (x1).toNatClampNeg)).toNatClampNeg), pu, pu, pu, pu]) (S' := [.int ((s.2.1 72) (x1).toNatClampNeg), .ref 57]) (h' := hpS s) rfl ?_
      obtain ⟨hin, k⟩ := k
      refine Ex.ial hq rfl rfl hin ?_
      refine Ex.seg hq 1 (j := 49) (L' := [.ref 55, .int x1, .int ((s.2.1 72) (x1).toNatClampNeg), .int ((s.2.1 58) (((s.2.1 72) (x1).toNatClampNeg)).toNatClampNeg), pu, pu, pu, pu]) (S' := [.int (3 : Int32), .int ((s.2.1 57) (((s.2.1 72) (x1).toNatClampNeg)).toNatClampNeg)]) (h' := hpS s) rfl ?_
      refine Ex.i2 hq rfl (fun c => ?_) (fun c => ?_)
      · have k := k.1 c
        refine Ex.seg hq 3 (j := 54) (L' := [.ref 55, .int x1, .int ((s.2.1 72) (x1).toNatClampNeg), .int ((s.2.1 58) (((s.2.1 72) (x1).toNatClampNeg)).toNatClampNeg), pu, pu, pu, pu]) (S' := [.int ((s.2.1 72) (x1).toNatClampNeg), .ref 57]) (h' := hpS s) rfl ?_
        obtain ⟨hin, k⟩ := k
        refine Ex.ial hq rfl rfl hin ?_
        refine Ex.i1 hq rfl (fun c => ?_) (fun c => ?_)
        · have k := k.1 c
          refine Ex.seg hq 3 (j := 73) (L' := [.ref 55, .int x1, .int ((s.2.1 72) (x1).toNatClampNeg), .int ((s.2.1 58) (((s.2.1 72) (x1).toNatClampNeg)).toNatClampNeg), pu, pu, pu, pu]) (S' := [.int ((s.2.1 58) (((s.2.1 72) (x1).toNatClampNeg)).toNatClampNeg), .ref 102]) (h' := hpS s) rfl ?_
          obtain ⟨hin, k⟩ := k
          refine Ex.ial hq rfl rfl hin ?_
          refine Ex.seg hq 3 (j := 77) (L' := [.ref 55, .int x1, .int ((s.2.1 72) (x1).toNatClampNeg), .int ((s.2.1 58) (((s.2.1 72) (x1).toNatClampNeg)).toNatClampNeg), pu, pu, pu, pu]) (S' := [.int ((s.2.1 72) (x1).toNatClampNeg), .ref 73, .int ((s.2.1 102) (((s.2.1 58) (((s.2.1 72) (x1).toNatClampNeg)).toNatClampNeg)).toNatClampNeg)]) (h' := hpS s) rfl ?_
          obtain ⟨hin, k⟩ := k
          refine Ex.ial hq rfl rfl hin ?_
          refine Ex.i2 hq rfl (fun c => ?_) (fun c => ?_)
          · have k := k.1 c
            refine Ex.seg hq 3 (j := 87) (L' := [.ref 55, .int x1, .int ((s.2.1 72) (x1).toNatClampNeg), .int ((s.2.1 58) (((s.2.1 72) (x1).toNatClampNeg)).toNatClampNeg), pu, pu, pu, pu]) (S' := [.int ((s.2.1 58) (((s.2.1 72) (x1).toNatClampNeg)).toNatClampNeg), .ref 102]) (h' := hpS s) rfl ?_
            obtain ⟨hin, k⟩ := k
            refine Ex.ial hq rfl rfl hin ?_
            refine Ex.seg hq 4 (j := 92) (L' := [.ref 55, .int x1, .int ((s.2.1 72) (x1).toNatClampNeg), .int ((s.2.1 58) (((s.2.1 72) (x1).toNatClampNeg)).toNatClampNeg), .int ((s.2.1 102) (((s.2.1 58) (((s.2.1 72) (x1).toNatClampNeg)).toNatClampNeg)).toNatClampNeg), pu, pu, pu]) (S' := [.int ((s.2.1 58) (((s.2.1 72) (x1).toNatClampNeg)).toNatClampNeg), .ref 101]) (h' := hpS s) rfl ?_
            obtain ⟨hin, k⟩ := k
            refine Ex.ial hq rfl rfl hin ?_
            refine Ex.seg hq 5 (j := 98) (L' := [.ref 55, .int x1, .int ((s.2.1 72) (x1).toNatClampNeg), .int ((s.2.1 58) (((s.2.1 72) (x1).toNatClampNeg)).toNatClampNeg), .int ((s.2.1 102) (((s.2.1 58) (((s.2.1 72) (x1).toNatClampNeg)).toNatClampNeg)).toNatClampNeg), .int ((s.2.1 101) (((s.2.1 58) (((s.2.1 72) (x1).toNatClampNeg)).toNatClampNeg)).toNatClampNeg), pu, pu]) (S' := [.ref 55, .int ((s.2.1 58) (((s.2.1 72) (x1).toNatClampNeg)).toNatClampNeg), .ref 101]) (h' := hpS s) rfl ?_
            refine Ex.cl hq rfl rfl ?_
            refine Rn.mono (q_247 (d := d + 0) s k) ?_
            rintro _ _ ⟨r5, s4, rfl, rfl, k⟩
            show Ex sc (d + 1) 248 99 [.ref 55, .int x1, .int ((s.2.1 72) (x1).toNatClampNeg), .int ((s.2.1 58) (((s.2.1 72) (x1).toNatClampNeg)).toNatClampNeg), .int ((s.2.1 102) (((s.2.1 58) (((s.2.1 72) (x1).toNatClampNeg)).toNatClampNeg)).toNatClampNeg), .int ((s.2.1 101) (((s.2.1 58) (((s.2.1 72) (x1).toNatClampNeg)).toNatClampNeg)).toNatClampNeg), pu, pu] [.int r5, .int ((s.2.1 58) (((s.2.1 72) (x1).toNatClampNeg)).toNatClampNeg), .ref 101] (hpS s4) _
            obtain ⟨hin, k⟩ := k
            refine Ex.ias hq rfl rfl hin (h' := hpS (sA s4 101 (upd (s4.2.1 101) (((s.2.1 58) (((s.2.1 72) (x1).toNatClampNeg)).toNatClampNeg)).toNatClampNeg r5))) (hset_101 _ _) ?_
            refine Ex.seg hq 5 (j := 105) (L' := [.ref 55, .int x1, .int ((s.2.1 72) (x1).toNatClampNeg), .int ((s.2.1 58) (((s.2.1 72) (x1).toNatClampNeg)).toNatClampNeg), .int ((s.2.1 102) (((s.2.1 58) (((s.2.1 72) (x1).toNatClampNeg)).toNatClampNeg)).toNatClampNeg), .int ((s.2.1 101) (((s.2.1 58) (((s.2.1 72) (x1).toNatClampNeg)).toNatClampNeg)).toNatClampNeg), pu, pu]) (S' := [.int ((s.2.1 58) (((s.2.1 72) (x1).toNatClampNeg)).toNatClampNeg), .ref 101, .int ((s.2.1 101) (((s.2.1 58) (((s.2.1 72) (x1).toNatClampNeg)).toNatClampNeg)).toNatClampNeg), .ref 55]) (h' := hpS (sA s4 101 (upd (s4.2.1 101) (((s.2.1 58) (((s.2.1 72) (x1).toNatClampNeg)).toNatClampNeg)).toNatClampNeg r5))) rfl ?_
            obtain ⟨hin, k⟩ := k
            refine Ex.ial hq rfl rfl hin ?_
            refine Ex.seg hq 4 (j := 110) (L' := [.ref 55, .int x1, .int ((s.2.1 72) (x1).toNatClampNeg), .int ((s.2.1 58) (((s.2.1 72) (x1).toNatClampNeg)).toNatClampNeg), .int ((s.2.1 102) (((s.2.1 58) (((s.2.1 72) (x1).toNatClampNeg)).toNatClampNeg)).toNatClampNeg), .int ((s.2.1 101) (((s.2.1 58) (((s.2.1 72) (x1).toNatClampNeg)).toNatClampNeg)).toNatClampNeg), pu, pu]) (S' := [.int ((s.2.1 72) (x1).toNatClampNeg), .ref 73, .int ((s.2.1 102) (((s.2.1 58) (((s.2.1 72) (x1).toNatClampNeg)).toNatClampNeg)).toNatClampNeg), .int ((upd (s4.2.1 101) (((s.2.1 58) (((s.2.1 72) (x1).toNatClampNeg)).toNatClampNeg)).toNatClampNeg r5) (((s.2.1 58) (((s.2.1 72) (x1).toNatClampNeg)).toNatClampNeg)).toNatClampNeg), .int ((s.2.1 101) (((s.2.1 58) (((s.2.1 72) (x1).toNatClampNeg)).toNatClampNeg)).toNatClampNeg), .ref 55]) (h' := hpS (sA s4 101 (upd (s4.2.1 101) (((s.2.1 58) (((s.2.1 72) (x1).toNatClampNeg)).toNatClampNeg)).toNatClampNeg r5))) rfl ?_
            obtain ⟨hin, k⟩ := k
            refine Ex.ial hq rfl rfl hin ?_
            refine Ex.seg hq 1 (j := 112) (L' := [.ref 55, .int x1, .int ((s.2.1 72) (x1).toNatClampNeg), .int ((s.2.1 58) (((s.2.1 72) (x1).toNatClampNeg)).toNatClampNeg), .int ((s.2.1 102) (((s.2.1 58) (((s.2.1 72) (x1).toNatClampNeg)).toNatClampNeg)).toNatClampNeg), .int ((s.2.1 101) (((s.2.1 58) (((s.2.1 72) (x1).toNatClampNeg)).toNatClampNeg)).toNatClampNeg), pu, pu]) (S' := [.int (((s.2.1 102) (((s.2.1 58) (((s.2.1 72) (x1).toNatClampNeg)).toNatClampNeg)).toNatClampNeg) - ((s4.2.1 73) (((s.2.1 72) (x1).toNatClampNeg)).toNatClampNeg)), .int ((upd (s4.2.1 101) (((s.2.1 58) (((s.2.1 72) (x1).toNatClampNeg)).toNatClampNeg)).toNatClampNeg r5) (((s.2.1 58) (((s.2.1 72) (x1).toNatClampNeg)).toNatClampNeg)).toNatClampNeg), .int ((s.2.1 101) (((s.2.1 58) (((s.2.1 72) (x1).toNatClampNeg)).toNatClampNeg)).toNatClampNeg), .ref 55]) (h' := hpS (sA s4 101 (upd (s4.2.1 101) (((s.2.1 58) (((s.2.1 72) (x1).toNatClampNeg)).toNatClampNeg)).toNatClampNeg r5))) rfl ?_
            refine Ex.cl hq rfl rfl ?_
            refine Rn.mono (q_246 (d := d + 0) ((s.2.1 101) (((s.2.1 58) (((s.2.1 72) (x1).toNatClampNeg)).toNatClampNeg)).toNatClampNeg) ((upd (s4.2.1 101) (((s.2.1 58) (((s.2.1 72) (x1).toNatClampNeg)).toNatClampNeg)).toNatClampNeg r5) (((s.2.1 58) (((s.2.1 72) (x1).toNatClampNeg)).toNatClampNeg)).toNatClampNeg) (((s.2.1 102) (((s.2.1 58) (((s.2.1 72) (x1).toNatClampNeg)).toNatClampNeg)).toNatClampNeg) - ((s4.2.1 73) (((s.2.1 72) (x1).toNatClampNeg)).toNatClampNeg)) (sA s4 101 (upd (s4.2.1 101) (((s.2.1 58) (((s.2.1 72) (x1).toNatClampNeg)).toNatClampNeg)).toNatClampNeg r5)) k) ?_
            rintro _ _ ⟨s6, rfl, rfl, k⟩
            show Ex sc (d + 1) 248 113 [.ref 55, .int x1, .int ((s.2.1 72) (x1).toNatClampNeg), .int ((s.2.1 58) (((s.2.1 72) (x1).toNatClampNeg)).toNatClampNeg), .int ((s.2.1 102) (((s.2.1 58) (((s.2.1 72) (x1).toNatClampNeg)).toNatClampNeg)).toNatClampNeg), .int ((s.2.1 101) (((s.2.1 58) (((s.2.1 72) (x1).toNatClampNeg)).toNatClampNeg)).toNatClampNeg), pu, pu] [] (hpS s6) _
            refine Ex.seg hq 7 (j := 120) (L' := [.ref 55, .int x1, .int ((s.2.1 72) (x1).toNatClampNeg), .int ((s.2.1 58) (((s.2.1 72) (x1).toNatClampNeg)).toNatClampNeg), .int ((s.2.1 102) (((s.2.1 58) (((s.2.1 72) (x1).toNatClampNeg)).toNatClampNeg)).toNatClampNeg), .int ((s.2.1 101) (((s.2.1 58) (((s.2.1 72) (x1).toNatClampNeg)).toNatClampNeg)).toNatClampNeg), pu, pu]) (S' := [.int ((s.2.1 72) (x1).toNatClampNeg), .ref 73, .int ((s.2.1 102) (((s.2.1 58) (((s.2.1 72) (x1).toNatClampNeg)).toNatClampNeg)).toNatClampNeg), .int ((s.2.1 58) (((s.2.1 72) (x1).toNatClampNeg)).toNatClampNeg), .ref 102]) (h' := hpS s6) rfl ?_
            obtain ⟨hin, k⟩ := k
            refine Ex.ial hq rfl rfl hin ?_
            refine Ex.seg hq 1 (j := 122) (L' := [.ref 55, .int x1, .int ((s.2.1 72) (x1).toNatClampNeg), .int ((s.2.1 58) (((s.2.1 72) (x1).toNatClampNeg)).toNatClampNeg), .int ((s.2.1 102) (((s.2.1 58) (((s.2.1 72) (x1).toNatClampNeg)).toNatClampNeg)).toNatClampNeg), .int ((s.2.1 101) (((s.2.1 58) (((s.2.1 72) (x1).toNatClampNeg)).toNatClampNeg)).toNatClampNeg), pu, pu]) (S' := [.int (((s.2.1 102) (((s.2.1 58) (((s.2.1 72) (x1).toNatClampNeg)).toNatClampNeg)).toNatClampNeg) - ((s6.2.1 73) (((s.2.1 72) (x1).toNatClampNeg)).toNatClampNeg)), .int ((s.2.1 58) (((s.2.1 72) (x1).toNatClampNeg)).toNatClampNeg), .ref 102]) (h' := hpS s6) rfl ?_
            obtain ⟨hin, k⟩ := k
            refine Ex.ias hq rfl rfl hin (h' := hpS (sA s6 102 (upd (s6.2.1 102) (((s.2.1 58) (((s.2.1 72) (x1).toNatClampNeg)).toNatClampNeg)).toNatClampNeg (((s.2.1 102) (((s.2.1 58) (((s.2.1 72) (x1).toNatClampNeg)).toNatClampNeg)).toNatClampNeg) - ((s6.2.1 73) (((s.2.1 72) (x1).toNatClampNeg)).toNatClampNeg))))) (hset_102 _ _) ?_
            refine Ex.seg hq 3 (j := 126) (L' := [.ref 55, .int x1, .int ((s.2.1 72) (x1).toNatClampNeg), .int ((s.2.1 58) (((s.2.1 72) (x1).toNatClampNeg)).toNatClampNeg), .int ((s.2.1 102) (((s.2.1 58) (((s.2.1 72) (x1).toNatClampNeg)).toNatClampNeg)).toNatClampNeg), .int ((s.2.1 101) (((s.2.1 58) (((s.2.1 72) (x1).toNatClampNeg)).toNatClampNeg)).toNatClampNeg), pu, pu]) (S' := [.int ((s.2.1 72) (x1).toNatClampNeg), .ref 57]) (h' := hpS (sA s6 102 (upd (s6.2.1 102) (((s.2.1 58) (((s.2.1 72) (x1).toNatClampNeg)).toNatClampNeg)).toNatClampNeg (((s.2.1 102) (((s.2.1 58) (((s.2.1 72) (x1).toNatClampNeg)).toNatClampNeg)).toNatClampNeg) - ((s6.2.1 73) (((s.2.1 72) (x1).toNatClampNeg)).toNatClampNeg))))) rfl ?_
            obtain ⟨hin, k⟩ := k
            refine Ex.ial hq rfl rfl hin ?_
            refine Ex.seg hq 1 (j := 128) (L' := [.ref 55, .int x1, .int ((s.2.1 72) (x1).toNatClampNeg), .int ((s.2.1 58) (((s.2.1 72) (x1).toNatClampNeg)).toNatClampNeg), .int ((s.2.1 102) (((s.2.1 58) (((s.2.1 72) (x1).toNatClampNeg)).toNatClampNeg)).toNatClampNeg), .int ((s.2.1 101) (((s.2.1 58) (((s.2.1 72) (x1).toNatClampNeg)).toNatClampNeg)).toNatClampNeg), pu, pu]) (S' := [.int (1 : Int32), .int ((s6.2.1 57) (((s.2.1 72) (x1).toNatClampNeg)).toNatClampNeg)]) (h' := hpS (sA s6 102 (upd (s6.2.1 102) (((s.2.1 58) (((s.2.1 72) (x1).toNatClampNeg)).toNatClampNeg)).toNatClampNeg (((s.2.1 102) (((s.2.1 58) (((s.2.1 72) (x1).toNatClampNeg)).toNatClampNeg)).toNatClampNeg) - ((s6.2.1 73) (((s.2.1 72) (x1).toNatClampNeg)).toNatClampNeg))))) rfl ?_
            refine Ex.i2 hq rfl (fun c => ?_) (fun c => ?_)
            · have k := k.1 c
              refine Ex.seg hq 3 (j := 141) (L' := [.ref 55, .int x1, .int ((s.2.1 72) (x1).toNatClampNeg), .int ((s.2.1 58) (((s.2.1 72) (x1).toNatClampNeg)).toNatClampNeg), .int ((s.2.1 102) (((s.2.1 58) (((s.2.1 72) (x1).toNatClampNeg)).toNatClampNeg)).toNatClampNeg), .int ((s.2.1 101) (((s.2.1 58) (((s.2.1 72) (x1).toNatClampNeg)).toNatClampNeg)).toNatClampNeg), pu, pu]) (S' := [.int ((s.2.1 72) (x1).toNatClampNeg), .ref 59]) (h' := hpS (sA s6 102 (upd (s6.2.1 102) (((s.2.1 58) (((s.2.1 72) (x1).toNatClampNeg)).toNatClampNeg)).toNatClampNeg (((s.2.1 102) (((s.2.1 58) (((s.2.1 72) (x1).toNatClampNeg)).toNatClampNeg)).toNatClampNeg) - ((s6.2.1 73) (((s.2.1 72) (x1).toNatClampNeg)).toNatClampNeg))))) rfl ?_
              obtain ⟨hin, k⟩ := k
              refine Ex.ial hq rfl rfl hin ?_
              refine Ex.seg hq 4 (j := 146) (L' := [.ref 55, .int x1, .int ((s.2.1 72) (x1).toNatClampNeg), .int ((s.2.1 58) (((s.2.1 72) (x1).toNatClampNeg)).toNatClampNeg), .int ((s.2.1 102) (((s.2.1 58) (((s.2.1 72) (x1).toNatClampNeg)).toNatClampNeg)).toNatClampNeg), .int ((s.2.1 101) (((s.2.1 58) (((s.2.1 72) (x1).toNatClampNeg)).toNatClampNeg)).toNatClampNeg), .int ((s6.2.1 59) (((s.2.1 72) (x1).toNatClampNeg)).toNatClampNeg), pu]) (S' := [.int ((s6.2.1 59) (((s.2.1 72) (x1).toNatClampNeg)).toNatClampNeg), .ref 101]) (h' := hpS (sA s6 102 (upd (s6.2.1 102) (((s.2.1 58) (((s.2.1 72) (x1).toNatClampNeg)).toNatClampNeg)).toNatClampNeg (((s.2.1 102) (((s.2.1 58) (((s.2.1 72) (x1).toNatClampNeg)).toNatClampNeg)).toNatClampNeg) - ((s6.2.1 73) (((s.2.1 72) (x1).toNatClampNeg)).toNatClampNeg))))) rfl ?_
              obtain ⟨hin, k⟩ := k
              refine Ex.ial hq rfl rfl hin ?_
              refine Ex.seg hq 5 (j := 152) (L' := [.ref 55, .int x1, .int ((s.2.1 72) (x1).toNatClampNeg), .int ((s.2.1 58) (((s.2.1 72) (x1).toNatClampNeg)).toNatClampNeg), .int ((s.2.1 102) (((s.2.1 58) (((s.2.1 72) (x1).toNatClampNeg)).toNatClampNeg)).toNatClampNeg), .int ((s.2.1 101) (((s.2.1 58) (((s.2.1 72) (x1).toNatClampNeg)).toNatClampNeg)).toNatClampNeg), .int ((s6.2.1 59) (((s.2.1 72) (x1).toNatClampNeg)).toNatClampNeg), .int ((s6.2.1 101) (((s6.2.1 59) (((s.2.1 72) (x1).toNatClampNeg)).toNatClampNeg)).toNatClampNeg)]) (S' := [.ref 55, .int ((s6.2.1 59) (((s.2.1 72) (x1).toNatClampNeg)).toNatClampNeg), .ref 101]) (h' := hpS (sA s6 102 (upd (s6.2.1 102) (((s.2.1 58) (((s.2.1 72) (x1).toNatClampNeg)).toNatClampNeg)).toNatClampNeg (((s.2.1 102) (((s.2.1 58) (((s.2.1 72) (x1).toNatClampNeg)).toNatClampNeg)).toNatClampNeg) - ((s6.2.1 73) (((s.2.1 72) (x1).toNatClampNeg)).toNatClampNeg))))) rfl ?_
              refine Ex.cl hq rfl rfl ?_
              refine Rn.mono (q_247 (d := d + 0) (sA s6 102 (upd (s6.2.1 102) (((s.2.1 58) (((s.2.1 72) (x1).toNatClampNeg)).toNatClampNeg)).toNatClampNeg (((s.2.1 102) (((s.2.1 58) (((s.2.1 72) (x1).toNatClampNeg)).toNatClampNeg)).toNatClampNeg) - ((s6.2.1 73) (((s.2.1 72) (x1).toNatClampNeg)).toNatClampNeg)))) k) ?_
              rintro _ _ ⟨r9, s8, rfl, rfl, k⟩
              show Ex sc (d + 1) 248 153 [.ref 55, .int x1, .int ((s.2.1 72) (x1).toNatClampNeg), .int ((s.2.1 58) (((s.2.1 72) (x1).toNatClampNeg)).toNatClampNeg), .int ((s.2.1 102) (((s.2.1 58) (((s.2.1 72) (x1).toNatClampNeg)).toNatClampNeg)).toNatClampNeg), .int ((s.2.1 101) (((s.2.1 58) (((s.2.1 72) (x1).toNatClampNeg)).toNatClampNeg)).toNatClampNeg), .int ((s6.2.1 59) (((s.2.1 72) (x1).toNatClampNeg)).toNatClampNeg), .int ((s6.2.1 101) (((s6.2.1 59) (((s.2.1 72) (x1).toNatClampNeg)).toNatClampNeg)).toNatClampNeg)] [.int r9, .int ((s6.2.1 59) (((s.2.1 72) (x1).toNatClampNeg)).toNatClampNeg), .ref 101] (hpS s8) _
              obtain ⟨hin, k⟩ := k
              refine Ex.ias hq rfl rfl hin (h' := hpS (sA s8 101 (upd (s8.2.1 101) (((s6.2.1 59) (((s.2.1 72) (x1).toNatClampNeg)).toNatClampNeg)).toNatClampNeg r9))) (hset_101 _ _) ?_
              refine Ex.seg hq 5 (j := 159) (L' := [.ref 55, .int x1, .int ((s.2.1 72) (x1).toNatClampNeg), .int ((s.2.1 58) (((s.2.1 72) (x1).toNatClampNeg)).toNatClampNeg), .int ((s.2.1 102) (((s.2.1 58) (((s.2.1 72) (x1).toNatClampNeg)).toNatClampNeg)).toNatClampNeg), .int ((s.2.1 101) (((s.2.1 58) (((s.2.1 72) (x1).toNatClampNeg)).toNatClampNeg)).toNatClampNeg), .int ((s6.2.1 59) (((s.2.1 72) (x1).toNatClampNeg)).toNatClampNeg), .int ((s6.2.1 101) (((s6.2.1 59) (((s.2.1 72) (x1).toNatClampNeg)).toNatClampNeg)).toNatClampNeg)]) (S' := [.int ((s6.2.1 59) (((s.2.1 72) (x1).toNatClampNeg)).toNatClampNeg), .ref 101, .int ((s6.2.1 101) (((s6.2.1 59) (((s.2.1 72) (x1).toNatClampNeg)).toNatClampNeg)).toNatClampNeg), .ref 55]) (h' := hpS (sA s8 101 (upd (s8.2.1 101) (((s6.2.1 59) (((s.2.1 72) (x1).toNatClampNeg)).toNatClampNeg)).toNatClampNeg r9))) rfl ?_
              obtain ⟨hin, k⟩ := k
              refine Ex.ial hq rfl rfl hin ?_
              refine Ex.seg hq 3 (j := 163) (L' := [.ref 55, .int x1, .int ((s.2.1 72) (x1).toNatClampNeg), .int ((s.2.1 58) (((s.2.1 72) (x1).toNatClampNeg)).toNatClampNeg), .int ((s.2.1 102) (((s.2.1 58) (((s.2.1 72) (x1).toNatClampNeg)).toNatClampNeg)).toNatClampNeg), .int ((s.2.1 101) (((s.2.1 58) (((s.2.1 72) (x1).toNatClampNeg)).toNatClampNeg)).toNatClampNeg), .int ((s6.2.1 59) (((s.2.1 72) (x1).toNatClampNeg)).toNatClampNeg), .int ((s6.2.1 101) (((s6.2.1 59) (((s.2.1 72) (x1).toNatClampNeg)).toNatClampNeg)).toNatClampNeg)]) (S' := [.int ((s6.2.1 59) (((s.2.1 72) (x1).toNatClampNeg)).toNatClampNeg), .ref 102, .int ((upd (s8.2.1 101) (((s6.2.1 59) (((s.2.1 72) (x1).toNatClampNeg)).toNatClampNeg)).toNatClampNeg r9) (((s6.2.1 59) (((s.2.1 72) (x1).toNatClampNeg)).toNatClampNeg)).toNatClampNeg), .int ((s6.2.1 101) (((s6.2.1 59) (((s.2.1 72) (x1).toNatClampNeg)).toNatClampNeg)).toNatClampNeg), .ref 55]) (h' := hpS (sA s8 101 (upd (s8.2.1 101) (((s6.2.1 59) (((s.2.1 72) (x1).toNatClampNeg)).toNatClampNeg)).toNatClampNeg r9))) rfl ?_
              obtain ⟨hin, k⟩ := k
              refine Ex.ial hq rfl rfl hin ?_
              refine Ex.cl hq rfl rfl ?_
              refine Rn.mono (q_246 (d := d + 0) ((s6.2.1 101) (((s6.2.1 59) (((s.2.1 72) (x1).toNatClampNeg)).toNatClampNeg)).toNatClampNeg) ((upd (s8.2.1 101) (((s6.2.1 59) (((s.2.1 72) (x1).toNatClampNeg)).toNatClampNeg)).toNatClampNeg r9) (((s6.2.1 59) (((s.2.1 72) (x1).toNatClampNeg)).toNatClampNeg)).toNatClampNeg) ((s8.2.1 102) (((s6.2.1 59) (((s.2.1 72) (x1).toNatClampNeg)).toNatClampNeg)).toNatClampNeg) (sA s8 101 (upd (s8.2.1 101) (((s6.2.1 59) (((s.2.1 72) (x1).toNatClampNeg)).toNatClampNeg)).toNatClampNeg r9)) k) ?_
              rintro _ _ ⟨s10, rfl, rfl, k⟩
              show Ex sc (d + 1) 248 165 [.ref 55, .int x1, .int ((s.2.1 72) (x1).toNatClampNeg), .int ((s.2.1 58) (((s.2.1 72) (x1).toNatClampNeg)).toNatClampNeg), .int ((s.2.1 102) (((s.2.1 58) (((s.2.1 72) (x1).toNatClampNeg)).toNatClampNeg)).toNatClampNeg), .int ((s.2.1 101) (((s.2.1 58) (((s.2.1 72) (x1).toNatClampNeg)).toNatClampNeg)).toNatClampNeg), .int ((s6.2.1 59) (((s.2.1 72) (x1).toNatClampNeg)).toNatClampNeg), .int ((s6.2.1 101) (((s6.2.1 59) (((s.2.1 72) (x1).toNatClampNeg)).toNatClampNeg)).toNatClampNeg)] [] (hpS s10) _
              refine Ex.seg hq 5 (j := 170) (L' := [.ref 55, .int x1, .int ((s.2.1 72) (x1).toNatClampNeg), .int ((s.2.1 58) (((s.2.1 72) (x1).toNatClampNeg)).toNatClampNeg), .int ((s.2.1 102) (((s.2.1 58) (((s.2.1 72) (x1).toNatClampNeg)).toNatClampNeg)).toNatClampNeg), .int ((s.2.1 101) (((s.2.1 58) (((s.2.1 72) (x1).toNatClampNeg)).toNatClampNeg)).toNatClampNeg), .int ((s6.2.1 59) (((s.2.1 72) (x1).toNatClampNeg)).toNatClampNeg), .int ((s6.2.1 101) (((s6.2.1 59) (((s.2.1 72) (x1).toNatClampNeg)).toNatClampNeg)).toNatClampNeg)]) (S' := [.int ((s6.2.1 59) (((s.2.1 72) (x1).toNatClampNeg)).toNatClampNeg), .ref 101, .int ((s.2.1 101) (((s.2.1 58) (((s.2.1 72) (x1).toNatClampNeg)).toNatClampNeg)).toNatClampNeg), .ref 55]) (h' := hpS s10) rfl ?_
              obtain ⟨hin, k⟩ := k
              refine Ex.ial hq rfl rfl hin ?_
              refine Ex.seg hq 3 (j := 174) (L' := [.ref 55, .int x1, .int ((s.2.1 72) (x1).toNatClampNeg), .int ((s.2.1 58) (((s.2.1 72) (x1).toNatClampNeg)).toNatClampNeg), .int ((s.2.1 102) (((s.2.1 58) (((s.2.1 72) (x1).toNatClampNeg)).toNatClampNeg)).toNatClampNeg), .int ((s.2.1 101) (((s.2.1 58) (((s.2.1 72) (x1).toNatClampNeg)).toNatClampNeg)).toNatClampNeg), .int ((s6.2.1 59) (((s.2.1 72) (x1).toNatClampNeg)).toNatClampNeg), .int ((s6.2.1 101) (((s6.2.1 59) (((s.2.1 72) (x1).toNatClampNeg)).toNatClampNeg)).toNatClampNeg)]) (S' := [.int ((s.2.1 72) (x1).toNatClampNeg), .ref 73, .int ((s10.2.1 101) (((s6.2.1 59) (((s.2.1 72) (x1).toNatClampNeg)).toNatClampNeg)).toNatClampNeg), .int ((s.2.1 101) (((s.2.1 58) (((s.2.1 72) (x1).toNatClampNeg)).toNatClampNeg)).toNatClampNeg), .ref 55]) (h' := hpS s10) rfl ?_
              obtain ⟨hin, k⟩ := k
              refine Ex.ial hq rfl rfl hin ?_
              refine Ex.cl hq rfl rfl ?_
              refine Rn.mono (q_246 (d := d + 0) ((s.2.1 101) (((s.2.1 58) (((s.2.1 72) (x1).toNatClampNeg)).toNatClampNeg)).toNatClampNeg) ((s10.2.1 101) (((s6.2.1 59) (((s.2.1 72) (x1).toNatClampNeg)).toNatClampNeg)).toNatClampNeg) ((s10.2.1 73) (((s.2.1 72) (x1).toNatClampNeg)).toNatClampNeg) s10 k) ?_
              rintro _ _ ⟨s12, rfl, rfl, k⟩
              show Ex sc (d + 1) 248 176 [.ref 55, .int x1, .int ((s.2.1 72) (x1).toNatClampNeg), .int ((s.2.1 58) (((s.2.1 72) (x1).toNatClampNeg)).toNatClampNeg), .int ((s.2.1 102) (((s.2.1 58) (((s.2.1 72) (x1).toNatClampNeg)).toNatClampNeg)).toNatClampNeg), .int ((s.2.1 101) (((s.2.1 58) (((s.2.1 72) (x1).toNatClampNeg)).toNatClampNeg)).toNatClampNeg), .int ((s6.2.1 59) (((s.2.1 72) (x1).toNatClampNeg)).toNatClampNeg), .int ((s6.2.1 101) (((s6.2.1 59) (((s.2.1 72) (x1).toNatClampNeg)).toNatClampNeg)).toNatClampNeg)] [] (hpS s12) _
              refine Ex.seg hq 6 (j := 182) (L' := [.ref 55, .int x1, .int ((s.2.1 72) (x1).toNatClampNeg), .int ((s.2.1 58) (((s.2.1 72) (x1).toNatClampNeg)).toNatClampNeg), .int ((s.2.1 102) (((s.2.1 58) (((s.2.1 72) (x1).toNatClampNeg)).toNatClampNeg)).toNatClampNeg), .int ((s.2.1 101) (((s.2.1 58) (((s.2.1 72) (x1).toNatClampNeg)).toNatClampNeg)).toNatClampNeg), .int ((s6.2.1 59) (((s.2.1 72) (x1).toNatClampNeg)).toNatClampNeg), .int ((s6.2.1 101) (((s6.2.1 59) (((s.2.1 72) (x1).toNatClampNeg)).toNatClampNeg)).toNatClampNeg)]) (S' := [.int ((s6.2.1 59) (((s.2.1 72) (x1).toNatClampNeg)).toNatClampNeg), .ref 102, .int ((s6.2.1 59) (((s.2.1 72) (x1).toNatClampNeg)).toNatClampNeg), .ref 102]) (h' := hpS s12) rfl ?_
              obtain ⟨hin, k⟩ := k
              refine Ex.ial hq rfl rfl hin ?_
              refine Ex.seg hq 3 (j := 186) (L' := [.ref 55, .int x1, .int ((s.2.1 72) (x1).toNatClampNeg), .int ((s.2.1 58) (((s.2.1 72) (x1).toNatClampNeg)).toNatClampNeg), .int ((s.2.1 102) (((s.2.1 58) (((s.2.1 72) (x1).toNatClampNeg)).toNatClampNeg)).toNatClampNeg), .int ((s.2.1 101) (((s.2.1 58) (((s.2.1 72) (x1).toNatClampNeg)).toNatClampNeg)).toNatClampNeg), .int ((s6.2.1 59) (((s.2.1 72) (x1).toNatClampNeg)).toNatClampNeg), .int ((s6.2.1 101) (((s6.2.1 59) (((s.2.1 72) (x1).toNatClampNeg)).toNatClampNeg)).toNatClampNeg)]) (S' := [.int ((s.2.1 72) (x1).toNatClampNeg), .ref 73, .int ((s12.2.1 102) (((s6.2.1 59) (((s.2.1 72) (x1).toNatClampNeg)).toNatClampNeg)).toNatClampNeg), .int ((s6.2.1 59) (((s.2.1 72) (x1).toNatClampNeg)).toNatClampNeg), .ref 102]) (h' := hpS s12) rfl ?_
              obtain ⟨hin, k⟩ := k
              refine Ex.ial hq rfl rfl hin ?_
              refine Ex.seg hq 1 (j := 188) (L' := [.ref 55, .int x1, .int ((s.2.1 72) (x1).toNatClampNeg), .int ((s.2.1 58) (((s.2.1 72) (x1).toNatClampNeg)).toNatClampNeg), .int ((s.2.1 102) (((s.2.1 58) (((s.2.1 72) (x1).toNatClampNeg)).toNatClampNeg)).toNatClampNeg), .int ((s.2.1 101) (((s.2.1 58) (((s.2.1 72) (x1).toNatClampNeg)).toNatClampNeg)).toNatClampNeg), .int ((s6.2.1 59) (((s.2.1 72) (x1).toNatClampNeg)).toNatClampNeg), .int ((s6.2.1 101) (((s6.2.1 59) (((s.2.1 72) (x1).toNatClampNeg)).toNatClampNeg)).toNatClampNeg)]) (S' := [.int (((s12.2.1 102) (((s6.2.1 59) (((s.2.1 72) (x1).toNatClampNeg)).toNatClampNeg)).toNatClampNeg) + ((s12.2.1 73) (((s.2.1 72) (x1).toNatClampNeg)).toNatClampNeg)), .int ((s6.2.1 59) (((s.2.1 72) (x1).toNatClampNeg)).toNatClampNeg), .ref 102]) (h' := hpS s12) rfl ?_
              obtain ⟨hin, k⟩ := k
              refine Ex.ias hq rfl rfl hin (h' := hpS (sA s12 102 (upd (s12.2.1 102) (((s6.2.1 59) (((s.2.1 72) (x1).toNatClampNeg)).toNatClampNeg)).toNatClampNeg (((s12.2.1 102) (((s6.2.1 59) (((s.2.1 72) (x1).toNatClampNeg)).toNatClampNeg)).toNatClampNeg) + ((s12.2.1 73) (((s.2.1 72) (x1).toNatClampNeg)).toNatClampNeg))))) (hset_102 _ _) ?_
              refine Ex.seg hq 2 (j := 30) (L' := [.ref 55, .int (x1 + (1 : Int32)), .int ((s.2.1 72) (x1).toNatClampNeg), .int ((s.2.1 58) (((s.2.1 72) (x1).toNatClampNeg)).toNatClampNeg), .int ((s.2.1 102) (((s.2.1 58) (((s.2.1 72) (x1).toNatClampNeg)).toNatClampNeg)).toNatClampNeg), .int ((s.2.1 101) (((s.2.1 58) (((s.2.1 72) (x1).toNatClampNeg)).toNatClampNeg)).toNatClampNeg), .int ((s6.2.1 59) (((s.2.1 72) (x1).toNatClampNeg)).toNatClampNeg), .int ((s6.2.1 101) (((s6.2.1 59) (((s.2.1 72) (x1).toNatClampNeg)).toNatClampNeg)).toNatClampNeg)]) (S' := []) (h' := hpS (sA s12 102 (upd (s12.2.1 102) (((s6.2.1 59) (((s.2.1 72) (x1).toNatClampNeg)).toNatClampNeg)).toNatClampNeg (((s12.2.1 102) (((s6.2.1 59) (((s.2.1 72) (x1).toNatClampNeg)).toNatClampNeg)).toNatClampNeg) + ((s12.2.1 73) (((s.2.1 72) (x1).toNatClampNeg)).toNatClampNeg))))) rfl ?_
              refine Ex.fg (L := [.ref 55, .int (x1 + (1 : Int32)), pu, pu, pu, pu, pu, pu]) ⟨Or.inl rfl, ⟨Or.inl rfl, ⟨Or.inr ⟨rfl, rfl⟩, ⟨Or.inr ⟨rfl, rfl⟩, ⟨Or.inr ⟨rfl, rfl⟩, ⟨Or.inr ⟨rfl, rfl⟩, ⟨Or.inr ⟨rfl, rfl⟩, ⟨Or.inr ⟨rfl, rfl⟩, trivial⟩⟩⟩⟩⟩⟩⟩⟩ ?_
              exact ih (x1 + (1 : Int32)) (sA s12 102 (upd (s12.2.1 102) (((s6.2.1 59) (((s.2.1 72) (x1).toNatClampNeg)).toNatClampNeg)).toNatClampNeg (((s12.2.1 102) (((s6.2.1 59) (((s.2.1 72) (x1).toNatClampNeg)).toNatClampNeg)).toNatClampNeg) + ((s12.2.1 73) (((s.2.1 72) (x1).toNatClampNeg)).toNatClampNeg)))) k hX191
            · have k := k.2 c
              refine Ex.seg hq 6 (j := 135) (L' := [.ref 55, .int x1, .int ((s.2.1 72) (x1).toNatClampNeg), .int ((s.2.1 58) (((s.2.1 72) (x1).toNatClampNeg)).toNatClampNeg), .int ((s.2.1 102) (((s.2.1 58) (((s.2.1 72) (x1).toNatClampNeg)).toNatClampNeg)).toNatClampNeg), .int ((s.2.1 101) (((s.2.1 58) (((s.2.1 72) (x1).toNatClampNeg)).toNatClampNeg)).toNatClampNeg), pu, pu]) (S' := [.int ((s.2.1 72) (x1).toNatClampNeg), .ref 73, .int (0 : Int32), .int ((s.2.1 101) (((s.2.1 58) (((s.2.1 72) (x1).toNatClampNeg)).toNatClampNeg)).toNatClampNeg), .ref 55]) (h' := hpS (sA s6 102 (upd (s6.2.1 102) (((s.2.1 58) (((s.2.1 72) (x1).toNatClampNeg)).toNatClampNeg)).toNatClampNeg (((s.2.1 102) (((s.2.1 58) (((s.2.1 72) (x1).toNatClampNeg)).toNatClampNeg)).toNatClampNeg) - ((s6.2.1 73) (((s.2.1 72) (x1).toNatClampNeg)).toNatClampNeg))))) rfl ?_
              obtain ⟨hin, k⟩ := k
              refine Ex.ial hq rfl rfl hin ?_
              refine Ex.cl hq rfl rfl ?_
              refine Rn.mono (q_246 (d := d + 0) ((s.2.1 101) (((s.2.1 58) (((s.2.1 72) (x1).toNatClampNeg)).toNatClampNeg)).toNatClampNeg) (0 : Int32) ((s6.2.1 73) (((s.2.1 72) (x1).toNatClampNeg)).toNatClampNeg) (sA s6 102 (upd (s6.2.1 102) (((s.2.1 58) (((s.2.1 72) (x1).toNatClampNeg)).toNatClampNeg)).toNatClampNeg (((s.2.1 102) (((s.2.1 58) (((s.2.1 72) (x1).toNatClampNeg)).toNatClampNeg)).toNatClampNeg) - ((s6.2.1 73) (((s.2.1 72) (x1).toNatClampNeg)).toNatClampNeg)))) k) ?_
              rintro _ _ ⟨s14, rfl, rfl, k⟩
              show Ex sc (d + 1) 248 137 [.ref 55, .int x1, .int ((s.2.1 72) (x1).toNatClampNeg), .int ((s.2.1 58) (((s.2.1 72) (x1).toNatClampNeg)).toNatClampNeg), .int ((s.2.1 102) (((s.2.1 58) (((s.2.1 72) (x1).toNatClampNeg)).toNatClampNeg)).toNatClampNeg), .int ((s.2.1 101) (((s.2.1 58) (((s.2.1 72) (x1).toNatClampNeg)).toNatClampNeg)).toNatClampNeg), pu, pu] [] (hpS s14) _
              refine Ex.seg hq 3 (j := 30) (L' := [.ref 55, .int (x1 + (1 : Int32)), .int ((s.2.1 72) (x1).toNatClampNeg), .int ((s.2.1 58) (((s.2.1 72) (x1).toNatClampNeg)).toNatClampNeg), .int ((s.2.1 102) (((s.2.1 58) (((s.2.1 72) (x1).toNatClampNeg)).toNatClampNeg)).toNatClampNeg), .int ((s.2.1 101) (((s.2.1 58) (((s.2.1 72) (x1).toNatClampNeg)).toNatClampNeg)).toNatClampNeg), pu, pu]) (S' := []) (h' := hpS s14) rfl ?_
              refine Ex.fg (L := [.ref 55, .int (x1 + (1 : Int32)), pu, pu, pu, pu, pu, pu]) ⟨Or.inl rfl, ⟨Or.inl rfl, ⟨Or.inr ⟨rfl, rfl⟩, ⟨Or.inr ⟨rfl, rfl⟩, ⟨Or.inr ⟨rfl, rfl⟩, ⟨Or.inr ⟨rfl, rfl⟩, ⟨Or.inl rfl, ⟨Or.inl rfl, trivial⟩⟩⟩⟩⟩⟩⟩⟩ ?_
              exact ih (x1 + (1 : Int32)) s14 k hX191
          · have k := k.2 c
            refine Ex.seg hq 3 (j := 82) (L' := [.ref 55, .int x1, .int ((s.2.1 72) (x1).toNatClampNeg), .int ((s.2.1 58) (((s.2.1 72) (x1).toNatClampNeg)).toNatClampNeg), pu, pu, pu, pu]) (S' := [.int ((s.2.1 72) (x1).toNatClampNeg), .ref 73]) (h' := hpS s) rfl ?_
            obtain ⟨hin, k⟩ := k
            refine Ex.ial hq rfl rfl hin ?_
            refine Ex.seg hq 5 (j := 92) (L' := [.ref 55, .int x1, .int ((s.2.1 72) (x1).toNatClampNeg), .int ((s.2.1 58) (((s.2.1 72) (x1).toNatClampNeg)).toNatClampNeg), .int ((s.2.1 73) (((s.2.1 72) (x1).toNatClampNeg)).toNatClampNeg), pu, pu, pu]) (S' := [.int ((s.2.1 58) (((s.2.1 72) (x1).toNatClampNeg)).toNatClampNeg), .ref 101]) (h' := hpS s) rfl ?_
            obtain ⟨hin, k⟩ := k
            refine Ex.ial hq rfl rfl hin ?_
            refine Ex.seg hq 5 (j := 98) (L' := [.ref 55, .int x1, .int ((s.2.1 72) (x1).toNatClampNeg), .int ((s.2.1 58) (((s.2.1 72) (x1).toNatClampNeg)).toNatClampNeg), .int ((s.2.1 73) (((s.2.1 72) (x1).toNatClampNeg)).toNatClampNeg), .int ((s.2.1 101) (((s.2.1 58) (((s.2.1 72) (x1).toNatClampNeg)).toNatClampNeg)).toNatClampNeg), pu, pu]) (S' := [.ref 55, .int ((s.2.1 58) (((s.2.1 72) (x1).toNatClampNeg)).toNatClampNeg), .ref 101]) (h' := hpS s) rfl ?_
            refine Ex.cl hq rfl rfl ?_
            refine Rn.mono (q_247 (d := d + 0) s k) ?_
            rintro _ _ ⟨r17, s16, rfl, rfl, k⟩
            show Ex sc (d + 1) 248 99 [.ref 55, .int x1, .int ((s.2.1 72) (x1).toNatClampNeg), .int ((s.2.1 58) (((s.2.1 72) (x1).toNatClampNeg)).toNatClampNeg), .int ((s.2.1 73) (((s.2.1 72) (x1).toNatClampNeg)).toNatClampNeg), .int ((s.2.1 101) (((s.2.1 58) (((s.2.1 72) (x1).toNatClampNeg)).toNatClampNeg)).toNatClampNeg), pu, pu] [.int r17, .int ((s.2.1 58) (((s.2.1 72) (x1).toNatClampNeg)).toNatClampNeg), .ref 101] (hpS s16) _
            obtain ⟨hin, k⟩ := k
            refine Ex.ias hq rfl rfl hin (h' := hpS (sA s16 101 (upd (s16.2.1 101) (((s.2.1 58) (((s.2.1 72) (x1).toNatClampNeg)).toNatClampNeg)).toNatClampNeg r17))) (hset_101 _ _) ?_
            refine Ex.seg hq 5 (j := 105) (L' := [.ref 55, .int x1, .int ((s.2.1 72) (x1).toNatClampNeg), .int ((s.2.1 58) (((s.2.1 72) (x1).toNatClampNeg)).toNatClampNeg), .int ((s.2.1 73) (((s.2.1 72) (x1).toNatClampNeg)).toNatClampNeg), .int ((s.2.1 101) (((s.2.1 58) (((s.2.1 72) (x1).toNatClampNeg)).toNatClampNeg)).toNatClampNeg), pu, pu]) (S' := [.int ((s.2.1 58) (((s.2.1 72) (x1).toNatClampNeg)).toNatClampNeg), .ref 101, .int ((s.2.1 101) (((s.2.1 58) (((s.2.1 72) (x1).toNatClampNeg)).toNatClampNeg)).toNatClampNeg), .ref 55]) (h' := hpS (sA s16 101 (upd (s16.2.1 101) (((s.2.1 58) (((s.2.1 72) (x1).toNatClampNeg)).toNatClampNeg)).toNatClampNeg r17))) rfl ?_
            obtain ⟨hin, k⟩ := k
            refine Ex.ial hq rfl rfl hin ?_
            refine Ex.seg hq 4 (j := 110) (L' := [.ref 55, .int x1, .int ((s.2.1 72) (x1).toNatClampNeg), .int ((s.2.1 58) (((s.2.1 72) (x1).toNatClampNeg)).toNatClampNeg), .int ((s.2.1 73) (((s.2.1 72) (x1).toNatClampNeg)).toNatClampNeg), .int ((s.2.1 101) (((s.2.1 58) (((s.2.1 72) (x1).toNatClampNeg)).toNatClampNeg)).toNatClampNeg), pu, pu]) (S' := [.int ((s.2.1 72) (x1).toNatClampNeg), .ref 73, .int ((s.2.1 73) (((s.2.1 72) (x1).toNatClampNeg)).toNatClampNeg), .int ((upd (s16.2.1 101) (((s.2.1 58) (((s.2.1 72) (x1).toNatClampNeg)).toNatClampNeg)).toNatClampNeg r17) (((s.2.1 58) (((s.2.1 72) (x1).toNatClampNeg)).toNatClampNeg)).toNatClampNeg), .int ((s.2.1 101) (((s.2.1 58) (((s.2.1 72) (x1).toNatClampNeg)).toNatClampNeg)).toNatClampNeg), .ref 55]) (h' := hpS (sA s16 101 (upd (s16.2.1 101) (((s.2.1 58) (((s.2.1 72) (x1).toNatClampNeg)).toNatClampNeg)).toNatClampNeg r17))) rfl ?_
            obtain ⟨hin, k⟩ := k
            refine Ex.ial hq rfl rfl hin ?_
            refine Ex.seg hq 1 (j := 112) (L' := [.ref 55, .int x1, .int ((s.2.1 72) (x1).toNatClampNeg), .int ((s.2.1 58) (((s.2.1 72) (x1).toNatClampNeg)).toNatClampNeg), .int ((s.2.1 73) (((s.2.1 72) (x1).toNatClampNeg)).toNatClampNeg), .int ((s.2.1 101) (((s.2.1 58) (((s.2.1 72) (x1).toNatClampNeg)).toNatClampNeg)).toNatClampNeg), pu, pu]) (S' := [.int (((s.2.1 73) (((s.2.1 72) (x1).toNatClampNeg)).toNatClampNeg) - ((s16.2.1 73) (((s.2.1 72) (x1).toNatClampNeg)).toNatClampNeg)), .int ((upd (s16.2.1 101) (((s.2.1 58) (((s.2.1 72) (x1).toNatClampNeg)).toNatClampNeg)).toNatClampNeg r17) (((s.2.1 58) (((s.2.1 72) (x1).toNatClampNeg)).toNatClampNeg)).toNatClampNeg), .int ((s.2.1 101) (((s.2.1 58) (((s.2.1 72) (x1).toNatClampNeg)).toNatClampNeg)).toNatClampNeg), .ref 55]) (h' := hpS (sA s16 101 (upd (s16.2.1 101) (((s.2.1 58) (((s.2.1 72) (x1).toNatClampNeg)).toNatClampNeg)).toNatClampNeg r17))) rfl ?_
            refine Ex.cl hq rfl rfl ?_
            refine Rn.mono (q_246 (d := d + 0) ((s.2.1 101) (((s.2.1 58) (((s.2.1 72) (x1).toNatClampNeg)).toNatClampNeg)).toNatClampNeg) ((upd (s16.2.1 101) (((s.2.1 58) (((s.2.1 72) (x1).toNatClampNeg)).toNatClampNeg)).toNatClampNeg r17) (((s.2.1 58) (((s.2.1 72) (x1).toNatClampNeg)).toNatClampNeg)).toNatClampNeg) (((s.2.1 73) (((s.2.1 72) (x1).toNatClampNeg)).toNatClampNeg) - ((s16.2.1 73) (((s.2.1 72) (x1).toNatClampNeg)).toNatClampNeg)) (sA s16 101 (upd (s16.2.1 101) (((s.2.1 58) (((s.2.1 72) (x1).toNatClampNeg)).toNatClampNeg)).toNatClampNeg r17)) k) ?_
            rintro _ _ ⟨s18, rfl, rfl, k⟩
            show Ex sc (d + 1) 248 113 [.ref 55, .int x1, .int ((s.2.1 72) (x1).toNatClampNeg), .int ((s.2.1 58) (((s.2.1 72) (x1).toNatClampNeg)).toNatClampNeg), .int ((s.2.1 73) (((s.2.1 72) (x1).toNatClampNeg)).toNatClampNeg), .int ((s.2.1 101) (((s.2.1 58) (((s.2.1 72) (x1).toNatClampNeg)).toNatClampNeg)).toNatClampNeg), pu, pu] [] (hpS s18) _
            refine Ex.seg hq 7 (j := 120) (L' := [.ref 55, .int x1, .int ((s.2.1 72) (x1).toNatClampNeg), .int ((s.2.1 58) (((s.2.1 72) (x1).toNatClampNeg)).toNatClampNeg), .int ((s.2.1 73) (((s.2.1 72) (x1).toNatClampNeg)).toNatClampNeg), .int ((s.2.1 101) (((s.2.1 58) (((s.2.1 72) (x1).toNatClampNeg)).toNatClampNeg)).toNatClampNeg), pu, pu]) (S' := [.int ((s.2.1 72) (x1).toNatClampNeg), .ref 73, .int ((s.2.1 73) (((s.2.1 72) (x1).toNatClampNeg)).toNatClampNeg), .int ((s.2.1 58) (((s.2.1 72) (x1).toNatClampNeg)).toNatClampNeg), .ref 102]) (h' := hpS s18) rfl ?_
            obtain ⟨hin, k⟩ := k
            refine Ex.ial hq rfl rfl hin ?_
            refine Ex.seg hq 1 (j := 122) (L' := [.ref 55, .int x1, .int ((s.2.1 72) (x1).toNatClampNeg), .int ((s.2.1 58) (((s.2.1 72) (x1).toNatClampNeg)).toNatClampNeg), .int ((s.2.1 73) (((s.2.1 72) (x1).toNatClampNeg)).toNatClampNeg), .int ((s.2.1 101) (((s.2.1 58) (((s.2.1 72) (x1).toNatClampNeg)).toNatClampNeg)).toNatClampNeg), pu, pu]) (S' := [.int (((s.2.1 73) (((s.2.1 72) (x1).toNatClampNeg)).toNatClampNeg) - ((s18.2.1 73) (((s.2.1 72) (x1).toNatClampNeg)).toNatClampNeg)), .int ((s.2.1 58) (((s.2.1 72) (x1).toNatClampNeg)).toNatClampNeg), .ref 102]) (h' := hpS s18) rfl ?_
            obtain ⟨hin, k⟩ := k
            refine Ex.ias hq rfl rfl hin (h' := hpS (sA s18 102 (upd (s18.2.1 102) (((s.2.1 58) (((s.2.1 72) (x1).toNatClampNeg)).toNatClampNeg)).toNatClampNeg (((s.2.1 73) (((s.2.1 72) (x1).toNatClampNeg)).toNatClampNeg) - ((s18.2.1 73) (((s.2.1 72) (x1).toNatClampNeg)).toNatClampNeg))))) (hset_102 _ _) ?_
            refine Ex.seg hq 3 (j := 126) (L' := [.ref 55, .int x1, .int ((s.2.1 72) (x1).toNatClampNeg), .int ((s.2.1 58) (((s.2.1 72) (x1).toNatClampNeg)).toNatClampNeg), .int ((s.2.1 73) (((s.2.1 72) (x1).toNatClampNeg)).toNatClampNeg), .int ((s.2.1 101) (((s.2.1 58) (((s.2.1 72) (x1).toNatClampNeg)).toNatClampNeg)).toNatClampNeg), pu, pu]) (S' := [.int ((s.2.1 72) (x1).toNatClampNeg), .ref 57]) (h' := hpS (sA s18 102 (upd (s18.2.1 102) (((s.2.1 58) (((s.2.1 72) (x1).toNatClampNeg)).toNatClampNeg)).toNatClampNeg (((s.2.1 73) (((s.2.1 72) (x1).toNatClampNeg)).toNatClampNeg) - ((s18.2.1 73) (((s.2.1 72) (x1).toNatClampNeg)).toNatClampNeg))))) rfl ?_
            obtain ⟨hin, k⟩ := k
            refine Ex.ial hq rfl rfl hin ?_
            refine Ex.seg hq 1 (j := 128) (L' := [.ref 55, .int x1, .int ((s.2.1 72) (x1).toNatClampNeg), .int ((s.2.1 58) (((s.2.1 72) (x1).toNatClampNeg)).toNatClampNeg), .int ((s.2.1 73) (((s.2.1 72) (x1).toNatClampNeg)).toNatClampNeg), .int ((s.2.1 101) (((s.2.1 58) (((s.2.1 72) (x1).toNatClampNeg)).toNatClampNeg)).toNatClampNeg), pu, pu]) (S' := [.int (1 : Int32), .int ((s18.2.1 57) (((s.2.1 72) (x1).toNatClampNeg)).toNatClampNeg)]) (h' := hpS (sA s18 102 (upd (s18.2.1 102) (((s.2.1 58) (((s.2.1 72) (x1).toNatClampNeg)).toNatClampNeg)).toNatClampNeg (((s.2.1 73) (((s.2.1 72) (x1).toNatClampNeg)).toNatClampNeg) - ((s18.2.1 73) (((s.2.1 72) (x1).toNatClampNeg)).toNatClampNeg))))) rfl ?_
            refine Ex.i2 hq rfl (fun c => ?_) (fun c => ?_)
            · have k := k.1 c
              refine Ex.seg hq 3 (j := 141) (L' := [.ref 55, .int x1, .int ((s.2.1 72) (x1).toNatClampNeg), .int ((s.2.1 58) (((s.2.1 72) (x1).toNatClampNeg)).toNatClampNeg), .int ((s.2.1 73) (((s.2.1 72) (x1).toNatClampNeg)).toNatClampNeg), .int ((s.2.1 101) (((s.2.1 58) (((s.2.1 72) (x1).toNatClampNeg)).toNatClampNeg)).toNatClampNeg), pu, pu]) (S' := [.int ((s.2.1 72) (x1).toNatClampNeg), .ref 59]) (h' := hpS (sA s18 102 (upd (s18.2.1 102) (((s.2.1 58) (((s.2.1 72) (x1).toNatClampNeg)).toNatClampNeg)).toNatClampNeg (((s.2.1 73) (((s.2.1 72) (x1).toNatClampNeg)).toNatClampNeg) - ((s18.2.1 73) (((s.2.1 72) (x1).toNatClampNeg)).toNatClampNeg))))) rfl ?_
              obtain ⟨hin, k⟩ := k
              refine Ex.ial hq rfl rfl hin ?_
              refine Ex.seg hq 4 (j := 146) (L' := [.ref 55, .int x1, .int ((s.2.1 72) (x1).toNatClampNeg), .int ((s.2.1 58) (((s.2.1 72) (x1).toNatClampNeg)).toNatClampNeg), .int ((s.2.1 73) (((s.2.1 72) (x1).toNatClampNeg)).toNatClampNeg), .int ((s.2.1 101) (((s.2.1 58) (((s.2.1 72) (x1).toNatClampNeg)).toNatClampNeg)).toNatClampNeg), .int ((s18.2.1 59) (((s.2.1 72) (x1).toNatClampNeg)).toNatClampNeg), pu]) (S' := [.int ((s18.2.1 59) (((s.2.1 72) (x1).toNatClampNeg)).toNatClampNeg), .ref 101]) (h' := hpS (sA s18 102 (upd (s18.2.1 102) (((s.2.1 58) (((s.2.1 72) (x1).toNatClampNeg)).toNatClampNeg)).toNatClampNeg (((s.2.1 73) (((s.2.1 72) (x1).toNatClampNeg)).toNatClampNeg) - ((s18.2.1 73) (((s.2.1 72) (x1).toNatClampNeg)).toNatClampNeg))))) rfl ?_
              obtain ⟨hin, k⟩ := k
              refine Ex.ial hq rfl rfl hin ?_
              refine Ex.seg hq 5 (j := 152) (L' := [.ref 55, .int x1, .int ((s.2.1 72) (x1).toNatClampNeg), .int ((s.2.1 58) (((s.2.1 72) (x1).toNatClampNeg)).toNatClampNeg), .int ((s.2.1 73) (((s.2.1 72) (x1).toNatClampNeg)).toNatClampNeg), .int ((s.2.1 101) (((s.2.1 58) (((s.2.1 72) (x1).toNatClampNeg)).toNatClampNeg)).toNatClampNeg), .int ((s18.2.1 59) (((s.2.1 72) (x1).toNatClampNeg)).toNatClampNeg), .int ((s18.2.1 101) (((s18.2.1 59) (((s.2.1 72) (x1).toNatClampNeg)).toNatClampNeg)).toNatClampNeg)]) (S' := [.ref 55, .int ((s18.2.1 59) (((s.2.1 72) (x1).toNatClampNeg)).toNatClampNeg), .ref 101]) (h' := hpS (sA s18 102 (upd (s18.2.1 102) (((s.2.1 58) (((s.2.1 72) (x1).toNatClampNeg)).toNatClampNeg)).toNatClampNeg (((s.2.1 73) (((s.2.1 72) (x1).toNatClampNeg)).toNatClampNeg) - ((s18.2.1 73) (((s.2.1 72) (x1).toNatClampNeg)).toNatClampNeg))))) rfl ?_
              refine Ex.cl hq rfl rfl ?_
              refine Rn.mono (q_247 (d := d + 0) (sA s18 102 (upd (s18.2.1 102) (((s.2.1 58) (((s.2.1 72) (x1).toNatClampNeg)).toNatClampNeg)).toNatClampNeg (((s.2.1 73) (((s.2.1 72) (x1).toNatClampNeg)).toNatClampNeg) - ((s18.2.1 73) (((s.2.1 72) (x1).toNatClampNeg)).toNatClampNeg)))) k) ?_
              rintro _ _ ⟨r21, s20, rfl, rfl, k⟩
              show Ex sc (d + 1) 248 153 [.ref 55, .int x1, .int ((s.2.1 72) (x1).toNatClampNeg), .int ((s.2.1 58) (((s.2.1 72) (x1).toNatClampNeg)).toNatClampNeg), .int ((s.2.1 73) (((s.2.1 72) (x1).toNatClampNeg)).toNatClampNeg), .int ((s.2.1 101) (((s.2.1 58) (((s.2.1 72) (x1).toNatClampNeg)).toNatClampNeg)).toNatClampNeg), .int ((s18.2.1 59) (((s.2.1 72) (x1).toNatClampNeg)).toNatClampNeg), .int ((s18.2.1 101) (((s18.2.1 59) (((s.2.1 72) (x1).toNatClampNeg)).toNatClampNeg)).toNatClampNeg)] [.int r21, .int ((s18.2.1 59) (((s.2.1 72) (x1).toNatClampNeg)).toNatClampNeg), .ref 101] (hpS s20) _
              obtain ⟨hin, k⟩ := k
              refine Ex.ias hq rfl rfl hin (h' := hpS (sA s20 101 (upd (s20.2.1 101) (((s18.2.1 59) (((s.2.1 72) (x1).toNatClampNeg)).toNatClampNeg)).toNatClampNeg r21))) (hset_101 _ _) ?_
              refine Ex.seg hq 5 (j := 159) (L' := [.ref 55, .int x1, .int ((s.2.1 72) (x1).toNatClampNeg), .int ((s.2.1 58) (((s.2.1 72) (x1).toNatClampNeg)).toNatClampNeg), .int ((s.2.1 73) (((s.2.1 72) (x1).toNatClampNeg)).toNatClampNeg), .int ((s.2.1 101) (((s.2.1 58) (((s.2.1 72) (x1).toNatClampNeg)).toNatClampNeg)).toNatClampNeg), .int ((s18.2.1 59) (((s.2.1 72) (x1).toNatClampNeg)).toNatClampNeg), .int ((s18.2.1 101) (((s18.2.1 59) (((s.2.1 72) (x1).toNatClampNeg)).toNatClampNeg)).toNatClampNeg)]) (S' := [.int ((s18.2.1 59) (((s.2.1 72) (x1).toNatClampNeg)).toNatClampNeg), .ref 101, .int ((s18.2.1 101) (((s18.2.1 59) (((s.2.1 72) (x1).toNatClampNeg)).toNatClampNeg)).toNatClampNeg), .ref 55]) (h' := hpS (sA s20 101 (upd (s20.2.1 101) (((s18.2.1 59) (((s.2.1 72) (x1).toNatClampNeg)).toNatClampNeg)).toNatClampNeg r21))) rfl ?_
              obtain ⟨hin, k⟩ := k
              refine Ex.ial hq rfl rfl hin ?_
              refine Ex.seg hq 3 (j := 163) (L' := [.ref 55, .int x1, .int ((s.2.1 72) (x1).toNatClampNeg), .int ((s.2.1 58) (((s.2.1 72) (x1).toNatClampNeg)).toNatClampNeg), .int ((s.2.1 73) (((s.2.1 72) (x1).toNatClampNeg)).toNatClampNeg), .int ((s.2.1 101) (((s.2.1 58) (((s.2.1 72) (x1).toNatClampNeg)).toNatClampNeg)).toNatClampNeg), .int ((s18.2.1 59) (((s.2.1 72) (x1).toNatClampNeg)).toNatClampNeg), .int ((s18.2.1 101) (((s18.2.1 59) (((s.2.1 72) (x1).toNatClampNeg)).toNatClampNeg)).toNatClampNeg)]) (S' := [.int ((s18.2.1 59) (((s.2.1 72) (x1).toNatClampNeg)).toNatClampNeg), .ref 102, .int ((upd (s20.2.1 101) (((s18.2.1 59) (((s.2.1 72) (x1).toNatClampNeg)).toNatClampNeg)).toNatClampNeg r21) (((s18.2.1 59) (((s.2.1 72) (x1).toNatClampNeg)).toNatClampNeg)).toNatClampNeg), .int ((s18.2.1 101) (((s18.2.1 59) (((s.2.1 72) (x1).toNatClampNeg)).toNatClampNeg)).toNatClampNeg), .ref 55]) (h' := hpS (sA s20 101 (upd (s20.2.1 101) (((s18.2.1 59) (((s.2.1 72) (x1).toNatClampNeg)).toNatClampNeg)).toNatClampNeg r21))) rfl ?_
              obtain ⟨hin, k⟩ := k
              refine Ex.ial hq rfl rfl hin ?_
              refine Ex.cl hq rfl rfl ?_
              refine Rn.mono (q_246 (d := d + 0) ((s18.2.1 101) (((s18.2.1 59) (((s.2.1 72) (x1).toNatClampNeg)).toNatClampNeg)).toNatClampNeg) ((upd (s20.2.1 101) (((s18.2.1 59) (((s.2.1 72) (x1).toNatClampNeg)).toNatClampNeg)).toNatClampNeg r21) (((s18.2.1 59) (((s.2.1 72) (x1).toNatClampNeg)).toNatClampNeg)).toNatClampNeg) ((s20.2.1 102) (((s18.2.1 59) (((s.2.1 72) (x1).toNatClampNeg)).toNatClampNeg)).toNatClampNeg) (sA s20 101 (upd (s20.2.1 101) (((s18.2.1 59) (((s.2.1 72) (x1).toNatClampNeg)).toNatClampNeg)).toNatClampNeg r21)) k) ?_
              rintro _ _ ⟨s22, rfl, rfl, k⟩
              show Ex sc (d + 1) 248 165 [.ref 55, .int x1, .int ((s.2.1 72) (x1).toNatClampNeg), .int ((s.2.1 58) (((s.2.1 72) (x1).toNatClampNeg)).toNatClampNeg), .int ((s.2.1 73) (((s.2.1 72) (x1).toNatClampNeg)).toNatClampNeg), .int ((s.2.1 101) (((s.2.1 58) (((s.2.1 72) (x1).toNatClampNeg)).toNatClampNeg)).toNatClampNeg), .int ((s18.2.1 59) (((s.2.1 72) (x1).toNatClampNeg)).toNatClampNeg), .int ((s18.2.1 101) (((s18.2.1 59) (((s.2.1 72) (x1).toNatClampNeg)).toNatClampNeg)).toNatClampNeg)] [] (hpS s22) _
              refine Ex.seg hq 5 (j := 170) (L' := [.ref 55, .int x1, .int ((s.2.1 72) (x1).toNatClampNeg), .int ((s.2.1 58) (((s.2.1 72) (x1).toNatClampNeg)).toNatClampNeg), .int ((s.2.1 73) (((s.2.1 72) (x1).toNatClampNeg)).toNatClampNeg), .int ((s.2.1 101) (((s.2.1 58) (((s.2.1 72) (x1).toNatClampNeg)).toNatClampNeg)).toNatClampNeg), .int ((s18.2.1 59) (((s.2.1 72) (x1).toNatClampNeg)).toNatClampNeg), .int ((s18.2.1 101) (((s18.2.1 59) (((s.2.1 72) (x1).toNatClampNeg)).toNatClampNeg)).toNatClampNeg)]) (S' := [.int ((s18.2.1 59) (((s.2.1 72) (x1).toNatClampNeg)).toNatClampNeg), .ref 101, .int ((s.2.1 101) (((s.2.1 58) (((s.2.1 72) (x1).toNatClampNeg)).toNatClampNeg)).toNatClampNeg), .ref 55]) (h' := hpS s22) rfl ?_
              obtain ⟨hin, k⟩ := k
              refine Ex.ial hq rfl rfl hin ?_
              refine Ex.seg hq 3 (j := 174) (L' := [.ref 55, .int x1, .int ((s.2.1 72) (x1).toNatClampNeg), .int ((s.2.1 58) (((s.2.1 72) (x1).toNatClampNeg)).toNatClampNeg), .int ((s.2.1 73) (((s.2.1 72) (x1).toNatClampNeg)).toNatClampNeg), .int ((s.2.1 101) (((s.2.1 58) (((s.2.1 72) (x1).toNatClampNeg)).toNatClampNeg)).toNatClampNeg), .int ((s18.2.1 59) (((s.2.1 72) (x1).toNatClampNeg)).toNatClampNeg), .int ((s18.2.1 101) (((s18.2.1 59) (((s.2.1 72) (x1).toNatClampNeg)).toNatClampNeg)).toNatClampNeg)]) (S' := [.int ((s.2.1 72) (x1).toNatClampNeg), .ref 73, .int ((s22.2.1 101) (((s18.2.1 59) (((s.2.1 72) (x1).toNatClampNeg)).toNatClampNeg)).toNatClampNeg), .int ((s.2.1 101) (((s.2.1 58) (((s.2.1 72) (x1).toNatClampNeg)).toNatClampNeg)).toNatClampNeg), .ref 55]) (h' := hpS s22) rfl ?_
              obtain ⟨hin, k⟩ := k
              refine Ex.ial hq rfl rfl hin ?_
              refine Ex.cl hq rfl rfl ?_
              refine Rn.mono (q_246 (d := d + 0) ((s.2.1 101) (((s.2.1 58) (((s.2.1 72) (x1).toNatClampNeg)).toNatClampNeg)).toNatClampNeg) ((s22.2.1 101) (((s18.2.1 59) (((s.2.1 72) (x1).toNatClampNeg)).toNatClampNeg)).toNatClampNeg) ((s22.2.1 73) (((s.2.1 72) (x1).toNatClampNeg)).toNatClampNeg) s22 k) ?_
              rintro _ _ ⟨s24, rfl, rfl, k⟩
              show Ex sc (d + 1) 248 176 [.ref 55, .int x1, .int ((s.2.1 72) (x1).toNatClampNeg), .int ((s.2.1 58) (((s.2.1 72) (x1).toNatClampNeg)).toNatClampNeg), .int ((s.2.1 73) (((s.2.1 72) (x1).toNatClampNeg)).toNatClampNeg), .int ((s.2.1 101) (((s.2.1 58) (((s.2.1 72) (x1).toNatClampNeg)).toNatClampNeg)).toNatClampNeg), .int ((s18.2.1 59) (((s.2.1 72) (x1).toNatClampNeg)).toNatClampNeg), .int ((s18.2.1 101) (((s18.2.1 59) (((s.2.1 72) (x1).toNatClampNeg)).toNatClampNeg)).toNatClampNeg)] [] (hpS s24) _
              refine Ex.seg hq 6 (j := 182) (L' := [.ref 55, .int x1, .int ((s.2.1 72) (x1).toNatClampNeg), .int ((s.2.1 58) (((s.2.1 72) (x1).toNatClampNeg)).toNatClampNeg), .int ((s.2.1 73) (((s.2.1 72) (x1).toNatClampNeg)).toNatClampNeg), .int ((s.2.1 101) (((s.2.1 58) (((s.2.1 72) (x1).toNatClampNeg)).toNatClampNeg)).toNatClampNeg), .int ((s18.2.1 59) (((s.2.1 72) (x1).toNatClampNeg)).toNatClampNeg), .int ((s18.2.1 101) (((s18.2.1 59) (((s.2.1 72) (x1).toNatClampNeg)).toNatClampNeg)).toNatClampNeg)]) (S' := [.int ((s18.2.1 59) (((s.2.1 72) (x1).toNatClampNeg)).toNatClampNeg), .ref 102, .int ((s18.2.1 59) (((s.2.1 72) (x1).toNatClampNeg)).toNatClampNeg), .ref 102]) (h' := hpS s24) rfl ?_
              obtain ⟨hin, k⟩ := k
              refine Ex.ial hq rfl rfl hin ?_
              refine Ex.seg hq 3 (j := 186) (L' := [.ref 55, .int x1, .int ((s.2.1 72) (x1).toNatClampNeg), .int ((s.2.1 58) (((s.2.1 72) (x1).toNatClampNeg)).toNatClampNeg), .int ((s.2.1 73) (((s.2.1 72) (x1).toNatClampNeg)).toNatClampNeg), .int ((s.2.1 101) (((s.2.1 58) (((s.2.1 72) (x1).toNatClampNeg)).toNatClampNeg)).toNatClampNeg), .int ((s18.2.1 59) (((s.2.1 72) (x1).toNatClampNeg)).toNatClampNeg), .int ((s18.2.1 101) (((s18.2.1 59) (((s.2.1 72) (x1).toNatClampNeg)).toNatClampNeg)).toNatClampNeg)]) (S' := [.int ((s.2.1 72) (x1).toNatClampNeg), .ref 73, .int ((s24.2.1 102) (((s18.2.1 59) (((s.2.1 72) (x1).toNatClampNeg)).toNatClampNeg)).toNatClampNeg), .int ((s18.2.1 59) (((s.2.1 72) (x1).toNatClampNeg)).toNatClampNeg), .ref 102]) (h' := hpS s24) rfl ?_
              obtain ⟨hin, k⟩ := k
              refine Ex.ial hq rfl rfl hin ?_
              refine Ex.seg hq 1 (j := 188) (L' := [.ref 55, .int x1, .int ((s.2.1 72) (x1).toNatClampNeg), .int ((s.2.1 58) (((s.2.1 72) (x1).toNatClampNeg)).toNatClampNeg), .int ((s.2.1 73) (((s.2.1 72) (x1).toNatClampNeg)).toNatClampNeg), .int ((s.2.1 101) (((s.2.1 58) (((s.2.1 72) (x1).toNatClampNeg)).toNatClampNeg)).toNatClampNeg), .int ((s18.2.1 59) (((s.2.1 72) (x1).toNatClampNeg)).toNatClampNeg), .int ((s18.2.1 101) (((s18.2.1 59) (((s.2.1 72) (x1).toNatClampNeg)).toNatClampNeg)).toNatClampNeg)]) (S' := [.int (((s24.2.1 102) (((s18.2.1 59) (((s.2.1 72) (x1).toNatClampNeg)).toNatClampNeg)).toNatClampNeg) + ((s24.2.1 73) (((s.2.1 72) (x1).toNatClampNeg)).toNatClampNeg)), .int ((s18.2.1 59) (((s.2.1 72) (x1).toNatClampNeg)).toNatClampNeg), .ref 102]) (h' := hpS s24) rfl ?_
              obtain ⟨hin, k⟩ := k
              refine Ex.ias hq rfl rfl hin (h' := hpS (sA s24 102 (upd (s24.2.1 102) (((s18.2.1 59) (((s.2.1 72) (x1).toNatClampNeg)).toNatClampNeg)).toNatClampNeg (((s24.2.1 102) (((s18.2.1 59) (((s.2.1 72) (x1).toNatClampNeg)).toNatClampNeg)).toNatClampNeg) + ((s24.2.1 73) (((s.2.1 72) (x1).toNatClampNeg)).toNatClampNeg))))) (hset_102 _ _) ?_
              refine Ex.seg hq 2 (j := 30) (L' := [.ref 55, .int (x1 + (1 : Int32)), .int ((s.2.1 72) (x1).toNatClampNeg), .int ((s.2.1 58) (((s.2.1 72) (x1).toNatClampNeg)).toNatClampNeg), .int ((s.2.1 73) (((s.2.1 72) (x1).toNatClampNeg)).toNatClampNeg), .int ((s.2.1 101) (((s.2.1 58) (((s.2.1 72) (x1).toNatClampNeg)).toNatClampNeg)).toNatClampNeg), .int ((s18.2.1 59) (((s.2.1 72) (x1).toNatClampNeg)).toNatClampNeg), .int ((s18.2.1 101) (((s18.2.1 59) (((s.2.1 72) (x1).toNatClampNeg)).toNatClampNeg)).toNatClampNeg)]) (S' := []) (h' := hpS (sA s24 102 (upd (s24.2.1 102) (((s18.2.1 59) (((s.2.1 72) (x1).toNatClampNeg)).toNatClampNeg)).toNatClampNeg (((s24.2.1 102) (((s18.2.1 59) (((s.2.1 72) (x1).toNatClampNeg)).toNatClampNeg)).toNatClampNeg) + ((s24.2.1 73) (((s.2.1 72) (x1).toNatClampNeg)).toNatClampNeg))))) rfl ?_
              refine Ex.fg (L := [.ref 55, .int (x1 + (1 : Int32)), pu, pu, pu, pu, pu, pu]) ⟨Or.inl rfl, ⟨Or.inl rfl, ⟨Or.inr ⟨rfl, rfl⟩, ⟨Or.inr ⟨rfl, rfl⟩, ⟨Or.inr ⟨rfl, rfl⟩, ⟨Or.inr ⟨rfl, rfl⟩, ⟨Or.inr ⟨rfl, rfl⟩, ⟨Or.inr ⟨rfl, rfl⟩, trivial⟩⟩⟩⟩⟩⟩⟩⟩ ?_
              exact ih (x1 + (1 : Int32)) (sA s24 102 (upd (s24.2.1 102) (((s18.2.1 59) (((s.2.1 72) (x1).toNatClampNeg)).toNatClampNeg)).toNatClampNeg (((s24.2.1 102) (((s18.2.1 59) (((s.2.1 72) (x1).toNatClampNeg)).toNatClampNeg)).toNatClampNeg) + ((s24.2.1 73) (((s.2.1 72) (x1).toNatClampNeg)).toNatClampNeg)))) k hX191
            · have k := k.2 c
              refine Ex.seg hq 6 (j := 135) (L' := [.ref 55, .int x1, .int ((s.2.1 72) (x1).toNatClampNeg), .int ((s.2.1 58) (((s.2.1 72) (x1).toNatClampNeg)).toNatClampNeg), .int ((s.2.1 73) (((s.2.1 72) (x1).toNatClampNeg)).toNatClampNeg), .int ((s.2.1 101) (((s.2.1 58) (((s.2.1 72) (x1).toNatClampNeg)).toNatClampNeg)).toNatClampNeg), pu, pu]) (S' := [.int ((s.2.1 72) (x1).toNatClampNeg), .ref 73, .int (0 : Int32), .int ((s.2.1 101) (((s.2.1 58) (((s.2.1 72) (x1).toNatClampNeg)).toNatClampNeg)).toNatClampNeg), .ref 55]) (h' := hpS (sA s18 102 (upd (s18.2.1 102) (((s.2.1 58) (((s.2.1 72) (x1).toNatClampNeg)).toNatClampNeg)).toNatClampNeg (((s.2.1 73) (((s.2.1 72) (x1).toNatClampNeg)).toNatClampNeg) - ((s18.2.1 73) (((s.2.1 72) (x1).toNatClampNeg)).toNatClampNeg))))) rfl ?_
              obtain ⟨hin, k⟩ := k
              refine Ex.ial hq rfl rfl hin ?_
              refine Ex.cl hq rfl rfl ?_
              refine Rn.mono (q_246 (d := d + 0) ((s.2.1 101) (((s.2.1 58) (((s.2.1 72) (x1).toNatClampNeg)).toNatClampNeg)).toNatClampNeg) (0 : Int32) ((s18.2.1 73) (((s.2.1 72) (x1).toNatClampNeg)).toNatClampNeg) (sA s18 102 (upd (s18.2.1 102) (((s.2.1 58) (((s.2.1 72) (x1).toNatClampNeg)).toNatClampNeg)).toNatClampNeg (((s.2.1 73) (((s.2.1 72) (x1).toNatClampNeg)).toNatClampNeg) - ((s18.2.1 73) (((s.2.1 72) (x1).toNatClampNeg)).toNatClampNeg)))) k) ?_
              rintro _ _ ⟨s26, rfl, rfl, k⟩
              show Ex sc (d + 1) 248 137 [.ref 55, .int x1, .int ((s.2.1 72) (x1).toNatClampNeg), .int ((s.2.1 58) (((s.2.1 72) (x1).toNatClampNeg)).toNatClampNeg), .int ((s.2.1 73) (((s.2.1 72) (x1).toNatClampNeg)).toNatClampNeg), .int ((s.2.1 101) (((s.2.1 58) (((s.2.1 72) (x1).toNatClampNeg)).toNatClampNeg)).toNatClampNeg), pu, pu] [] (hpS s26) _
              refine Ex.seg hq 3 (j := 30) (L' := [.ref 55, .int (x1 + (1 : Int32)), .int ((s.2.1 72) (x1).toNatClampNeg), .int ((s.2.1 58) (((s.2.1 72) (x1).toNatClampNeg)).toNatClampNeg), .int ((s.2.1 73) (((s.2.1 72) (x1).toNatClampNeg)).toNatClampNeg), .int ((s.2.1 101) (((s.2.1 58) (((s.2.1 72) (x1).toNatClampNeg)).toNatClampNeg)).toNatClampNeg), pu, pu]) (S' := []) (h' := hpS s26) rfl ?_
              refine Ex.fg (L := [.ref 55, .int (x1 + (1 : Int32)), pu, pu, pu, pu, pu, pu]) ⟨Or.inl rfl, ⟨Or.inl rfl, ⟨Or.inr ⟨rfl, rfl⟩, ⟨Or.inr ⟨rfl, rfl⟩, ⟨Or.inr ⟨rfl, rfl⟩, ⟨Or.inr ⟨rfl, rfl⟩, ⟨Or.inl rfl, ⟨Or.inl rfl, trivial⟩⟩⟩⟩⟩⟩⟩⟩ ?_
              exact ih (x1 + (1 : Int32)) s26 k hX191
        · have k := k.2 c
          refine Ex.seg hq 6 (j := 62) (L' := [.ref 55, .int x1, .int ((s.2.1 72) (x1).toNatClampNeg), .int ((s.2.1 58) (((s.2.1 72) (x1).toNatClampNeg)).toNatClampNeg), pu, pu, pu, pu]) (S' := [.int ((s.2.1 58) (((s.2.1 72) (x1).toNatClampNeg)).toNatClampNeg), .ref 102, .int ((s.2.1 58) (((s.2.1 72) (x1).toNatClampNeg)).toNatClampNeg), .ref 102]) (h' := hpS s) rfl ?_
          obtain ⟨hin, k⟩ := k
          refine Ex.ial hq rfl rfl hin ?_
          refine Ex.seg hq 3 (j := 66) (L' := [.ref 55, .int x1, .int ((s.2.1 72) (x1).toNatClampNeg), .int ((s.2.1 58) (((s.2.1 72) (x1).toNatClampNeg)).toNatClampNeg), pu, pu, pu, pu]) (S' := [.int ((s.2.1 72) (x1).toNatClampNeg), .ref 73, .int ((s.2.1 102) (((s.2.1 58) (((s.2.1 72) (x1).toNatClampNeg)).toNatClampNeg)).toNatClampNeg), .int ((s.2.1 58) (((s.2.1 72) (x1).toNatClampNeg)).toNatClampNeg), .ref 102]) (h' := hpS s) rfl ?_
          obtain ⟨hin, k⟩ := k
          refine Ex.ial hq rfl rfl hin ?_
          refine Ex.seg hq 1 (j := 68) (L' := [.ref 55, .int x1, .int ((s.2.1 72) (x1).toNatClampNeg), .int ((s.2.1 58) (((s.2.1 72) (x1).toNatClampNeg)).toNatClampNeg), pu, pu, pu, pu]) (S' := [.int (((s.2.1 102) (((s.2.1 58) (((s.2.1 72) (x1).toNatClampNeg)).toNatClampNeg)).toNatClampNeg) + ((s.2.1 73) (((s.2.1 72) (x1).toNatClampNeg)).toNatClampNeg)), .int ((s.2.1 58) (((s.2.1 72) (x1).toNatClampNeg)).toNatClampNeg), .ref 102]) (h' := hpS s) rfl ?_
          obtain ⟨hin, k⟩ := k
          refine Ex.ias hq rfl rfl hin (h' := hpS (sA s 102 (upd (s.2.1 102) (((s.2.1 58) (((s.2.1 72) (x1).toNatClampNeg)).toNatClampNeg)).toNatClampNeg (((s.2.1 102) (((s.2.1 58) (((s.2.1 72) (x1).toNatClampNeg)).toNatClampNeg)).toNatClampNeg) + ((s.2.1 73) (((s.2.1 72) (x1).toNatClampNeg)).toNatClampNeg))))) (hset_102 _ _) ?_
          refine Ex.seg hq 3 (j := 30) (L' := [.ref 55, .int (x1 + (1 : Int32)), .int ((s.2.1 72) (x1).toNatClampNeg), .int ((s.2.1 58) (((s.2.1 72) (x1).toNatClampNeg)).toNatClampNeg), pu, pu, pu, pu]) (S' := []) (h' := hpS (sA s 102 (upd (s.2.1 102) (((s.2.1 58) (((s.2.1 72) (x1).toNatClampNeg)).toNatClampNeg)).toNatClampNeg (((s.2.1 102) (((s.2.1 58) (((s.2.1 72) (x1).toNatClampNeg)).toNatClampNeg)).toNatClampNeg) + ((s.2.1 73) (((s.2.1 72) (x1).toNatClampNeg)).toNatClampNeg))))) rfl ?_
          refine Ex.fg (L := [.ref 55, .int (x1 + (1 : Int32)), pu, pu, pu, pu, pu, pu]) ⟨Or.inl rfl, ⟨Or.inl rfl, ⟨Or.inr ⟨rfl, rfl⟩, ⟨Or.inr ⟨rfl, rfl⟩, ⟨Or.inl rfl, ⟨Or.inl rfl, ⟨Or.inl rfl, ⟨Or.inl rfl, trivial⟩⟩⟩⟩⟩⟩⟩⟩ ?_
          exact ih (x1 + (1 : Int32)) (sA s 102 (upd (s.2.1 102) (((s.2.1 58) (((s.2.1 72) (x1).toNatClampNeg)).toNatClampNeg)).toNatClampNeg (((s.2.1 102) (((s.2.1 58) (((s.2.1 72) (x1).toNatClampNeg)).toNatClampNeg)).toNatClampNeg) + ((s.2.1 73) (((s.2.1 72) (x1).toNatClampNeg)).toNatClampNeg)))) k hX191
      · have k := k.2 c
        refine Ex.seg hq 3 (j := 30) (L' := [.ref 55, .int (x1 + (1 : Int32)), .int ((s.2.1 72) (x1).toNatClampNeg), .int ((s.2.1 58) (((s.2.1 72) (x1).toNatClampNeg)).toNatClampNeg), pu, pu, pu, pu]) (S' := []) (h' := hpS s) rfl ?_
        refine Ex.fg (L := [.ref 55, .int (x1 + (1 : Int32)), pu, pu, pu, pu, pu, pu]) ⟨Or.inl rfl, ⟨Or.inl rfl, ⟨Or.inr ⟨rfl, rfl⟩, ⟨Or.inr ⟨rfl, rfl⟩, ⟨Or.inl rfl, ⟨Or.inl rfl, ⟨Or.inl rfl, ⟨Or.inl rfl, trivial⟩⟩⟩⟩⟩⟩⟩⟩ ?_
        exact ih (x1 + (1 : Int32)) s k hX191
/-- RowAuditorModel.nets()V -/
def w_248  (s : ST) (K : ST → Prop) : Prop := (∃ m, w_248_L8 m (0 : Int32) (sI (sI s 5557 (1 : Int32)) 5558 (0 : Int32)) (fun s3 => (∃ m, w_248_L30 m (0 : Int32) s3 (fun s28 => K s28) K)) K)
theorem q_248 {d : Nat} {K : ST → Prop}  (s : ST) (k : w_248  s K) : Rn sc (d + 1) 248 [.ref 55] (hpS s) (kV K) := by
  have hq : prog[248]? = some pm248 := rfl
  refine Rn.of (L := [.ref 55, pu, pu, pu, pu, pu, pu, pu]) hq rfl rfl ?_
  unfold w_248 at k
  refine Ex.seg hq 8 (j := 8) (L' := [.ref 55, .int (0 : Int32), pu, pu, pu, pu, pu, pu]) (S' := []) (h' := hpS (sI (sI s 5557 (1 : Int32)) 5558 (0 : Int32))) rfl ?_
  obtain ⟨m, k⟩ := k
  refine q_248_L8 (d := d) m (0 : Int32) (sI (sI s 5557 (1 : Int32)) 5558 (0 : Int32)) k ?_
  · intro s3 k
    refine Ex.seg hq 2 (j := 30) (L' := [.ref 55, .int (0 : Int32), pu, pu, pu, pu, pu, pu]) (S' := []) (h' := hpS s3) rfl ?_
    obtain ⟨m, k⟩ := k
    refine q_248_L30 (d := d) m (0 : Int32) s3 k ?_
    · intro s28 k
      exact Ex.rt hq rfl rfl ⟨s28, rfl, rfl, k⟩
end WP
