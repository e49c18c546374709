/-! ===== weakest preconditions, printed by wip/whole/genwp.py ===== -/
section WP
variable {sc : Nat × (Nat → Int32)}
def w_167_L4 : Nat → Int32 → Int32 → Int32 → Int32 → ST → (Int32 → ST → Prop) → (Int32 → ST → Prop) → Prop
  | 0, _, _, _, _, _, _, _ => False
  | n + 1, x1, x2, x3, x4, s, X31, K => ((x1 ≤ x4 → X31 x3 s) ∧ (¬ (x1 ≤ x4) → (((50 : Int32) ≤ x4 → X31 x3 s) ∧ (¬ ((50 : Int32) ≤ x4) → (pin x4 50 = true ∧ w_56 ((s.2.1 33) (x4).toNatClampNeg) s (fun r2 s1 => ((¬ r2 = x2 → w_167_L4 n x1 x2 x3 (x4 + (1 : Int32)) s1 X31 K) ∧ (¬ (¬ r2 = x2) → (pin x4 50 = true ∧ w_119 ((s1.2.1 33) (x4).toNatClampNeg) s1 (fun r4 s3 => w_167_L4 n x1 x2 (x3 + r4) (x4 + (1 : Int32)) s3 X31 K))))))))))
theorem q_167_L4 {d : Nat} {X31 : Int32 → ST → Prop} {K : Int32 → ST → Prop} : ∀ (n : Nat) (x1 : Int32) (x2 : Int32) (x3 : Int32) (x4 : Int32) (s : ST), w_167_L4 n x1 x2 x3 x4 s X31 K → (∀ (y3 : Int32) (s : ST), X31 y3 s → Ex sc (d + 6) 167 31 [pu, pu, pu, .int y3, pu] [] (hpS s) (kI K)) → Ex sc (d + 6) 167 4 [.ref 0, .int x1, .int x2, .int x3, .int x4] [] (hpS s) (kI K) := by
  have hq : prog[167]? = some pm167 := rfl
  intro n
  induction n with
  | zero =>
    intro x1 x2 x3 x4 s k
    exact k.elim
  | succ n ih =>
    intro x1 x2 x3 x4 s k hX31
    rw [w_167_L4] at k
    refine Ex.seg hq 2 (j := 6) (L' := [.ref 0, .int x1, .int x2, .int x3, .int x4]) (S' := [.int x1, .int x4]) (h' := hpS s) rfl ?_
    refine Ex.i2 hq rfl (fun c => ?_) (fun c => ?_)
    · have k := k.1 c
      refine Ex.fg (L := [pu, pu, pu, .int x3, pu]) ⟨Or.inr ⟨rfl, rfl⟩, ⟨Or.inr ⟨rfl, rfl⟩, ⟨Or.inr ⟨rfl, rfl⟩, ⟨Or.inl rfl, ⟨Or.inr ⟨rfl, rfl⟩, trivial⟩⟩⟩⟩⟩ ?_
      exact hX31 x3 s k
    · have k := k.2 c
      refine Ex.seg hq 2 (j := 9) (L' := [.ref 0, .int x1, .int x2, .int x3, .int x4]) (S' := [.int (50 : Int32), .int x4]) (h' := hpS s) rfl ?_
      refine Ex.i2 hq rfl (fun c => ?_) (fun c => ?_)
      · have k := k.1 c
        refine Ex.fg (L := [pu, pu, pu, .int x3, pu]) ⟨Or.inr ⟨rfl, rfl⟩, ⟨Or.inr ⟨rfl, rfl⟩, ⟨Or.inr ⟨rfl, rfl⟩, ⟨Or.inl rfl, ⟨Or.inr ⟨rfl, rfl⟩, trivial⟩⟩⟩⟩⟩ ?_
        exact hX31 x3 s k
      · have k := k.2 c
        refine Ex.seg hq 5 (j := 15) (L' := [.ref 0, .int x1, .int x2, .int x3, .int x4]) (S' := [.int x4, .ref 33, .ref 19]) (h' := hpS s) rfl ?_
        obtain ⟨hin, k⟩ := k
        refine Ex.ial hq rfl rfl hin ?_
        refine Ex.cl hq rfl rfl ?_
        refine Rn.mono (q_56 (d := d + 0) ((s.2.1 33) (x4).toNatClampNeg) s k) ?_
        rintro _ _ ⟨r2, s1, rfl, hzr2, rfl, k⟩
        show Ex sc (d + 6) 167 17 [.ref 0, .int x1, .int x2, .int x3, .int x4] [.int r2] (hpS s1) _
        refine Ex.seg hq 1 (j := 18) (L' := [.ref 0, .int x1, .int x2, .int x3, .int x4]) (S' := [.int x2, .int r2]) (h' := hpS s1) rfl ?_
        refine Ex.i2 hq rfl (fun c => ?_) (fun c => ?_)
        · have k := k.1 c
          refine Ex.seg hq 2 (j := 4) (L' := [.ref 0, .int x1, .int x2, .int x3, .int (x4 + (1 : Int32))]) (S' := []) (h' := hpS s1) rfl ?_
          exact ih x1 x2 x3 (x4 + (1 : Int32)) s1 k hX31
        · have k := k.2 c
          refine Ex.seg hq 6 (j := 25) (L' := [.ref 0, .int x1, .int x2, .int x3, .int x4]) (S' := [.int x4, .ref 33, .ref 8, .int x3]) (h' := hpS s1) rfl ?_
          obtain ⟨hin, k⟩ := k
          refine Ex.ial hq rfl rfl hin ?_
          refine Ex.cl hq rfl rfl ?_
          refine Rn.mono (q_119 (d := d + 5) ((s1.2.1 33) (x4).toNatClampNeg) s1 k) ?_
          rintro _ _ ⟨r4, s3, rfl, rfl, k⟩
          show Ex sc (d + 6) 167 27 [.ref 0, .int x1, .int x2, .int x3, .int x4] [.int r4, .int x3] (hpS s3) _
          refine Ex.seg hq 4 (j := 4) (L' := [.ref 0, .int x1, .int x2, .int (x3 + r4), .int (x4 + (1 : Int32))]) (S' := []) (h' := hpS s3) rfl ?_
          exact ih x1 x2 (x3 + r4) (x4 + (1 : Int32)) s3 k hX31
/-- RowAuditor.drawnSum(IZ)I -/
def w_167 (p1 : Int32) (p2 : Int32) (s : ST) (K : Int32 → ST → Prop) : Prop := (∃ m, w_167_L4 m p1 p2 (0 : Int32) (0 : Int32) s (fun y3 s5 => K y3 s5) K)
theorem q_167 {d : Nat} {K : Int32 → ST → Prop} (p1 : Int32) (p2 : Int32) (s : ST) (k : w_167 p1 p2 s K) : Rn sc (d + 6) 167 [.ref 0, .int p1, .int p2] (hpS s) (kI K) := by
  have hq : prog[167]? = some pm167 := rfl
  refine Rn.of (L := [.ref 0, .int p1, .int p2, pu, pu]) hq rfl rfl ?_
  unfold w_167 at k
  refine Ex.seg hq 4 (j := 4) (L' := [.ref 0, .int p1, .int p2, .int (0 : Int32), .int (0 : Int32)]) (S' := []) (h' := hpS s) rfl ?_
  obtain ⟨m, k⟩ := k
  refine q_167_L4 (d := d) m p1 p2 (0 : Int32) (0 : Int32) s k ?_
  · intro y3 s5 k
    refine Ex.seg hq 1 (j := 32) (L' := [pu, pu, pu, .int y3, pu]) (S' := [.int y3]) (h' := hpS s5) rfl ?_
    exact Ex.rt hq rfl rfl ⟨y3, s5, rfl, rfl, k⟩
/-- RowAuditor.sample(III)I -/
def w_164 (p1 : Int32) (p2 : Int32) (p3 : Int32) (s : ST) (K : Int32 → ST → Prop) : Prop := w_181 p1 (1 : Int32) (50 : Int32) s (fun r2 s1 => ((r2 = 0 → K (-1 : Int32) s1) ∧ (¬ (r2 = 0) → w_181 p2 (0 : Int32) (65535 : Int32) s1 (fun r4 s3 => ((r4 = 0 → K (-1 : Int32) s3) ∧ (¬ (r4 = 0) → ((0 ≤ p3 → w_111 (s3.1 100) s3 (fun s5 => ((¬ (s5.1 801) = 0 → w_165 p1 p2 s5 (fun r8 s7 => (((p3).toInt < 0 ∨ 2 < (p3).toInt → w_181 (p3 - (10 : Int32)) (0 : Int32) (r8 - (1 : Int32)) s7 (fun r10 s9 => ((r10 = 0 → K (-1 : Int32) s9) ∧ (¬ (r10 = 0) → (pin (p3 - (10 : Int32)) 50 = true ∧ K ((s9.2.1 33) ((p3 - (10 : Int32))).toNatClampNeg) s9))))) ∧ (p3 = (0 : Int32) → K r8 s7) ∧ (p3 = (1 : Int32) → w_167 r8 (1 : Int32) s7 (fun r12 s11 => K r12 s11)) ∧ (p3 = (2 : Int32) → w_124 s7 (fun r14 s13 => w_167 r8 (0 : Int32) s13 (fun r16 s15 => K (r14 - r16) s15)))))) ∧ (¬ (¬ (s5.1 801) = 0) → K (-1 : Int32) s5)))) ∧ (¬ (0 ≤ p3) → K (-1 : Int32) s3))))))))
theorem q_164 {d : Nat} {K : Int32 → ST → Prop} (p1 : Int32) (p2 : Int32) (p3 : Int32) (s : ST) (k : w_164 p1 p2 p3 s K) : Rn sc (d + 7) 164 [.ref 0, .int p1, .int p2, .int p3] (hpS s) (kI K) := by
  have hq : prog[164]? = some pm164 := rfl
  refine Rn.of (L := [.ref 0, .int p1, .int p2, .int p3, pu]) hq rfl rfl ?_
  unfold w_164 at k
  refine Ex.seg hq 3 (j := 3) (L' := [.ref 0, .int p1, .int p2, .int p3, pu]) (S' := [.int (50 : Int32), .int (1 : Int32), .int p1]) (h' := hpS s) rfl ?_
  refine Ex.cl hq rfl rfl ?_
  refine Rn.mono (q_181 (d := d + 6) p1 (1 : Int32) (50 : Int32) s k) ?_
  rintro _ _ ⟨r2, s1, rfl, hzr2, rfl, k⟩
  show Ex sc (d + 7) 164 4 [.ref 0, .int p1, .int p2, .int p3, pu] [.int r2] (hpS s1) _
  refine Ex.i1 hq rfl (fun c => ?_) (fun c => ?_)
  · have k := k.1 c
    refine Ex.seg hq 1 (j := 13) (L' := [.ref 0, .int p1, .int p2, .int p3, pu]) (S' := [.int (-1 : Int32)]) (h' := hpS s1) rfl ?_
    exact Ex.rt hq rfl rfl ⟨(-1 : Int32), s1, rfl, rfl, k⟩
  · have k := k.2 c
    refine Ex.seg hq 3 (j := 8) (L' := [.ref 0, .int p1, .int p2, .int p3, pu]) (S' := [.int (65535 : Int32), .int (0 : Int32), .int p2]) (h' := hpS s1) rfl ?_
    refine Ex.cl hq rfl rfl ?_
    refine Rn.mono (q_181 (d := d + 6) p2 (0 : Int32) (65535 : Int32) s1 k) ?_
    rintro _ _ ⟨r4, s3, rfl, hzr4, rfl, k⟩
    show Ex sc (d + 7) 164 9 [.ref 0, .int p1, .int p2, .int p3, pu] [.int r4] (hpS s3) _
    refine Ex.i1 hq rfl (fun c => ?_) (fun c => ?_)
    · have k := k.1 c
      refine Ex.seg hq 1 (j := 13) (L' := [.ref 0, .int p1, .int p2, .int p3, pu]) (S' := [.int (-1 : Int32)]) (h' := hpS s3) rfl ?_
      exact Ex.rt hq rfl rfl ⟨(-1 : Int32), s3, rfl, rfl, k⟩
    · have k := k.2 c
      refine Ex.seg hq 1 (j := 11) (L' := [.ref 0, .int p1, .int p2, .int p3, pu]) (S' := [.int p3]) (h' := hpS s3) rfl ?_
      refine Ex.i1 hq rfl (fun c => ?_) (fun c => ?_)
      · have k := k.1 c
        refine Ex.seg hq 5 (j := 19) (L' := [.ref 0, .int p1, .int p2, .int p3, pu]) (S' := [.int (s3.1 100), .ref 8]) (h' := hpS s3) rfl ?_
        refine Ex.cl hq rfl rfl ?_
        refine Rn.mono (q_111 (d := d + 2) (s3.1 100) s3 k) ?_
        rintro _ _ ⟨s5, rfl, rfl, k⟩
        show Ex sc (d + 7) 164 20 [.ref 0, .int p1, .int p2, .int p3, pu] [] (hpS s5) _
        refine Ex.seg hq 3 (j := 23) (L' := [.ref 0, .int p1, .int p2, .int p3, pu]) (S' := [.int (s5.1 801)]) (h' := hpS s5) rfl ?_
        refine Ex.i1 hq rfl (fun c => ?_) (fun c => ?_)
        · have k := k.1 c
          refine Ex.seg hq 3 (j := 29) (L' := [.ref 0, .int p1, .int p2, .int p3, pu]) (S' := [.int p2, .int p1, .ref 0]) (h' := hpS s5) rfl ?_
          refine Ex.cl hq rfl rfl ?_
          refine Rn.mono (q_165 (d := d + 4) p1 p2 s5 k) ?_
          rintro _ _ ⟨r8, s7, rfl, rfl, k⟩
          show Ex sc (d + 7) 164 30 [.ref 0, .int p1, .int p2, .int p3, pu] [.int r8] (hpS s7) _
          refine Ex.seg hq 2 (j := 32) (L' := [.ref 0, .int p1, .int p2, .int p3, .int r8]) (S' := [.int p3]) (h' := hpS s7) rfl ?_
          refine Ex.tsw hq rfl (fun c => ?_) (fun t c ht => ?_) (by decide)
          · have k := k.1 c
            refine Ex.seg hq 7 (j := 56) (L' := [.ref 0, .int p1, .int p2, .int p3, .int r8]) (S' := [.int (r8 - (1 : Int32)), .int (0 : Int32), .int (p3 - (10 : Int32))]) (h' := hpS s7) rfl ?_
            refine Ex.cl hq rfl rfl ?_
            refine Rn.mono (q_181 (d := d + 6) (p3 - (10 : Int32)) (0 : Int32) (r8 - (1 : Int32)) s7 k) ?_
            rintro _ _ ⟨r10, s9, rfl, hzr10, rfl, k⟩
            show Ex sc (d + 7) 164 57 [.ref 0, .int p1, .int p2, .int p3, .int r8] [.int r10] (hpS s9) _
            refine Ex.i1 hq rfl (fun c => ?_) (fun c => ?_)
            · have k := k.1 c
              refine Ex.seg hq 1 (j := 66) (L' := [.ref 0, .int p1, .int p2, .int p3, .int r8]) (S' := [.int (-1 : Int32)]) (h' := hpS s9) rfl ?_
              exact Ex.rt hq rfl rfl ⟨(-1 : Int32), s9, rfl, rfl, k⟩
            · have k := k.2 c
              refine Ex.seg hq 5 (j := 63) (L' := [.ref 0, .int p1, .int p2, .int p3, .int r8]) (S' := [.int (p3 - (10 : Int32)), .ref 33]) (h' := hpS s9) rfl ?_
              obtain ⟨hin, k⟩ := k
              refine Ex.ial hq rfl rfl hin ?_
              refine Ex.seg hq 1 (j := 66) (L' := [.ref 0, .int p1, .int p2, .int p3, .int r8]) (S' := [.int ((s9.2.1 33) ((p3 - (10 : Int32))).toNatClampNeg)]) (h' := hpS s9) rfl ?_
              exact Ex.rt hq rfl rfl ⟨((s9.2.1 33) ((p3 - (10 : Int32))).toNatClampNeg), s9, rfl, rfl, k⟩
          · have k := k.2
            rcases (show (p3).toInt = 0 ∨ (p3).toInt = 1 ∨ (p3).toInt = 2 by omega) with e | e | e
            · have cx : p3 = (0 : Int32) := Int32.toInt_inj.mp (by rw [e]; rfl)
              have k := k.1 cx
              rw [e] at ht
              have ht : (some 33 : Option Nat) = some t := ht
              cases ht
              refine Ex.seg hq 1 (j := 34) (L' := [.ref 0, .int p1, .int p2, .int p3, .int r8]) (S' := [.int r8]) (h' := hpS s7) rfl ?_
              exact Ex.rt hq rfl rfl ⟨r8, s7, rfl, rfl, k⟩
            · have cx : p3 = (1 : Int32) := Int32.toInt_inj.mp (by rw [e]; rfl)
              have k := k.2.1 cx
              rw [e] at ht
              have ht : (some 35 : Option Nat) = some t := ht
              cases ht
              refine Ex.seg hq 3 (j := 38) (L' := [.ref 0, .int p1, .int p2, .int p3, .int r8]) (S' := [.int (1 : Int32), .int r8, .ref 0]) (h' := hpS s7) rfl ?_
              refine Ex.cl hq rfl rfl ?_
              refine Rn.mono (q_167 (d := d + 0) r8 (1 : Int32) s7 k) ?_
              rintro _ _ ⟨r12, s11, rfl, rfl, k⟩
              show Ex sc (d + 7) 164 39 [.ref 0, .int p1, .int p2, .int p3, .int r8] [.int r12] (hpS s11) _
              exact Ex.rt hq rfl rfl ⟨r12, s11, rfl, rfl, k⟩
            · have cx : p3 = (2 : Int32) := Int32.toInt_inj.mp (by rw [e]; rfl)
              have k := k.2.2 cx
              rw [e] at ht
              have ht : (some 40 : Option Nat) = some t := ht
              cases ht
              refine Ex.seg hq 2 (j := 42) (L' := [.ref 0, .int p1, .int p2, .int p3, .int r8]) (S' := [.ref 8]) (h' := hpS s7) rfl ?_
              refine Ex.cl hq rfl rfl ?_
              refine Rn.mono (q_124 (d := d + 5) s7 k) ?_
              rintro _ _ ⟨r14, s13, rfl, rfl, k⟩
              show Ex sc (d + 7) 164 43 [.ref 0, .int p1, .int p2, .int p3, .int r8] [.int r14] (hpS s13) _
              refine Ex.seg hq 3 (j := 46) (L' := [.ref 0, .int p1, .int p2, .int p3, .int r8]) (S' := [.int (0 : Int32), .int r8, .ref 0, .int r14]) (h' := hpS s13) rfl ?_
              refine Ex.cl hq rfl rfl ?_
              refine Rn.mono (q_167 (d := d + 0) r8 (0 : Int32) s13 k) ?_
              rintro _ _ ⟨r16, s15, rfl, rfl, k⟩
              show Ex sc (d + 7) 164 47 [.ref 0, .int p1, .int p2, .int p3, .int r8] [.int r16, .int r14] (hpS s15) _
              refine Ex.seg hq 1 (j := 48) (L' := [.ref 0, .int p1, .int p2, .int p3, .int r8]) (S' := [.int (r14 - r16)]) (h' := hpS s15) rfl ?_
              exact Ex.rt hq rfl rfl ⟨(r14 - r16), s15, rfl, rfl, k⟩
        · have k := k.2 c
          refine Ex.seg hq 1 (j := 25) (L' := [.ref 0, .int p1, .int p2, .int p3, pu]) (S' := [.int (-1 : Int32)]) (h' := hpS s5) rfl ?_
          exact Ex.rt hq rfl rfl ⟨(-1 : Int32), s5, rfl, rfl, k⟩
      · have k := k.2 c
        refine Ex.seg hq 1 (j := 13) (L' := [.ref 0, .int p1, .int p2, .int p3, pu]) (S' := [.int (-1 : Int32)]) (h' := hpS s3) rfl ?_
        exact Ex.rt hq rfl rfl ⟨(-1 : Int32), s3, rfl, rfl, k⟩
/-- RowAuditor.ask(III)I -/
def w_168 (p1 : Int32) (p2 : Int32) (p3 : Int32) (s : ST) (K : Int32 → ST → Prop) : Prop := w_183 p1 s (fun r2 s1 => ((r2 = 0 → K (-1 : Int32) s1) ∧ (¬ (r2 = 0) → w_2 p2 s1 (fun r4 s3 => ((r4 = 0 → K (-1 : Int32) s3) ∧ (¬ (r4 = 0) → w_181 p3 ((s3.1 100) + (1 : Int32)) (3999 : Int32) s3 (fun r6 s5 => ((r6 = 0 → K (-1 : Int32) s5) ∧ (¬ (r6 = 0) → (((s5.1 13) < (60 : Int32) → (pin (s5.1 13) 60 = true ∧ (pin (s5.1 13) 60 = true ∧ (pin (s5.1 13) 60 = true ∧ K (((s5.1 13) + (1 : Int32)) - (1 : Int32)) (sA (sA (sA (sI s5 13 ((s5.1 13) + (1 : Int32))) 30 (upd (s5.2.1 30) ((s5.1 13)).toNatClampNeg p2)) 31 (upd (s5.2.1 31) ((s5.1 13)).toNatClampNeg p3)) 32 (upd (s5.2.1 32) ((s5.1 13)).toNatClampNeg (-1 : Int32))))))) ∧ (¬ ((s5.1 13) < (60 : Int32)) → K (-1 : Int32) s5)))))))))))
theorem q_168 {d : Nat} {K : Int32 → ST → Prop} (p1 : Int32) (p2 : Int32) (p3 : Int32) (s : ST) (k : w_168 p1 p2 p3 s K) : Rn sc (d + 2) 168 [.ref 0, .int p1, .int p2, .int p3] (hpS s) (kI K) := by
  have hq : prog[168]? = some pm168 := rfl
  refine Rn.of (L := [.ref 0, .int p1, .int p2, .int p3]) hq rfl rfl ?_
  unfold w_168 at k
  refine Ex.seg hq 1 (j := 1) (L' := [.ref 0, .int p1, .int p2, .int p3]) (S' := [.int p1]) (h' := hpS s) rfl ?_
  refine Ex.cl hq rfl rfl ?_
  refine Rn.mono (q_183 (d := d + 0) p1 s k) ?_
  rintro _ _ ⟨r2, s1, rfl, hzr2, rfl, k⟩
  show Ex sc (d + 2) 168 2 [.ref 0, .int p1, .int p2, .int p3] [.int r2] (hpS s1) _
  refine Ex.i1 hq rfl (fun c => ?_) (fun c => ?_)
  · have k := k.1 c
    refine Ex.seg hq 1 (j := 22) (L' := [.ref 0, .int p1, .int p2, .int p3]) (S' := [.int (-1 : Int32)]) (h' := hpS s1) rfl ?_
    exact Ex.rt hq rfl rfl ⟨(-1 : Int32), s1, rfl, rfl, k⟩
  · have k := k.2 c
    refine Ex.seg hq 3 (j := 6) (L' := [.ref 0, .int p1, .int p2, .int p3]) (S' := [.int p2, .ref 1]) (h' := hpS s1) rfl ?_
    refine Ex.cl hq rfl rfl ?_
    refine Rn.mono (q_2 (d := d + 1) p2 s1 k) ?_
    rintro _ _ ⟨r4, s3, rfl, hzr4, rfl, k⟩
    show Ex sc (d + 2) 168 7 [.ref 0, .int p1, .int p2, .int p3] [.int r4] (hpS s3) _
    refine Ex.i1 hq rfl (fun c => ?_) (fun c => ?_)
    · have k := k.1 c
      refine Ex.seg hq 1 (j := 22) (L' := [.ref 0, .int p1, .int p2, .int p3]) (S' := [.int (-1 : Int32)]) (h' := hpS s3) rfl ?_
      exact Ex.rt hq rfl rfl ⟨(-1 : Int32), s3, rfl, rfl, k⟩
    · have k := k.2 c
      refine Ex.seg hq 7 (j := 15) (L' := [.ref 0, .int p1, .int p2, .int p3]) (S' := [.int (3999 : Int32), .int ((s3.1 100) + (1 : Int32)), .int p3]) (h' := hpS s3) rfl ?_
      refine Ex.cl hq rfl rfl ?_
      refine Rn.mono (q_181 (d := d + 1) p3 ((s3.1 100) + (1 : Int32)) (3999 : Int32) s3 k) ?_
      rintro _ _ ⟨r6, s5, rfl, hzr6, rfl, k⟩
      show Ex sc (d + 2) 168 16 [.ref 0, .int p1, .int p2, .int p3] [.int r6] (hpS s5) _
      refine Ex.i1 hq rfl (fun c => ?_) (fun c => ?_)
      · have k := k.1 c
        refine Ex.seg hq 1 (j := 22) (L' := [.ref 0, .int p1, .int p2, .int p3]) (S' := [.int (-1 : Int32)]) (h' := hpS s5) rfl ?_
        exact Ex.rt hq rfl rfl ⟨(-1 : Int32), s5, rfl, rfl, k⟩
      · have k := k.2 c
        refine Ex.seg hq 3 (j := 20) (L' := [.ref 0, .int p1, .int p2, .int p3]) (S' := [.int (60 : Int32), .int (s5.1 13)]) (h' := hpS s5) rfl ?_
        refine Ex.i2 hq rfl (fun c => ?_) (fun c => ?_)
        · have k := k.1 c
          refine Ex.seg hq 5 (j := 28) (L' := [.ref 0, .int p1, .int p2, .int p3]) (S' := [.int p2, .int (s5.1 13), .ref 30]) (h' := hpS s5) rfl ?_
          obtain ⟨hin, k⟩ := k
          refine Ex.ias hq rfl rfl hin (h' := hpS (sA s5 30 (upd (s5.2.1 30) ((s5.1 13)).toNatClampNeg p2))) (hset_30 _ _) ?_
          refine Ex.seg hq 5 (j := 34) (L' := [.ref 0, .int p1, .int p2, .int p3]) (S' := [.int p3, .int (s5.1 13), .ref 31]) (h' := hpS (sA s5 30 (upd (s5.2.1 30) ((s5.1 13)).toNatClampNeg p2))) rfl ?_
          obtain ⟨hin, k⟩ := k
          refine Ex.ias hq rfl rfl hin (h' := hpS (sA (sA s5 30 (upd (s5.2.1 30) ((s5.1 13)).toNatClampNeg p2)) 31 (upd (s5.2.1 31) ((s5.1 13)).toNatClampNeg p3))) (hset_31 _ _) ?_
          refine Ex.seg hq 5 (j := 40) (L' := [.ref 0, .int p1, .int p2, .int p3]) (S' := [.int (-1 : Int32), .int (s5.1 13), .ref 32]) (h' := hpS (sA (sA s5 30 (upd (s5.2.1 30) ((s5.1 13)).toNatClampNeg p2)) 31 (upd (s5.2.1 31) ((s5.1 13)).toNatClampNeg p3))) rfl ?_
          obtain ⟨hin, k⟩ := k
          refine Ex.ias hq rfl rfl hin (h' := hpS (sA (sA (sA s5 30 (upd (s5.2.1 30) ((s5.1 13)).toNatClampNeg p2)) 31 (upd (s5.2.1 31) ((s5.1 13)).toNatClampNeg p3)) 32 (upd (s5.2.1 32) ((s5.1 13)).toNatClampNeg (-1 : Int32)))) (hset_32 _ _) ?_
          refine Ex.seg hq 10 (j := 51) (L' := [.ref 0, .int p1, .int p2, .int p3]) (S' := [.int (((s5.1 13) + (1 : Int32)) - (1 : Int32))]) (h' := hpS (sA (sA (sA (sI s5 13 ((s5.1 13) + (1 : Int32))) 30 (upd (s5.2.1 30) ((s5.1 13)).toNatClampNeg p2)) 31 (upd (s5.2.1 31) ((s5.1 13)).toNatClampNeg p3)) 32 (upd (s5.2.1 32) ((s5.1 13)).toNatClampNeg (-1 : Int32)))) rfl ?_
          exact Ex.rt hq rfl rfl ⟨(((s5.1 13) + (1 : Int32)) - (1 : Int32)), (sA (sA (sA (sI s5 13 ((s5.1 13) + (1 : Int32))) 30 (upd (s5.2.1 30) ((s5.1 13)).toNatClampNeg p2)) 31 (upd (s5.2.1 31) ((s5.1 13)).toNatClampNeg p3)) 32 (upd (s5.2.1 32) ((s5.1 13)).toNatClampNeg (-1 : Int32))), rfl, rfl, k⟩
        · have k := k.2 c
          refine Ex.seg hq 1 (j := 22) (L' := [.ref 0, .int p1, .int p2, .int p3]) (S' := [.int (-1 : Int32)]) (h' := hpS s5) rfl ?_
          exact Ex.rt hq rfl rfl ⟨(-1 : Int32), s5, rfl, rfl, k⟩
/-- RowAuditor.isAsking(I)Z -/
def w_171 (p1 : Int32) (s : ST) (K : Int32 → ST → Prop) : Prop := w_181 p1 (0 : Int32) ((s.1 13) - (1 : Int32)) s (fun r2 s1 => ((r2 = 0 → K (0 : Int32) s1) ∧ (¬ (r2 = 0) → (((60 : Int32) ≤ p1 → K (0 : Int32) s1) ∧ (¬ ((60 : Int32) ≤ p1) → K (1 : Int32) s1)))))
theorem q_171 {d : Nat} {K : Int32 → ST → Prop} (p1 : Int32) (s : ST) (k : w_171 p1 s K) : Rn sc (d + 1) 171 [.ref 0, .int p1] (hpS s) (kZ K) := by
  have hq : prog[171]? = some pm171 := rfl
  refine Rn.of (L := [.ref 0, .int p1]) hq rfl rfl ?_
  unfold w_171 at k
  refine Ex.seg hq 6 (j := 6) (L' := [.ref 0, .int p1]) (S' := [.int ((s.1 13) - (1 : Int32)), .int (0 : Int32), .int p1]) (h' := hpS s) rfl ?_
  refine Ex.cl hq rfl rfl ?_
  refine Rn.mono (q_181 (d := d + 0) p1 (0 : Int32) ((s.1 13) - (1 : Int32)) s k) ?_
  rintro _ _ ⟨r2, s1, rfl, hzr2, rfl, k⟩
  show Ex sc (d + 1) 171 7 [.ref 0, .int p1] [.int r2] (hpS s1) _
  refine Ex.i1 hq rfl (fun c => ?_) (fun c => ?_)
  · have k := k.1 c
    refine Ex.seg hq 1 (j := 14) (L' := [.ref 0, .int p1]) (S' := [.int (0 : Int32)]) (h' := hpS s1) rfl ?_
    exact Ex.zr hq rfl rfl (Or.inl rfl) ⟨(0 : Int32), s1, rfl, (Or.inl rfl), rfl, k⟩
  · have k := k.2 c
    refine Ex.seg hq 2 (j := 10) (L' := [.ref 0, .int p1]) (S' := [.int (60 : Int32), .int p1]) (h' := hpS s1) rfl ?_
    refine Ex.i2 hq rfl (fun c => ?_) (fun c => ?_)
    · have k := k.1 c
      refine Ex.seg hq 1 (j := 14) (L' := [.ref 0, .int p1]) (S' := [.int (0 : Int32)]) (h' := hpS s1) rfl ?_
      exact Ex.zr hq rfl rfl (Or.inl rfl) ⟨(0 : Int32), s1, rfl, (Or.inl rfl), rfl, k⟩
    · have k := k.2 c
      refine Ex.seg hq 2 (j := 14) (L' := [.ref 0, .int p1]) (S' := [.int (1 : Int32)]) (h' := hpS s1) rfl ?_
      exact Ex.zr hq rfl rfl (Or.inr rfl) ⟨(1 : Int32), s1, rfl, (Or.inr rfl), rfl, k⟩
/-- RowAuditor.answer(II)Z -/
def w_169 (p1 : Int32) (p2 : Int32) (s : ST) (K : Int32 → ST → Prop) : Prop := w_171 p1 s (fun r2 s1 => ((r2 = 0 → K (0 : Int32) s1) ∧ (¬ (r2 = 0) → w_181 p2 (0 : Int32) (1000000 : Int32) s1 (fun r4 s3 => ((r4 = 0 → K (0 : Int32) s3) ∧ (¬ (r4 = 0) → (pin p1 60 = true ∧ ((((s3.2.1 32) (p1).toNatClampNeg) = (-1 : Int32) → (pin p1 60 = true ∧ K (1 : Int32) (sA s3 32 (upd (s3.2.1 32) (p1).toNatClampNeg p2)))) ∧ (¬ (((s3.2.1 32) (p1).toNatClampNeg) = (-1 : Int32)) → K (0 : Int32) s3)))))))))
theorem q_169 {d : Nat} {K : Int32 → ST → Prop} (p1 : Int32) (p2 : Int32) (s : ST) (k : w_169 p1 p2 s K) : Rn sc (d + 2) 169 [.ref 0, .int p1, .int p2] (hpS s) (kZ K) := by
  have hq : prog[169]? = some pm169 := rfl
  refine Rn.of (L := [.ref 0, .int p1, .int p2]) hq rfl rfl ?_
  unfold w_169 at k
  refine Ex.seg hq 2 (j := 2) (L' := [.ref 0, .int p1, .int p2]) (S' := [.int p1, .ref 0]) (h' := hpS s) rfl ?_
  refine Ex.cl hq rfl rfl ?_
  refine Rn.mono (q_171 (d := d + 0) p1 s k) ?_
  rintro _ _ ⟨r2, s1, rfl, hzr2, rfl, k⟩
  show Ex sc (d + 2) 169 3 [.ref 0, .int p1, .int p2] [.int r2] (hpS s1) _
  refine Ex.i1 hq rfl (fun c => ?_) (fun c => ?_)
  · have k := k.1 c
    refine Ex.seg hq 1 (j := 16) (L' := [.ref 0, .int p1, .int p2]) (S' := [.int (0 : Int32)]) (h' := hpS s1) rfl ?_
    exact Ex.zr hq rfl rfl (Or.inl rfl) ⟨(0 : Int32), s1, rfl, (Or.inl rfl), rfl, k⟩
  · have k := k.2 c
    refine Ex.seg hq 3 (j := 7) (L' := [.ref 0, .int p1, .int p2]) (S' := [.int (1000000 : Int32), .int (0 : Int32), .int p2]) (h' := hpS s1) rfl ?_
    refine Ex.cl hq rfl rfl ?_
    refine Rn.mono (q_181 (d := d + 1) p2 (0 : Int32) (1000000 : Int32) s1 k) ?_
    rintro _ _ ⟨r4, s3, rfl, hzr4, rfl, k⟩
    show Ex sc (d + 2) 169 8 [.ref 0, .int p1, .int p2] [.int r4] (hpS s3) _
    refine Ex.i1 hq rfl (fun c => ?_) (fun c => ?_)
    · have k := k.1 c
      refine Ex.seg hq 1 (j := 16) (L' := [.ref 0, .int p1, .int p2]) (S' := [.int (0 : Int32)]) (h' := hpS s3) rfl ?_
      exact Ex.zr hq rfl rfl (Or.inl rfl) ⟨(0 : Int32), s3, rfl, (Or.inl rfl), rfl, k⟩
    · have k := k.2 c
      refine Ex.seg hq 3 (j := 12) (L' := [.ref 0, .int p1, .int p2]) (S' := [.int p1, .ref 32]) (h' := hpS s3) rfl ?_
      obtain ⟨hin, k⟩ := k
      refine Ex.ial hq rfl rfl hin ?_
      refine Ex.seg hq 1 (j := 14) (L' := [.ref 0, .int p1, .int p2]) (S' := [.int (-1 : Int32), .int ((s3.2.1 32) (p1).toNatClampNeg)]) (h' := hpS s3) rfl ?_
      refine Ex.i2 hq rfl (fun c => ?_) (fun c => ?_)
      · have k := k.1 c
        refine Ex.seg hq 4 (j := 21) (L' := [.ref 0, .int p1, .int p2]) (S' := [.int p2, .int p1, .ref 32]) (h' := hpS s3) rfl ?_
        obtain ⟨hin, k⟩ := k
        refine Ex.ias hq rfl rfl hin (h' := hpS (sA s3 32 (upd (s3.2.1 32) (p1).toNatClampNeg p2))) (hset_32 _ _) ?_
        refine Ex.seg hq 1 (j := 23) (L' := [.ref 0, .int p1, .int p2]) (S' := [.int (1 : Int32)]) (h' := hpS (sA s3 32 (upd (s3.2.1 32) (p1).toNatClampNeg p2))) rfl ?_
        exact Ex.zr hq rfl rfl (Or.inr rfl) ⟨(1 : Int32), (sA s3 32 (upd (s3.2.1 32) (p1).toNatClampNeg p2)), rfl, (Or.inr rfl), rfl, k⟩
      · have k := k.2 c
        refine Ex.seg hq 1 (j := 16) (L' := [.ref 0, .int p1, .int p2]) (S' := [.int (0 : Int32)]) (h' := hpS s3) rfl ?_
        exact Ex.zr hq rfl rfl (Or.inl rfl) ⟨(0 : Int32), s3, rfl, (Or.inl rfl), rfl, k⟩
/-- RowAuditor.asked(I)I -/
def w_170 (p1 : Int32) (s : ST) (K : Int32 → ST → Prop) : Prop := w_171 p1 s (fun r2 s1 => ((¬ r2 = 0 → (pin p1 60 = true ∧ ((¬ ((s1.2.1 32) (p1).toNatClampNeg) = (-1 : Int32) → w_111 (s1.1 100) s1 (fun s3 => (pin p1 60 = true ∧ w_118 ((s3.2.1 30) (p1).toNatClampNeg) s3 (fun r6 s5 => ((r6 = 0 → K (2 : Int32) s5) ∧ (¬ (r6 = 0) → (pin p1 60 = true ∧ w_119 ((s5.2.1 30) (p1).toNatClampNeg) s5 (fun r8 s7 => (pin p1 60 = true ∧ ((¬ r8 = ((s7.2.1 32) (p1).toNatClampNeg) → K (2 : Int32) s7) ∧ (¬ (¬ r8 = ((s7.2.1 32) (p1).toNatClampNeg)) → K (3 : Int32) s7))))))))))) ∧ (¬ (¬ ((s1.2.1 32) (p1).toNatClampNeg) = (-1 : Int32)) → (pin p1 60 = true ∧ (((s1.1 100) ≤ ((s1.2.1 31) (p1).toNatClampNeg) → K (0 : Int32) s1) ∧ (¬ ((s1.1 100) ≤ ((s1.2.1 31) (p1).toNatClampNeg)) → K (1 : Int32) s1))))))) ∧ (¬ (¬ r2 = 0) → K (-1 : Int32) s1)))
theorem q_170 {d : Nat} {K : Int32 → ST → Prop} (p1 : Int32) (s : ST) (k : w_170 p1 s K) : Rn sc (d + 5) 170 [.ref 0, .int p1] (hpS s) (kI K) := by
  have hq : prog[170]? = some pm170 := rfl
  refine Rn.of (L := [.ref 0, .int p1]) hq rfl rfl ?_
  unfold w_170 at k
  refine Ex.seg hq 2 (j := 2) (L' := [.ref 0, .int p1]) (S' := [.int p1, .ref 0]) (h' := hpS s) rfl ?_
  refine Ex.cl hq rfl rfl ?_
  refine Rn.mono (q_171 (d := d + 3) p1 s k) ?_
  rintro _ _ ⟨r2, s1, rfl, hzr2, rfl, k⟩
  show Ex sc (d + 5) 170 3 [.ref 0, .int p1] [.int r2] (hpS s1) _
  refine Ex.i1 hq rfl (fun c => ?_) (fun c => ?_)
  · have k := k.1 c
    refine Ex.seg hq 3 (j := 9) (L' := [.ref 0, .int p1]) (S' := [.int p1, .ref 32]) (h' := hpS s1) rfl ?_
    obtain ⟨hin, k⟩ := k
    refine Ex.ial hq rfl rfl hin ?_
    refine Ex.seg hq 1 (j := 11) (L' := [.ref 0, .int p1]) (S' := [.int (-1 : Int32), .int ((s1.2.1 32) (p1).toNatClampNeg)]) (h' := hpS s1) rfl ?_
    refine Ex.i2 hq rfl (fun c => ?_) (fun c => ?_)
    · have k := k.1 c
      refine Ex.seg hq 5 (j := 29) (L' := [.ref 0, .int p1]) (S' := [.int (s1.1 100), .ref 8]) (h' := hpS s1) rfl ?_
      refine Ex.cl hq rfl rfl ?_
      refine Rn.mono (q_111 (d := d + 0) (s1.1 100) s1 k) ?_
      rintro _ _ ⟨s3, rfl, rfl, k⟩
      show Ex sc (d + 5) 170 30 [.ref 0, .int p1] [] (hpS s3) _
      refine Ex.seg hq 5 (j := 35) (L' := [.ref 0, .int p1]) (S' := [.int p1, .ref 30, .ref 8]) (h' := hpS s3) rfl ?_
      obtain ⟨hin, k⟩ := k
      refine Ex.ial hq rfl rfl hin ?_
      refine Ex.cl hq rfl rfl ?_
      refine Rn.mono (q_118 (d := d + 4) ((s3.2.1 30) (p1).toNatClampNeg) s3 k) ?_
      rintro _ _ ⟨r6, s5, rfl, hzr6, rfl, k⟩
      show Ex sc (d + 5) 170 37 [.ref 0, .int p1] [.int r6] (hpS s5) _
      refine Ex.i1 hq rfl (fun c => ?_) (fun c => ?_)
      · have k := k.1 c
        refine Ex.seg hq 1 (j := 53) (L' := [.ref 0, .int p1]) (S' := [.int (2 : Int32)]) (h' := hpS s5) rfl ?_
        exact Ex.rt hq rfl rfl ⟨(2 : Int32), s5, rfl, rfl, k⟩
      · have k := k.2 c
        refine Ex.seg hq 5 (j := 43) (L' := [.ref 0, .int p1]) (S' := [.int p1, .ref 30, .ref 8]) (h' := hpS s5) rfl ?_
        obtain ⟨hin, k⟩ := k
        refine Ex.ial hq rfl rfl hin ?_
        refine Ex.cl hq rfl rfl ?_
        refine Rn.mono (q_119 (d := d + 4) ((s5.2.1 30) (p1).toNatClampNeg) s5 k) ?_
        rintro _ _ ⟨r8, s7, rfl, rfl, k⟩
        show Ex sc (d + 5) 170 45 [.ref 0, .int p1] [.int r8] (hpS s7) _
        refine Ex.seg hq 3 (j := 48) (L' := [.ref 0, .int p1]) (S' := [.int p1, .ref 32, .int r8]) (h' := hpS s7) rfl ?_
        obtain ⟨hin, k⟩ := k
        refine Ex.ial hq rfl rfl hin ?_
        refine Ex.i2 hq rfl (fun c => ?_) (fun c => ?_)
        · have k := k.1 c
          refine Ex.seg hq 1 (j := 53) (L' := [.ref 0, .int p1]) (S' := [.int (2 : Int32)]) (h' := hpS s7) rfl ?_
          exact Ex.rt hq rfl rfl ⟨(2 : Int32), s7, rfl, rfl, k⟩
        · have k := k.2 c
          refine Ex.seg hq 2 (j := 53) (L' := [.ref 0, .int p1]) (S' := [.int (3 : Int32)]) (h' := hpS s7) rfl ?_
          exact Ex.rt hq rfl rfl ⟨(3 : Int32), s7, rfl, rfl, k⟩
    · have k := k.2 c
      refine Ex.seg hq 3 (j := 15) (L' := [.ref 0, .int p1]) (S' := [.int p1, .ref 31]) (h' := hpS s1) rfl ?_
      obtain ⟨hin, k⟩ := k
      refine Ex.ial hq rfl rfl hin ?_
      refine Ex.seg hq 3 (j := 19) (L' := [.ref 0, .int p1]) (S' := [.int (s1.1 100), .int ((s1.2.1 31) (p1).toNatClampNeg)]) (h' := hpS s1) rfl ?_
      refine Ex.i2 hq rfl (fun c => ?_) (fun c => ?_)
      · have k := k.1 c
        refine Ex.seg hq 1 (j := 23) (L' := [.ref 0, .int p1]) (S' := [.int (0 : Int32)]) (h' := hpS s1) rfl ?_
        exact Ex.rt hq rfl rfl ⟨(0 : Int32), s1, rfl, rfl, k⟩
      · have k := k.2 c
        refine Ex.seg hq 2 (j := 23) (L' := [.ref 0, .int p1]) (S' := [.int (1 : Int32)]) (h' := hpS s1) rfl ?_
        exact Ex.rt hq rfl rfl ⟨(1 : Int32), s1, rfl, rfl, k⟩
  · have k := k.2 c
    refine Ex.seg hq 1 (j := 5) (L' := [.ref 0, .int p1]) (S' := [.int (-1 : Int32)]) (h' := hpS s1) rfl ?_
    exact Ex.rt hq rfl rfl ⟨(-1 : Int32), s1, rfl, rfl, k⟩
/-- RowAuditor.ifFalse(I)I -/
def w_172 (p1 : Int32) (s : ST) (K : Int32 → ST → Prop) : Prop := w_183 p1 s (fun r2 s1 => ((¬ r2 = 0 → w_111 (s1.1 100) s1 (fun s3 => w_57 (sI s3 1600 p1) (fun r6 s5 => K r6 (sI s5 1600 (-1 : Int32))))) ∧ (¬ (¬ r2 = 0) → K (-1 : Int32) s1)))
theorem q_172 {d : Nat} {K : Int32 → ST → Prop} (p1 : Int32) (s : ST) (k : w_172 p1 s K) : Rn sc (d + 7) 172 [.ref 0, .int p1] (hpS s) (kI K) := by
  have hq : prog[172]? = some pm172 := rfl
  refine Rn.of (L := [.ref 0, .int p1, pu]) hq rfl rfl ?_
  unfold w_172 at k
  refine Ex.seg hq 1 (j := 1) (L' := [.ref 0, .int p1, pu]) (S' := [.int p1]) (h' := hpS s) rfl ?_
  refine Ex.cl hq rfl rfl ?_
  refine Rn.mono (q_183 (d := d + 5) p1 s k) ?_
  rintro _ _ ⟨r2, s1, rfl, hzr2, rfl, k⟩
  show Ex sc (d + 7) 172 2 [.ref 0, .int p1, pu] [.int r2] (hpS s1) _
  refine Ex.i1 hq rfl (fun c => ?_) (fun c => ?_)
  · have k := k.1 c
    refine Ex.seg hq 5 (j := 10) (L' := [.ref 0, .int p1, pu]) (S' := [.int (s1.1 100), .ref 8]) (h' := hpS s1) rfl ?_
    refine Ex.cl hq rfl rfl ?_
    refine Rn.mono (q_111 (d := d + 2) (s1.1 100) s1 k) ?_
    rintro _ _ ⟨s3, rfl, rfl, k⟩
    show Ex sc (d + 7) 172 11 [.ref 0, .int p1, pu] [] (hpS s3) _
    refine Ex.seg hq 6 (j := 17) (L' := [.ref 0, .int p1, pu]) (S' := [.ref 19]) (h' := hpS (sI s3 1600 p1)) rfl ?_
    refine Ex.cl hq rfl rfl ?_
    refine Rn.mono (q_57 (d := d + 0) (sI s3 1600 p1) k) ?_
    rintro _ _ ⟨r6, s5, rfl, rfl, k⟩
    show Ex sc (d + 7) 172 18 [.ref 0, .int p1, pu] [.int r6] (hpS s5) _
    refine Ex.seg hq 6 (j := 24) (L' := [.ref 0, .int p1, .int r6]) (S' := [.int r6]) (h' := hpS (sI s5 1600 (-1 : Int32))) rfl ?_
    exact Ex.rt hq rfl rfl ⟨r6, (sI s5 1600 (-1 : Int32)), rfl, rfl, k⟩
  · have k := k.2 c
    refine Ex.seg hq 1 (j := 4) (L' := [.ref 0, .int p1, pu]) (S' := [.int (-1 : Int32)]) (h' := hpS s1) rfl ?_
    exact Ex.rt hq rfl rfl ⟨(-1 : Int32), s1, rfl, rfl, k⟩
/-- RowAuditor.putIn(I)Z -/
def w_173 (p1 : Int32) (s : ST) (K : Int32 → ST → Prop) : Prop := w_2 p1 s (fun r2 s1 => ((r2 = 0 → K (0 : Int32) s1) ∧ (¬ (r2 = 0) → (pin p1 150 = true ∧ ((((s1.2.1 29) (p1).toNatClampNeg) = 0 → (pin p1 150 = true ∧ K (1 : Int32) (sA s1 29 (upd (s1.2.1 29) (p1).toNatClampNeg (vp_nar .boolean (1 : Int32)))))) ∧ (¬ (((s1.2.1 29) (p1).toNatClampNeg) = 0) → K (0 : Int32) s1))))))
theorem q_173 {d : Nat} {K : Int32 → ST → Prop} (p1 : Int32) (s : ST) (k : w_173 p1 s K) : Rn sc (d + 1) 173 [.ref 0, .int p1] (hpS s) (kZ K) := by
  have hq : prog[173]? = some pm173 := rfl
  refine Rn.of (L := [.ref 0, .int p1]) hq rfl rfl ?_
  unfold w_173 at k
  refine Ex.seg hq 3 (j := 3) (L' := [.ref 0, .int p1]) (S' := [.int p1, .ref 1]) (h' := hpS s) rfl ?_
  refine Ex.cl hq rfl rfl ?_
  refine Rn.mono (q_2 (d := d + 0) p1 s k) ?_
  rintro _ _ ⟨r2, s1, rfl, hzr2, rfl, k⟩
  show Ex sc (d + 1) 173 4 [.ref 0, .int p1] [.int r2] (hpS s1) _
  refine Ex.i1 hq rfl (fun c => ?_) (fun c => ?_)
  · have k := k.1 c
    refine Ex.seg hq 1 (j := 11) (L' := [.ref 0, .int p1]) (S' := [.int (0 : Int32)]) (h' := hpS s1) rfl ?_
    exact Ex.zr hq rfl rfl (Or.inl rfl) ⟨(0 : Int32), s1, rfl, (Or.inl rfl), rfl, k⟩
  · have k := k.2 c
    refine Ex.seg hq 3 (j := 8) (L' := [.ref 0, .int p1]) (S' := [.int p1, .ref 29]) (h' := hpS s1) rfl ?_
    obtain ⟨hin, k⟩ := k
    refine Ex.zal hq rfl rfl hin ?_
    refine Ex.i1 hq rfl (fun c => ?_) (fun c => ?_)
    · have k := k.1 c
      refine Ex.seg hq 4 (j := 16) (L' := [.ref 0, .int p1]) (S' := [.int (1 : Int32), .int p1, .ref 29]) (h' := hpS s1) rfl ?_
      obtain ⟨hin, k⟩ := k
      refine Ex.zas hq rfl rfl hin (h' := hpS (sA s1 29 (upd (s1.2.1 29) (p1).toNatClampNeg (vp_nar .boolean (1 : Int32))))) (hset_29 _ _) ?_
      refine Ex.seg hq 1 (j := 18) (L' := [.ref 0, .int p1]) (S' := [.int (1 : Int32)]) (h' := hpS (sA s1 29 (upd (s1.2.1 29) (p1).toNatClampNeg (vp_nar .boolean (1 : Int32))))) rfl ?_
      exact Ex.zr hq rfl rfl (Or.inr rfl) ⟨(1 : Int32), (sA s1 29 (upd (s1.2.1 29) (p1).toNatClampNeg (vp_nar .boolean (1 : Int32)))), rfl, (Or.inr rfl), rfl, k⟩
    · have k := k.2 c
      refine Ex.seg hq 1 (j := 11) (L' := [.ref 0, .int p1]) (S' := [.int (0 : Int32)]) (h' := hpS s1) rfl ?_
      exact Ex.zr hq rfl rfl (Or.inl rfl) ⟨(0 : Int32), s1, rfl, (Or.inl rfl), rfl, k⟩
def w_174_L17 : Nat → Int32 → Int32 → Int32 → ST → (Int32 → ST → Prop) → (Int32 → ST → Prop) → Prop
  | 0, _, _, _, _, _, _ => False
  | n + 1, x1, x2, x3, s, X47, K => (((s.1 801) ≤ x3 → X47 x2 s) ∧ (¬ ((s.1 801) ≤ x3) → w_123 x3 s (fun r6 s5 => w_2 r6 s5 (fun r8 s7 => ((r8 = 0 → w_174_L17 n x1 x2 (x3 + (1 : Int32)) s7 X47 K) ∧ (¬ (r8 = 0) → (pin r6 150 = true ∧ ((((s7.2.1 29) (r6).toNatClampNeg) = 0 → w_174_L17 n x1 x2 (x3 + (1 : Int32)) s7 X47 K) ∧ (¬ (((s7.2.1 29) (r6).toNatClampNeg) = 0) → ((x1 = 0 → w_174_L17 n x1 (x2 + (1 : Int32)) (x3 + (1 : Int32)) s7 X47 K) ∧ (¬ (x1 = 0) → w_56 r6 s7 (fun r10 s9 => ((r10 = 0 → w_174_L17 n x1 x2 (x3 + (1 : Int32)) s9 X47 K) ∧ (¬ (r10 = 0) → w_174_L17 n x1 (x2 + (1 : Int32)) (x3 + (1 : Int32)) s9 X47 K))))))))))))))
theorem q_174_L17 {d : Nat} {X47 : Int32 → ST → Prop} {K : Int32 → ST → Prop} : ∀ (n : Nat) (x1 : Int32) (x2 : Int32) (x3 : Int32) (s : ST), w_174_L17 n x1 x2 x3 s X47 K → (∀ (y2 : Int32) (s : ST), X47 y2 s → Ex sc (d + 6) 174 47 [pu, pu, .int y2, pu, pu] [] (hpS s) (kI K)) → Ex sc (d + 6) 174 17 [.ref 0, .int x1, .int x2, .int x3, pu] [] (hpS s) (kI K) := by
  have hq : prog[174]? = some pm174 := rfl
  intro n
  induction n with
  | zero =>
    intro x1 x2 x3 s k
    exact k.elim
  | succ n ih =>
    intro x1 x2 x3 s k hX47
    rw [w_174_L17] at k
    refine Ex.seg hq 4 (j := 21) (L' := [.ref 0, .int x1, .int x2, .int x3, pu]) (S' := [.int (s.1 801), .int x3]) (h' := hpS s) rfl ?_
    refine Ex.i2 hq rfl (fun c => ?_) (fun c => ?_)
    · have k := k.1 c
      refine Ex.fg (L := [pu, pu, .int x2, pu, pu]) ⟨Or.inr ⟨rfl, rfl⟩, ⟨Or.inr ⟨rfl, rfl⟩, ⟨Or.inl rfl, ⟨Or.inr ⟨rfl, rfl⟩, ⟨Or.inl rfl, trivial⟩⟩⟩⟩⟩ ?_
      exact hX47 x2 s k
    · have k := k.2 c
      refine Ex.seg hq 3 (j := 25) (L' := [.ref 0, .int x1, .int x2, .int x3, pu]) (S' := [.int x3, .ref 8]) (h' := hpS s) rfl ?_
      refine Ex.cl hq rfl rfl ?_
      refine Rn.mono (q_123 (d := d + 5) x3 s k) ?_
      rintro _ _ ⟨r6, s5, rfl, rfl, k⟩
      show Ex sc (d + 6) 174 26 [.ref 0, .int x1, .int x2, .int x3, pu] [.int r6] (hpS s5) _
      refine Ex.seg hq 4 (j := 30) (L' := [.ref 0, .int x1, .int x2, .int x3, .int r6]) (S' := [.int r6, .ref 1]) (h' := hpS s5) rfl ?_
      refine Ex.cl hq rfl rfl ?_
      refine Rn.mono (q_2 (d := d + 5) r6 s5 k) ?_
      rintro _ _ ⟨r8, s7, rfl, hzr8, rfl, k⟩
      show Ex sc (d + 6) 174 31 [.ref 0, .int x1, .int x2, .int x3, .int r6] [.int r8] (hpS s7) _
      refine Ex.i1 hq rfl (fun c => ?_) (fun c => ?_)
      · have k := k.1 c
        refine Ex.seg hq 2 (j := 17) (L' := [.ref 0, .int x1, .int x2, .int (x3 + (1 : Int32)), .int r6]) (S' := []) (h' := hpS s7) rfl ?_
        refine Ex.fg (L := [.ref 0, .int x1, .int x2, .int (x3 + (1 : Int32)), pu]) ⟨Or.inl rfl, ⟨Or.inl rfl, ⟨Or.inl rfl, ⟨Or.inl rfl, ⟨Or.inr ⟨rfl, rfl⟩, trivial⟩⟩⟩⟩⟩ ?_
        exact ih x1 x2 (x3 + (1 : Int32)) s7 k hX47
      · have k := k.2 c
        refine Ex.seg hq 3 (j := 35) (L' := [.ref 0, .int x1, .int x2, .int x3, .int r6]) (S' := [.int r6, .ref 29]) (h' := hpS s7) rfl ?_
        obtain ⟨hin, k⟩ := k
        refine Ex.zal hq rfl rfl hin ?_
        refine Ex.i1 hq rfl (fun c => ?_) (fun c => ?_)
        · have k := k.1 c
          refine Ex.seg hq 2 (j := 17) (L' := [.ref 0, .int x1, .int x2, .int (x3 + (1 : Int32)), .int r6]) (S' := []) (h' := hpS s7) rfl ?_
          refine Ex.fg (L := [.ref 0, .int x1, .int x2, .int (x3 + (1 : Int32)), pu]) ⟨Or.inl rfl, ⟨Or.inl rfl, ⟨Or.inl rfl, ⟨Or.inl rfl, ⟨Or.inr ⟨rfl, rfl⟩, trivial⟩⟩⟩⟩⟩ ?_
          exact ih x1 x2 (x3 + (1 : Int32)) s7 k hX47
        · have k := k.2 c
          refine Ex.seg hq 1 (j := 38) (L' := [.ref 0, .int x1, .int x2, .int x3, .int r6]) (S' := [.int x1]) (h' := hpS s7) rfl ?_
          refine Ex.i1 hq rfl (fun c => ?_) (fun c => ?_)
          · have k := k.1 c
            refine Ex.seg hq 3 (j := 17) (L' := [.ref 0, .int x1, .int (x2 + (1 : Int32)), .int (x3 + (1 : Int32)), .int r6]) (S' := []) (h' := hpS s7) rfl ?_
            refine Ex.fg (L := [.ref 0, .int x1, .int (x2 + (1 : Int32)), .int (x3 + (1 : Int32)), pu]) ⟨Or.inl rfl, ⟨Or.inl rfl, ⟨Or.inl rfl, ⟨Or.inl rfl, ⟨Or.inr ⟨rfl, rfl⟩, trivial⟩⟩⟩⟩⟩ ?_
            exact ih x1 (x2 + (1 : Int32)) (x3 + (1 : Int32)) s7 k hX47
          · have k := k.2 c
            refine Ex.seg hq 3 (j := 42) (L' := [.ref 0, .int x1, .int x2, .int x3, .int r6]) (S' := [.int r6, .ref 19]) (h' := hpS s7) rfl ?_
            refine Ex.cl hq rfl rfl ?_
            refine Rn.mono (q_56 (d := d + 0) r6 s7 k) ?_
            rintro _ _ ⟨r10, s9, rfl, hzr10, rfl, k⟩
            show Ex sc (d + 6) 174 43 [.ref 0, .int x1, .int x2, .int x3, .int r6] [.int r10] (hpS s9) _
            refine Ex.i1 hq rfl (fun c => ?_) (fun c => ?_)
            · have k := k.1 c
              refine Ex.seg hq 2 (j := 17) (L' := [.ref 0, .int x1, .int x2, .int (x3 + (1 : Int32)), .int r6]) (S' := []) (h' := hpS s9) rfl ?_
              refine Ex.fg (L := [.ref 0, .int x1, .int x2, .int (x3 + (1 : Int32)), pu]) ⟨Or.inl rfl, ⟨Or.inl rfl, ⟨Or.inl rfl, ⟨Or.inl rfl, ⟨Or.inr ⟨rfl, rfl⟩, trivial⟩⟩⟩⟩⟩ ?_
              exact ih x1 x2 (x3 + (1 : Int32)) s9 k hX47
            · have k := k.2 c
              refine Ex.seg hq 3 (j := 17) (L' := [.ref 0, .int x1, .int (x2 + (1 : Int32)), .int (x3 + (1 : Int32)), .int r6]) (S' := []) (h' := hpS s9) rfl ?_
              refine Ex.fg (L := [.ref 0, .int x1, .int (x2 + (1 : Int32)), .int (x3 + (1 : Int32)), pu]) ⟨Or.inl rfl, ⟨Or.inl rfl, ⟨Or.inl rfl, ⟨Or.inl rfl, ⟨Or.inr ⟨rfl, rfl⟩, trivial⟩⟩⟩⟩⟩ ?_
              exact ih x1 (x2 + (1 : Int32)) (x3 + (1 : Int32)) s9 k hX47
/-- RowAuditor.found(I)I -/
def w_174 (p1 : Int32) (s : ST) (K : Int32 → ST → Prop) : Prop := w_181 p1 (0 : Int32) (1 : Int32) s (fun r2 s1 => ((¬ r2 = 0 → w_111 (s1.1 100) s1 (fun s3 => (∃ m, w_174_L17 m p1 (0 : Int32) (0 : Int32) s3 (fun y2 s11 => K y2 s11) K))) ∧ (¬ (¬ r2 = 0) → K (-1 : Int32) s1)))
theorem q_174 {d : Nat} {K : Int32 → ST → Prop} (p1 : Int32) (s : ST) (k : w_174 p1 s K) : Rn sc (d + 6) 174 [.ref 0, .int p1] (hpS s) (kI K) := by
  have hq : prog[174]? = some pm174 := rfl
  refine Rn.of (L := [.ref 0, .int p1, pu, pu, pu]) hq rfl rfl ?_
  unfold w_174 at k
  refine Ex.seg hq 3 (j := 3) (L' := [.ref 0, .int p1, pu, pu, pu]) (S' := [.int (1 : Int32), .int (0 : Int32), .int p1]) (h' := hpS s) rfl ?_
  refine Ex.cl hq rfl rfl ?_
  refine Rn.mono (q_181 (d := d + 5) p1 (0 : Int32) (1 : Int32) s k) ?_
  rintro _ _ ⟨r2, s1, rfl, hzr2, rfl, k⟩
  show Ex sc (d + 6) 174 4 [.ref 0, .int p1, pu, pu, pu] [.int r2] (hpS s1) _
  refine Ex.i1 hq rfl (fun c => ?_) (fun c => ?_)
  · have k := k.1 c
    refine Ex.seg hq 5 (j := 12) (L' := [.ref 0, .int p1, pu, pu, pu]) (S' := [.int (s1.1 100), .ref 8]) (h' := hpS s1) rfl ?_
    refine Ex.cl hq rfl rfl ?_
    refine Rn.mono (q_111 (d := d + 1) (s1.1 100) s1 k) ?_
    rintro _ _ ⟨s3, rfl, rfl, k⟩
    show Ex sc (d + 6) 174 13 [.ref 0, .int p1, pu, pu, pu] [] (hpS s3) _
    refine Ex.seg hq 4 (j := 17) (L' := [.ref 0, .int p1, .int (0 : Int32), .int (0 : Int32), pu]) (S' := []) (h' := hpS s3) rfl ?_
    obtain ⟨m, k⟩ := k
    refine q_174_L17 (d := d) m p1 (0 : Int32) (0 : Int32) s3 k ?_
    · intro y2 s11 k
      refine Ex.seg hq 1 (j := 48) (L' := [pu, pu, .int y2, pu, pu]) (S' := [.int y2]) (h' := hpS s11) rfl ?_
      exact Ex.rt hq rfl rfl ⟨y2, s11, rfl, rfl, k⟩
  · have k := k.2 c
    refine Ex.seg hq 1 (j := 6) (L' := [.ref 0, .int p1, pu, pu, pu]) (S' := [.int (-1 : Int32)]) (h' := hpS s1) rfl ?_
    exact Ex.rt hq rfl rfl ⟨(-1 : Int32), s1, rfl, rfl, k⟩
/-- RowAuditor.reading(III)I -/
def w_175 (p1 : Int32) (p2 : Int32) (p3 : Int32) (s : ST) (K : Int32 → ST → Prop) : Prop := w_181 p1 (1 : Int32) (1000 : Int32) s (fun r2 s1 => ((r2 = 0 → K (-1 : Int32) s1) ∧ (¬ (r2 = 0) → w_181 p2 (0 : Int32) (100000 : Int32) s1 (fun r4 s3 => ((r4 = 0 → K (-1 : Int32) s3) ∧ (¬ (r4 = 0) → w_181 p3 (-1 : Int32) ((s3.1 2300) - (1 : Int32)) s3 (fun r6 s5 => ((r6 = 0 → K (-1 : Int32) s5) ∧ (¬ (r6 = 0) → (((9 : Int32) ≤ (s5.1 2300) → K (-1 : Int32) s5) ∧ (¬ ((9 : Int32) ≤ (s5.1 2300)) → w_89 p1 p2 p3 s5 (fun r8 s7 => K r8 s7))))))))))))
theorem q_175 {d : Nat} {K : Int32 → ST → Prop} (p1 : Int32) (p2 : Int32) (p3 : Int32) (s : ST) (k : w_175 p1 p2 p3 s K) : Rn sc (d + 1) 175 [.ref 0, .int p1, .int p2, .int p3] (hpS s) (kI K) := by
  have hq : prog[175]? = some pm175 := rfl
  refine Rn.of (L := [.ref 0, .int p1, .int p2, .int p3, pu]) hq rfl rfl ?_
  unfold w_175 at k
  refine Ex.seg hq 3 (j := 3) (L' := [.ref 0, .int p1, .int p2, .int p3, pu]) (S' := [.int (1000 : Int32), .int (1 : Int32), .int p1]) (h' := hpS s) rfl ?_
  refine Ex.cl hq rfl rfl ?_
  refine Rn.mono (q_181 (d := d + 0) p1 (1 : Int32) (1000 : Int32) s k) ?_
  rintro _ _ ⟨r2, s1, rfl, hzr2, rfl, k⟩
  show Ex sc (d + 1) 175 4 [.ref 0, .int p1, .int p2, .int p3, pu] [.int r2] (hpS s1) _
  refine Ex.i1 hq rfl (fun c => ?_) (fun c => ?_)
  · have k := k.1 c
    refine Ex.seg hq 5 (j := 38) (L' := [.ref 0, .int p1, .int p2, .int p3, .int (0 : Int32)]) (S' := [.int (-1 : Int32)]) (h' := hpS s1) rfl ?_
    exact Ex.rt hq rfl rfl ⟨(-1 : Int32), s1, rfl, rfl, k⟩
  · have k := k.2 c
    refine Ex.seg hq 3 (j := 8) (L' := [.ref 0, .int p1, .int p2, .int p3, pu]) (S' := [.int (100000 : Int32), .int (0 : Int32), .int p2]) (h' := hpS s1) rfl ?_
    refine Ex.cl hq rfl rfl ?_
    refine Rn.mono (q_181 (d := d + 0) p2 (0 : Int32) (100000 : Int32) s1 k) ?_
    rintro _ _ ⟨r4, s3, rfl, hzr4, rfl, k⟩
    show Ex sc (d + 1) 175 9 [.ref 0, .int p1, .int p2, .int p3, pu] [.int r4] (hpS s3) _
    refine Ex.i1 hq rfl (fun c => ?_) (fun c => ?_)
    · have k := k.1 c
      refine Ex.seg hq 5 (j := 38) (L' := [.ref 0, .int p1, .int p2, .int p3, .int (0 : Int32)]) (S' := [.int (-1 : Int32)]) (h' := hpS s3) rfl ?_
      exact Ex.rt hq rfl rfl ⟨(-1 : Int32), s3, rfl, rfl, k⟩
    · have k := k.2 c
      refine Ex.seg hq 7 (j := 17) (L' := [.ref 0, .int p1, .int p2, .int p3, pu]) (S' := [.int ((s3.1 2300) - (1 : Int32)), .int (-1 : Int32), .int p3]) (h' := hpS s3) rfl ?_
      refine Ex.cl hq rfl rfl ?_
      refine Rn.mono (q_181 (d := d + 0) p3 (-1 : Int32) ((s3.1 2300) - (1 : Int32)) s3 k) ?_
      rintro _ _ ⟨r6, s5, rfl, hzr6, rfl, k⟩
      show Ex sc (d + 1) 175 18 [.ref 0, .int p1, .int p2, .int p3, pu] [.int r6] (hpS s5) _
      refine Ex.i1 hq rfl (fun c => ?_) (fun c => ?_)
      · have k := k.1 c
        refine Ex.seg hq 5 (j := 38) (L' := [.ref 0, .int p1, .int p2, .int p3, .int (0 : Int32)]) (S' := [.int (-1 : Int32)]) (h' := hpS s5) rfl ?_
        exact Ex.rt hq rfl rfl ⟨(-1 : Int32), s5, rfl, rfl, k⟩
      · have k := k.2 c
        refine Ex.seg hq 9 (j := 29) (L' := [.ref 0, .int p1, .int p2, .int p3, .int (1 : Int32)]) (S' := [.int (9 : Int32), .int (s5.1 2300)]) (h' := hpS s5) rfl ?_
        refine Ex.i2 hq rfl (fun c => ?_) (fun c => ?_)
        · have k := k.1 c
          refine Ex.seg hq 1 (j := 38) (L' := [.ref 0, .int p1, .int p2, .int p3, .int (1 : Int32)]) (S' := [.int (-1 : Int32)]) (h' := hpS s5) rfl ?_
          exact Ex.rt hq rfl rfl ⟨(-1 : Int32), s5, rfl, rfl, k⟩
        · have k := k.2 c
          refine Ex.seg hq 5 (j := 35) (L' := [.ref 0, .int p1, .int p2, .int p3, .int (1 : Int32)]) (S' := [.int p3, .int p2, .int p1, .ref 23]) (h' := hpS s5) rfl ?_
          refine Ex.cl hq rfl rfl ?_
          refine Rn.mono (q_89 (d := d + 0) p1 p2 p3 s5 k) ?_
          rintro _ _ ⟨r8, s7, rfl, rfl, k⟩
          show Ex sc (d + 1) 175 36 [.ref 0, .int p1, .int p2, .int p3, .int (1 : Int32)] [.int r8] (hpS s7) _
          refine Ex.seg hq 1 (j := 38) (L' := [.ref 0, .int p1, .int p2, .int p3, .int (1 : Int32)]) (S' := [.int r8]) (h' := hpS s7) rfl ?_
          exact Ex.rt hq rfl rfl ⟨r8, s7, rfl, rfl, k⟩
/-- RowAuditor.best(I)I -/
def w_176 (p1 : Int32) (s : ST) (K : Int32 → ST → Prop) : Prop := w_181 p1 (0 : Int32) (10000 : Int32) s (fun r2 s1 => ((r2 = 0 → K (-1 : Int32) s1) ∧ (¬ (r2 = 0) → w_94 p1 s1 (fun r4 s3 => K r4 s3))))
theorem q_176 {d : Nat} {K : Int32 → ST → Prop} (p1 : Int32) (s : ST) (k : w_176 p1 s K) : Rn sc (d + 5) 176 [.ref 0, .int p1] (hpS s) (kI K) := by
  have hq : prog[176]? = some pm176 := rfl
  refine Rn.of (L := [.ref 0, .int p1]) hq rfl rfl ?_
  unfold w_176 at k
  refine Ex.seg hq 3 (j := 3) (L' := [.ref 0, .int p1]) (S' := [.int (10000 : Int32), .int (0 : Int32), .int p1]) (h' := hpS s) rfl ?_
  refine Ex.cl hq rfl rfl ?_
  refine Rn.mono (q_181 (d := d + 4) p1 (0 : Int32) (10000 : Int32) s k) ?_
  rintro _ _ ⟨r2, s1, rfl, hzr2, rfl, k⟩
  show Ex sc (d + 5) 176 4 [.ref 0, .int p1] [.int r2] (hpS s1) _
  refine Ex.i1 hq rfl (fun c => ?_) (fun c => ?_)
  · have k := k.1 c
    refine Ex.seg hq 1 (j := 11) (L' := [.ref 0, .int p1]) (S' := [.int (-1 : Int32)]) (h' := hpS s1) rfl ?_
    exact Ex.rt hq rfl rfl ⟨(-1 : Int32), s1, rfl, rfl, k⟩
  · have k := k.2 c
    refine Ex.seg hq 3 (j := 8) (L' := [.ref 0, .int p1]) (S' := [.int p1, .ref 23]) (h' := hpS s1) rfl ?_
    refine Ex.cl hq rfl rfl ?_
    refine Rn.mono (q_94 (d := d + 0) p1 s1 k) ?_
    rintro _ _ ⟨r4, s3, rfl, rfl, k⟩
    show Ex sc (d + 5) 176 9 [.ref 0, .int p1] [.int r4] (hpS s3) _
    refine Ex.seg hq 1 (j := 11) (L' := [.ref 0, .int p1]) (S' := [.int r4]) (h' := hpS s3) rfl ?_
    exact Ex.rt hq rfl rfl ⟨r4, s3, rfl, rfl, k⟩
/-- RowAuditor.judge(I)I -/
def w_177 (p1 : Int32) (s : ST) (K : Int32 → ST → Prop) : Prop := w_90 s (fun r2 s1 => w_181 p1 (0 : Int32) (r2 - (1 : Int32)) s1 (fun r4 s3 => ((¬ r4 = 0 → w_91 p1 s3 (fun r6 s5 => ((r6 = 0 → w_92 p1 s5 (fun r8 s7 => K r8 s7)) ∧ (¬ (r6 = 0) → K (-2 : Int32) s5)))) ∧ (¬ (¬ r4 = 0) → K (-1 : Int32) s3))))
theorem q_177 {d : Nat} {K : Int32 → ST → Prop} (p1 : Int32) (s : ST) (k : w_177 p1 s K) : Rn sc (d + 3) 177 [.ref 0, .int p1] (hpS s) (kI K) := by
  have hq : prog[177]? = some pm177 := rfl
  refine Rn.of (L := [.ref 0, .int p1]) hq rfl rfl ?_
  unfold w_177 at k
  refine Ex.seg hq 4 (j := 4) (L' := [.ref 0, .int p1]) (S' := [.ref 23, .int (0 : Int32), .int p1]) (h' := hpS s) rfl ?_
  refine Ex.cl hq rfl rfl ?_
  refine Rn.mono (q_90 (d := d + 2) s k) ?_
  rintro _ _ ⟨r2, s1, rfl, rfl, k⟩
  show Ex sc (d + 3) 177 5 [.ref 0, .int p1] [.int r2, .int (0 : Int32), .int p1] (hpS s1) _
  refine Ex.seg hq 2 (j := 7) (L' := [.ref 0, .int p1]) (S' := [.int (r2 - (1 : Int32)), .int (0 : Int32), .int p1]) (h' := hpS s1) rfl ?_
  refine Ex.cl hq rfl rfl ?_
  refine Rn.mono (q_181 (d := d + 2) p1 (0 : Int32) (r2 - (1 : Int32)) s1 k) ?_
  rintro _ _ ⟨r4, s3, rfl, hzr4, rfl, k⟩
  show Ex sc (d + 3) 177 8 [.ref 0, .int p1] [.int r4] (hpS s3) _
  refine Ex.i1 hq rfl (fun c => ?_) (fun c => ?_)
  · have k := k.1 c
    refine Ex.seg hq 3 (j := 14) (L' := [.ref 0, .int p1]) (S' := [.int p1, .ref 23]) (h' := hpS s3) rfl ?_
    refine Ex.cl hq rfl rfl ?_
    refine Rn.mono (q_91 (d := d + 1) p1 s3 k) ?_
    rintro _ _ ⟨r6, s5, rfl, hzr6, rfl, k⟩
    show Ex sc (d + 3) 177 15 [.ref 0, .int p1] [.int r6] (hpS s5) _
    refine Ex.i1 hq rfl (fun c => ?_) (fun c => ?_)
    · have k := k.1 c
      refine Ex.seg hq 3 (j := 21) (L' := [.ref 0, .int p1]) (S' := [.int p1, .ref 23]) (h' := hpS s5) rfl ?_
      refine Ex.cl hq rfl rfl ?_
      refine Rn.mono (q_92 (d := d + 0) p1 s5 k) ?_
      rintro _ _ ⟨r8, s7, rfl, rfl, k⟩
      show Ex sc (d + 3) 177 22 [.ref 0, .int p1] [.int r8] (hpS s7) _
      exact Ex.rt hq rfl rfl ⟨r8, s7, rfl, rfl, k⟩
    · have k := k.2 c
      refine Ex.seg hq 2 (j := 22) (L' := [.ref 0, .int p1]) (S' := [.int (-2 : Int32)]) (h' := hpS s5) rfl ?_
      exact Ex.rt hq rfl rfl ⟨(-2 : Int32), s5, rfl, rfl, k⟩
  · have k := k.2 c
    refine Ex.seg hq 1 (j := 10) (L' := [.ref 0, .int p1]) (S' := [.int (-1 : Int32)]) (h' := hpS s3) rfl ?_
    exact Ex.rt hq rfl rfl ⟨(-1 : Int32), s3, rfl, rfl, k⟩
/-- RowAuditor.look(II)I -/
def w_178 (p1 : Int32) (p2 : Int32) (s : ST) (K : Int32 → ST → Prop) : Prop := w_9 p1 p2 s (fun r2 s1 => K r2 s1)
theorem q_178 {d : Nat} {K : Int32 → ST → Prop} (p1 : Int32) (p2 : Int32) (s : ST) (k : w_178 p1 p2 s K) : Rn sc (d + 1) 178 [.ref 0, .int p1, .int p2] (hpS s) (kI K) := by
  have hq : prog[178]? = some pm178 := rfl
  refine Rn.of (L := [.ref 0, .int p1, .int p2]) hq rfl rfl ?_
  unfold w_178 at k
  refine Ex.seg hq 4 (j := 4) (L' := [.ref 0, .int p1, .int p2]) (S' := [.int p2, .int p1, .ref 1]) (h' := hpS s) rfl ?_
  refine Ex.cl hq rfl rfl ?_
  refine Rn.mono (q_9 (d := d + 0) p1 p2 s k) ?_
  rintro _ _ ⟨r2, s1, rfl, rfl, k⟩
  show Ex sc (d + 1) 178 5 [.ref 0, .int p1, .int p2] [.int r2] (hpS s1) _
  exact Ex.rt hq rfl rfl ⟨r2, s1, rfl, rfl, k⟩
/-- RowAuditor.clausesOf(Ljava/util/ArrayList;I)I -/
def w_180_R22 (p1 : Int32) (s : ST) (K : Int32 → ST → Prop) : Prop := w_297_R22 s (fun r2 s1 => w_181 p1 (0 : Int32) (r2 - (1 : Int32)) s1 (fun r4 s3 => ((r4 = 0 → K (-1 : Int32) s3) ∧ (¬ (r4 = 0) → w_299_R22 p1 s3 (fun r6 s5 => (∃ f7, pob s5.2.2.2.2 r6 9 = some f7 ∧ (∃ v8, pgf s5.2.2.2.2 r6 9 0 = some (.ref (v8 + 118)) ∧ (∃ f11, pob s5.2.2.2.2 v8 13 = some f11 ∧ w_297 v8 s5 (fun r10 s9 => K r10 s9)))))))))
theorem q_180_R22 {d : Nat} {K : Int32 → ST → Prop} (p1 : Int32) (s : ST) (k : w_180_R22 p1 s K) : Rn sc (d + 3) 180 [.ref 22, .int p1] (hpS s) (kI K) := by
  have hq : prog[180]? = some pm180 := rfl
  refine Rn.of (L := [.ref 22, .int p1]) hq rfl rfl ?_
  unfold w_180_R22 at k
  refine Ex.seg hq 3 (j := 3) (L' := [.ref 22, .int p1]) (S' := [.ref 22, .int (0 : Int32), .int p1]) (h' := hpS s) rfl ?_
  refine Ex.cl hq rfl rfl ?_
  refine Rn.mono (q_297_R22 (d := d + 2) s k) ?_
  rintro _ _ ⟨r2, s1, rfl, rfl, k⟩
  show Ex sc (d + 3) 180 4 [.ref 22, .int p1] [.int r2, .int (0 : Int32), .int p1] (hpS s1) _
  refine Ex.seg hq 2 (j := 6) (L' := [.ref 22, .int p1]) (S' := [.int (r2 - (1 : Int32)), .int (0 : Int32), .int p1]) (h' := hpS s1) rfl ?_
  refine Ex.cl hq rfl rfl ?_
  refine Rn.mono (q_181 (d := d + 2) p1 (0 : Int32) (r2 - (1 : Int32)) s1 k) ?_
  rintro _ _ ⟨r4, s3, rfl, hzr4, rfl, k⟩
  show Ex sc (d + 3) 180 7 [.ref 22, .int p1] [.int r4] (hpS s3) _
  refine Ex.i1 hq rfl (fun c => ?_) (fun c => ?_)
  · have k := k.1 c
    refine Ex.seg hq 1 (j := 16) (L' := [.ref 22, .int p1]) (S' := [.int (-1 : Int32)]) (h' := hpS s3) rfl ?_
    exact Ex.rt hq rfl rfl ⟨(-1 : Int32), s3, rfl, rfl, k⟩
  · have k := k.2 c
    refine Ex.seg hq 2 (j := 10) (L' := [.ref 22, .int p1]) (S' := [.int p1, .ref 22]) (h' := hpS s3) rfl ?_
    refine Ex.cl hq rfl rfl ?_
    refine Rn.mono (q_299_R22 (d := d + 0) p1 s3 k) ?_
    rintro _ _ ⟨r6, s5, rfl, rfl, k⟩
    show Ex sc (d + 3) 180 11 [.ref 22, .int p1] [.ref (r6 + 118)] (hpS s5) _
    obtain ⟨f7, e, k⟩ := k
    refine Ex.ccd hq rfl e ?_
    obtain ⟨v8, e, k⟩ := k
    refine Ex.gfd hq rfl e ?_
    obtain ⟨f11, e, k⟩ := k
    refine Ex.cvd hq rfl rfl e rfl ?_
    refine Rn.mono (q_297 (d := d + 2) v8 s5 k) ?_
    rintro _ _ ⟨r10, s9, rfl, rfl, k⟩
    show Ex sc (d + 3) 180 14 [.ref 22, .int p1] [.int r10] (hpS s9) _
    refine Ex.seg hq 1 (j := 16) (L' := [.ref 22, .int p1]) (S' := [.int r10]) (h' := hpS s9) rfl ?_
    exact Ex.rt hq rfl rfl ⟨r10, s9, rfl, rfl, k⟩
/-- RowAuditor.clausesOf(Ljava/util/ArrayList;I)I -/
def w_180_R20 (p1 : Int32) (s : ST) (K : Int32 → ST → Prop) : Prop := w_297_R20 s (fun r2 s1 => w_181 p1 (0 : Int32) (r2 - (1 : Int32)) s1 (fun r4 s3 => ((r4 = 0 → K (-1 : Int32) s3) ∧ (¬ (r4 = 0) → w_299_R20 p1 s3 (fun r6 s5 => (∃ f7, pob s5.2.2.2.2 r6 9 = some f7 ∧ (∃ v8, pgf s5.2.2.2.2 r6 9 0 = some (.ref (v8 + 118)) ∧ (∃ f11, pob s5.2.2.2.2 v8 13 = some f11 ∧ w_297 v8 s5 (fun r10 s9 => K r10 s9)))))))))
theorem q_180_R20 {d : Nat} {K : Int32 → ST → Prop} (p1 : Int32) (s : ST) (k : w_180_R20 p1 s K) : Rn sc (d + 3) 180 [.ref 20, .int p1] (hpS s) (kI K) := by
  have hq : prog[180]? = some pm180 := rfl
  refine Rn.of (L := [.ref 20, .int p1]) hq rfl rfl ?_
  unfold w_180_R20 at k
  refine Ex.seg hq 3 (j := 3) (L' := [.ref 20, .int p1]) (S' := [.ref 20, .int (0 : Int32), .int p1]) (h' := hpS s) rfl ?_
  refine Ex.cl hq rfl rfl ?_
  refine Rn.mono (q_297_R20 (d := d + 2) s k) ?_
  rintro _ _ ⟨r2, s1, rfl, rfl, k⟩
  show Ex sc (d + 3) 180 4 [.ref 20, .int p1] [.int r2, .int (0 : Int32), .int p1] (hpS s1) _
  refine Ex.seg hq 2 (j := 6) (L' := [.ref 20, .int p1]) (S' := [.int (r2 - (1 : Int32)), .int (0 : Int32), .int p1]) (h' := hpS s1) rfl ?_
  refine Ex.cl hq rfl rfl ?_
  refine Rn.mono (q_181 (d := d + 2) p1 (0 : Int32) (r2 - (1 : Int32)) s1 k) ?_
  rintro _ _ ⟨r4, s3, rfl, hzr4, rfl, k⟩
  show Ex sc (d + 3) 180 7 [.ref 20, .int p1] [.int r4] (hpS s3) _
  refine Ex.i1 hq rfl (fun c => ?_) (fun c => ?_)
  · have k := k.1 c
    refine Ex.seg hq 1 (j := 16) (L' := [.ref 20, .int p1]) (S' := [.int (-1 : Int32)]) (h' := hpS s3) rfl ?_
    exact Ex.rt hq rfl rfl ⟨(-1 : Int32), s3, rfl, rfl, k⟩
  · have k := k.2 c
    refine Ex.seg hq 2 (j := 10) (L' := [.ref 20, .int p1]) (S' := [.int p1, .ref 20]) (h' := hpS s3) rfl ?_
    refine Ex.cl hq rfl rfl ?_
    refine Rn.mono (q_299_R20 (d := d + 0) p1 s3 k) ?_
    rintro _ _ ⟨r6, s5, rfl, rfl, k⟩
    show Ex sc (d + 3) 180 11 [.ref 20, .int p1] [.ref (r6 + 118)] (hpS s5) _
    obtain ⟨f7, e, k⟩ := k
    refine Ex.ccd hq rfl e ?_
    obtain ⟨v8, e, k⟩ := k
    refine Ex.gfd hq rfl e ?_
    obtain ⟨f11, e, k⟩ := k
    refine Ex.cvd hq rfl rfl e rfl ?_
    refine Rn.mono (q_297 (d := d + 2) v8 s5 k) ?_
    rintro _ _ ⟨r10, s9, rfl, rfl, k⟩
    show Ex sc (d + 3) 180 14 [.ref 20, .int p1] [.int r10] (hpS s9) _
    refine Ex.seg hq 1 (j := 16) (L' := [.ref 20, .int p1]) (S' := [.int r10]) (h' := hpS s9) rfl ?_
    exact Ex.rt hq rfl rfl ⟨r10, s9, rfl, rfl, k⟩
/-- RowAuditor.count(I)I -/
def w_179 (p1 : Int32) (s : ST) (K : Int32 → ST → Prop) : Prop := w_181 p1 (20 : Int32) (39 : Int32) s (fun r2 s1 => ((r2 = 0 → w_181 p1 (40 : Int32) (45 : Int32) s1 (fun r4 s3 => ((r4 = 0 → (((p1).toInt < 0 ∨ 8 < (p1).toInt → K (-1 : Int32) s3) ∧ (p1 = (0 : Int32) → K (s3.1 100) s3) ∧ (p1 = (1 : Int32) → K (s3.1 101) s3) ∧ (p1 = (2 : Int32) → K (s3.1 102) s3) ∧ (p1 = (3 : Int32) → w_297_R20 s3 (fun r6 s5 => K r6 s5)) ∧ (p1 = (4 : Int32) → K (s3.1 103) s3) ∧ (p1 = (5 : Int32) → w_297_R22 s3 (fun r8 s7 => K r8 s7)) ∧ (p1 = (6 : Int32) → K (s3.1 13) s3) ∧ (p1 = (7 : Int32) → K (s3.1 2300) s3) ∧ (p1 = (8 : Int32) → K (s3.1 7) s3))) ∧ (¬ (r4 = 0) → w_180_R22 (p1 - (40 : Int32)) s3 (fun r10 s9 => K r10 s9))))) ∧ (¬ (r2 = 0) → w_180_R20 (p1 - (20 : Int32)) s1 (fun r12 s11 => K r12 s11))))
theorem q_179 {d : Nat} {K : Int32 → ST → Prop} (p1 : Int32) (s : ST) (k : w_179 p1 s K) : Rn sc (d + 4) 179 [.ref 0, .int p1] (hpS s) (kI K) := by
  have hq : prog[179]? = some pm179 := rfl
  refine Rn.of (L := [.ref 0, .int p1]) hq rfl rfl ?_
  unfold w_179 at k
  refine Ex.seg hq 3 (j := 3) (L' := [.ref 0, .int p1]) (S' := [.int (39 : Int32), .int (20 : Int32), .int p1]) (h' := hpS s) rfl ?_
  refine Ex.cl hq rfl rfl ?_
  refine Rn.mono (q_181 (d := d + 3) p1 (20 : Int32) (39 : Int32) s k) ?_
  rintro _ _ ⟨r2, s1, rfl, hzr2, rfl, k⟩
  show Ex sc (d + 4) 179 4 [.ref 0, .int p1] [.int r2] (hpS s1) _
  refine Ex.i1 hq rfl (fun c => ?_) (fun c => ?_)
  · have k := k.1 c
    refine Ex.seg hq 3 (j := 16) (L' := [.ref 0, .int p1]) (S' := [.int (45 : Int32), .int (40 : Int32), .int p1]) (h' := hpS s1) rfl ?_
    refine Ex.cl hq rfl rfl ?_
    refine Rn.mono (q_181 (d := d + 3) p1 (40 : Int32) (45 : Int32) s1 k) ?_
    rintro _ _ ⟨r4, s3, rfl, hzr4, rfl, k⟩
    show Ex sc (d + 4) 179 17 [.ref 0, .int p1] [.int r4] (hpS s3) _
    refine Ex.i1 hq rfl (fun c => ?_) (fun c => ?_)
    · have k := k.1 c
      refine Ex.seg hq 1 (j := 26) (L' := [.ref 0, .int p1]) (S' := [.int p1]) (h' := hpS s3) rfl ?_
      refine Ex.tsw hq rfl (fun c => ?_) (fun t c ht => ?_) (by decide)
      · have k := k.1 c
        refine Ex.seg hq 1 (j := 63) (L' := [.ref 0, .int p1]) (S' := [.int (-1 : Int32)]) (h' := hpS s3) rfl ?_
        exact Ex.rt hq rfl rfl ⟨(-1 : Int32), s3, rfl, rfl, k⟩
      · have k := k.2
        rcases (show (p1).toInt = 0 ∨ (p1).toInt = 1 ∨ (p1).toInt = 2 ∨ (p1).toInt = 3 ∨ (p1).toInt = 4 ∨ (p1).toInt = 5 ∨ (p1).toInt = 6 ∨ (p1).toInt = 7 ∨ (p1).toInt = 8 by omega) with e | e | e | e | e | e | e | e | e
        · have cx : p1 = (0 : Int32) := Int32.toInt_inj.mp (by rw [e]; rfl)
          have k := k.1 cx
          rw [e] at ht
          have ht : (some 27 : Option Nat) = some t := ht
          cases ht
          refine Ex.seg hq 3 (j := 30) (L' := [.ref 0, .int p1]) (S' := [.int (s3.1 100)]) (h' := hpS s3) rfl ?_
          exact Ex.rt hq rfl rfl ⟨(s3.1 100), s3, rfl, rfl, k⟩
        · have cx : p1 = (1 : Int32) := Int32.toInt_inj.mp (by rw [e]; rfl)
          have k := k.2.1 cx
          rw [e] at ht
          have ht : (some 31 : Option Nat) = some t := ht
          cases ht
          refine Ex.seg hq 3 (j := 34) (L' := [.ref 0, .int p1]) (S' := [.int (s3.1 101)]) (h' := hpS s3) rfl ?_
          exact Ex.rt hq rfl rfl ⟨(s3.1 101), s3, rfl, rfl, k⟩
        · have cx : p1 = (2 : Int32) := Int32.toInt_inj.mp (by rw [e]; rfl)
          have k := k.2.2.1 cx
          rw [e] at ht
          have ht : (some 35 : Option Nat) = some t := ht
          cases ht
          refine Ex.seg hq 3 (j := 38) (L' := [.ref 0, .int p1]) (S' := [.int (s3.1 102)]) (h' := hpS s3) rfl ?_
          exact Ex.rt hq rfl rfl ⟨(s3.1 102), s3, rfl, rfl, k⟩
        · have cx : p1 = (3 : Int32) := Int32.toInt_inj.mp (by rw [e]; rfl)
          have k := k.2.2.2.1 cx
          rw [e] at ht
          have ht : (some 39 : Option Nat) = some t := ht
          cases ht
          refine Ex.seg hq 3 (j := 42) (L' := [.ref 0, .int p1]) (S' := [.ref 20]) (h' := hpS s3) rfl ?_
          refine Ex.cl hq rfl rfl ?_
          refine Rn.mono (q_297_R20 (d := d + 3) s3 k) ?_
          rintro _ _ ⟨r6, s5, rfl, rfl, k⟩
          show Ex sc (d + 4) 179 43 [.ref 0, .int p1] [.int r6] (hpS s5) _
          exact Ex.rt hq rfl rfl ⟨r6, s5, rfl, rfl, k⟩
        · have cx : p1 = (4 : Int32) := Int32.toInt_inj.mp (by rw [e]; rfl)
          have k := k.2.2.2.2.1 cx
          rw [e] at ht
          have ht : (some 44 : Option Nat) = some t := ht
          cases ht
          refine Ex.seg hq 3 (j := 47) (L' := [.ref 0, .int p1]) (S' := [.int (s3.1 103)]) (h' := hpS s3) rfl ?_
          exact Ex.rt hq rfl rfl ⟨(s3.1 103), s3, rfl, rfl, k⟩
        · have cx : p1 = (5 : Int32) := Int32.toInt_inj.mp (by rw [e]; rfl)
          have k := k.2.2.2.2.2.1 cx
          rw [e] at ht
          have ht : (some 48 : Option Nat) = some t := ht
          cases ht
          refine Ex.seg hq 2 (j := 50) (L' := [.ref 0, .int p1]) (S' := [.ref 22]) (h' := hpS s3) rfl ?_
          refine Ex.cl hq rfl rfl ?_
          refine Rn.mono (q_297_R22 (d := d + 3) s3 k) ?_
          rintro _ _ ⟨r8, s7, rfl, rfl, k⟩
          show Ex sc (d + 4) 179 51 [.ref 0, .int p1] [.int r8] (hpS s7) _
          exact Ex.rt hq rfl rfl ⟨r8, s7, rfl, rfl, k⟩
        · have cx : p1 = (6 : Int32) := Int32.toInt_inj.mp (by rw [e]; rfl)
          have k := k.2.2.2.2.2.2.1 cx
          rw [e] at ht
          have ht : (some 52 : Option Nat) = some t := ht
          cases ht
          refine Ex.seg hq 2 (j := 54) (L' := [.ref 0, .int p1]) (S' := [.int (s3.1 13)]) (h' := hpS s3) rfl ?_
          exact Ex.rt hq rfl rfl ⟨(s3.1 13), s3, rfl, rfl, k⟩
        · have cx : p1 = (7 : Int32) := Int32.toInt_inj.mp (by rw [e]; rfl)
          have k := k.2.2.2.2.2.2.2.1 cx
          rw [e] at ht
          have ht : (some 55 : Option Nat) = some t := ht
          cases ht
          refine Ex.seg hq 3 (j := 58) (L' := [.ref 0, .int p1]) (S' := [.int (s3.1 2300)]) (h' := hpS s3) rfl ?_
          exact Ex.rt hq rfl rfl ⟨(s3.1 2300), s3, rfl, rfl, k⟩
        · have cx : p1 = (8 : Int32) := Int32.toInt_inj.mp (by rw [e]; rfl)
          have k := k.2.2.2.2.2.2.2.2 cx
          rw [e] at ht
          have ht : (some 59 : Option Nat) = some t := ht
          cases ht
          refine Ex.seg hq 2 (j := 61) (L' := [.ref 0, .int p1]) (S' := [.int (s3.1 7)]) (h' := hpS s3) rfl ?_
          exact Ex.rt hq rfl rfl ⟨(s3.1 7), s3, rfl, rfl, k⟩
    · have k := k.2 c
      refine Ex.seg hq 5 (j := 23) (L' := [.ref 0, .int p1]) (S' := [.int (p1 - (40 : Int32)), .ref 22]) (h' := hpS s3) rfl ?_
      refine Ex.cl hq rfl rfl ?_
      refine Rn.mono (q_180_R22 (d := d + 0) (p1 - (40 : Int32)) s3 k) ?_
      rintro _ _ ⟨r10, s9, rfl, rfl, k⟩
      show Ex sc (d + 4) 179 24 [.ref 0, .int p1] [.int r10] (hpS s9) _
      exact Ex.rt hq rfl rfl ⟨r10, s9, rfl, rfl, k⟩
  · have k := k.2 c
    refine Ex.seg hq 6 (j := 11) (L' := [.ref 0, .int p1]) (S' := [.int (p1 - (20 : Int32)), .ref 20]) (h' := hpS s1) rfl ?_
    refine Ex.cl hq rfl rfl ?_
    refine Rn.mono (q_180_R20 (d := d + 0) (p1 - (20 : Int32)) s1 k) ?_
    rintro _ _ ⟨r12, s11, rfl, rfl, k⟩
    show Ex sc (d + 4) 179 12 [.ref 0, .int p1] [.int r12] (hpS s11) _
    exact Ex.rt hq rfl rfl ⟨r12, s11, rfl, rfl, k⟩
/-- RowAuditor.clausesOf(Ljava/util/ArrayList;I)I -/
def w_180 (p0 : Nat) (p1 : Int32) (s : ST) (K : Int32 → ST → Prop) : Prop := (∃ f3, pob s.2.2.2.2 p0 13 = some f3 ∧ w_297 p0 s (fun r2 s1 => w_181 p1 (0 : Int32) (r2 - (1 : Int32)) s1 (fun r5 s4 => ((r5 = 0 → K (-1 : Int32) s4) ∧ (¬ (r5 = 0) → (∃ f8, pob s4.2.2.2.2 p0 13 = some f8 ∧ w_299 p0 p1 s4 (fun r7 s6 => (∃ f9, pob s6.2.2.2.2 r7 9 = some f9 ∧ (∃ v10, pgf s6.2.2.2.2 r7 9 0 = some (.ref (v10 + 118)) ∧ (∃ f13, pob s6.2.2.2.2 v10 13 = some f13 ∧ w_297 v10 s6 (fun r12 s11 => K r12 s11)))))))))))
theorem q_180 {d : Nat} {K : Int32 → ST → Prop} (p0 : Nat) (p1 : Int32) (s : ST) (k : w_180 p0 p1 s K) : Rn sc (d + 3) 180 [.ref (p0 + 118), .int p1] (hpS s) (kI K) := by
  have hq : prog[180]? = some pm180 := rfl
  refine Rn.of (L := [.ref (p0 + 118), .int p1]) hq rfl rfl ?_
  unfold w_180 at k
  refine Ex.seg hq 3 (j := 3) (L' := [.ref (p0 + 118), .int p1]) (S' := [.ref (p0 + 118), .int (0 : Int32), .int p1]) (h' := hpS s) rfl ?_
  obtain ⟨f3, e, k⟩ := k
  refine Ex.cvd hq rfl rfl e rfl ?_
  refine Rn.mono (q_297 (d := d + 2) p0 s k) ?_
  rintro _ _ ⟨r2, s1, rfl, rfl, k⟩
  show Ex sc (d + 3) 180 4 [.ref (p0 + 118), .int p1] [.int r2, .int (0 : Int32), .int p1] (hpS s1) _
  refine Ex.seg hq 2 (j := 6) (L' := [.ref (p0 + 118), .int p1]) (S' := [.int (r2 - (1 : Int32)), .int (0 : Int32), .int p1]) (h' := hpS s1) rfl ?_
  refine Ex.cl hq rfl rfl ?_
  refine Rn.mono (q_181 (d := d + 2) p1 (0 : Int32) (r2 - (1 : Int32)) s1 k) ?_
  rintro _ _ ⟨r5, s4, rfl, hzr5, rfl, k⟩
  show Ex sc (d + 3) 180 7 [.ref (p0 + 118), .int p1] [.int r5] (hpS s4) _
  refine Ex.i1 hq rfl (fun c => ?_) (fun c => ?_)
  · have k := k.1 c
    refine Ex.seg hq 1 (j := 16) (L' := [.ref (p0 + 118), .int p1]) (S' := [.int (-1 : Int32)]) (h' := hpS s4) rfl ?_
    exact Ex.rt hq rfl rfl ⟨(-1 : Int32), s4, rfl, rfl, k⟩
  · have k := k.2 c
    refine Ex.seg hq 2 (j := 10) (L' := [.ref (p0 + 118), .int p1]) (S' := [.int p1, .ref (p0 + 118)]) (h' := hpS s4) rfl ?_
    obtain ⟨f8, e, k⟩ := k
    refine Ex.cvd hq rfl rfl e rfl ?_
    refine Rn.mono (q_299 (d := d + 0) p0 p1 s4 k) ?_
    rintro _ _ ⟨r7, s6, rfl, rfl, k⟩
    show Ex sc (d + 3) 180 11 [.ref (p0 + 118), .int p1] [.ref (r7 + 118)] (hpS s6) _
    obtain ⟨f9, e, k⟩ := k
    refine Ex.ccd hq rfl e ?_
    obtain ⟨v10, e, k⟩ := k
    refine Ex.gfd hq rfl e ?_
    obtain ⟨f13, e, k⟩ := k
    refine Ex.cvd hq rfl rfl e rfl ?_
    refine Rn.mono (q_297 (d := d + 2) v10 s6 k) ?_
    rintro _ _ ⟨r12, s11, rfl, rfl, k⟩
    show Ex sc (d + 3) 180 14 [.ref (p0 + 118), .int p1] [.int r12] (hpS s11) _
    refine Ex.seg hq 1 (j := 16) (L' := [.ref (p0 + 118), .int p1]) (S' := [.int r12]) (h' := hpS s11) rfl ?_
    exact Ex.rt hq rfl rfl ⟨r12, s11, rfl, rfl, k⟩
/-- RowAuditorModel.in(III)Z -/
def w_186 (p0 : Int32) (p1 : Int32) (p2 : Int32) (s : ST) (K : Int32 → ST → Prop) : Prop := ((p0 < p1 → K (0 : Int32) s) ∧ (¬ (p0 < p1) → ((p2 < p0 → K (0 : Int32) s) ∧ (¬ (p2 < p0) → K (1 : Int32) s))))
theorem q_186 {d : Nat} {K : Int32 → ST → Prop} (p0 : Int32) (p1 : Int32) (p2 : Int32) (s : ST) (k : w_186 p0 p1 p2 s K) : Rn sc (d + 0) 186 [.int p0, .int p1, .int p2] (hpS s) (kZ K) := by
  have hq : prog[186]? = some pm186 := rfl
  refine Rn.of (L := [.int p0, .int p1, .int p2]) hq rfl rfl ?_
  unfold w_186 at k
  refine Ex.seg hq 2 (j := 2) (L' := [.int p0, .int p1, .int p2]) (S' := [.int p1, .int p0]) (h' := hpS s) rfl ?_
  refine Ex.i2 hq rfl (fun c => ?_) (fun c => ?_)
  · have k := k.1 c
    refine Ex.seg hq 1 (j := 9) (L' := [.int p0, .int p1, .int p2]) (S' := [.int (0 : Int32)]) (h' := hpS s) rfl ?_
    exact Ex.zr hq rfl rfl (Or.inl rfl) ⟨(0 : Int32), s, rfl, (Or.inl rfl), rfl, k⟩
  · have k := k.2 c
    refine Ex.seg hq 2 (j := 5) (L' := [.int p0, .int p1, .int p2]) (S' := [.int p2, .int p0]) (h' := hpS s) rfl ?_
    refine Ex.i2 hq rfl (fun c => ?_) (fun c => ?_)
    · have k := k.1 c
      refine Ex.seg hq 1 (j := 9) (L' := [.int p0, .int p1, .int p2]) (S' := [.int (0 : Int32)]) (h' := hpS s) rfl ?_
      exact Ex.zr hq rfl rfl (Or.inl rfl) ⟨(0 : Int32), s, rfl, (Or.inl rfl), rfl, k⟩
    · have k := k.2 c
      refine Ex.seg hq 2 (j := 9) (L' := [.int p0, .int p1, .int p2]) (S' := [.int (1 : Int32)]) (h' := hpS s) rfl ?_
      exact Ex.zr hq rfl rfl (Or.inr rfl) ⟨(1 : Int32), s, rfl, (Or.inr rfl), rfl, k⟩
/-- RowAuditorModel.isDay(I)Z -/
def w_187 (p0 : Int32) (s : ST) (K : Int32 → ST → Prop) : Prop := ((p0 < 0 → K (0 : Int32) s) ∧ (¬ (p0 < 0) → (((3999 : Int32) < p0 → K (0 : Int32) s) ∧ (¬ ((3999 : Int32) < p0) → K (1 : Int32) s))))
theorem q_187 {d : Nat} {K : Int32 → ST → Prop} (p0 : Int32) (s : ST) (k : w_187 p0 s K) : Rn sc (d + 0) 187 [.int p0] (hpS s) (kZ K) := by
  have hq : prog[187]? = some pm187 := rfl
  refine Rn.of (L := [.int p0]) hq rfl rfl ?_
  unfold w_187 at k
  refine Ex.seg hq 1 (j := 1) (L' := [.int p0]) (S' := [.int p0]) (h' := hpS s) rfl ?_
  refine Ex.i1 hq rfl (fun c => ?_) (fun c => ?_)
  · have k := k.1 c
    refine Ex.seg hq 1 (j := 8) (L' := [.int p0]) (S' := [.int (0 : Int32)]) (h' := hpS s) rfl ?_
    exact Ex.zr hq rfl rfl (Or.inl rfl) ⟨(0 : Int32), s, rfl, (Or.inl rfl), rfl, k⟩
  · have k := k.2 c
    refine Ex.seg hq 2 (j := 4) (L' := [.int p0]) (S' := [.int (3999 : Int32), .int p0]) (h' := hpS s) rfl ?_
    refine Ex.i2 hq rfl (fun c => ?_) (fun c => ?_)
    · have k := k.1 c
      refine Ex.seg hq 1 (j := 8) (L' := [.int p0]) (S' := [.int (0 : Int32)]) (h' := hpS s) rfl ?_
      exact Ex.zr hq rfl rfl (Or.inl rfl) ⟨(0 : Int32), s, rfl, (Or.inl rfl), rfl, k⟩
    · have k := k.2 c
      refine Ex.seg hq 2 (j := 8) (L' := [.int p0]) (S' := [.int (1 : Int32)]) (h' := hpS s) rfl ?_
      exact Ex.zr hq rfl rfl (Or.inr rfl) ⟨(1 : Int32), s, rfl, (Or.inr rfl), rfl, k⟩
/-- RowAuditorModel.now(I)Z -/
def w_188 (p1 : Int32) (s : ST) (K : Int32 → ST → Prop) : Prop := w_186 p1 (s.1 5500) (3999 : Int32) s (fun r2 s1 => ((¬ r2 = 0 → K (1 : Int32) (sI s1 5500 p1)) ∧ (¬ (¬ r2 = 0) → K (0 : Int32) s1)))
theorem q_188 {d : Nat} {K : Int32 → ST → Prop} (p1 : Int32) (s : ST) (k : w_188 p1 s K) : Rn sc (d + 1) 188 [.ref 55, .int p1] (hpS s) (kZ K) := by
  have hq : prog[188]? = some pm188 := rfl
  refine Rn.of (L := [.ref 55, .int p1]) hq rfl rfl ?_
  unfold w_188 at k
  refine Ex.seg hq 4 (j := 4) (L' := [.ref 55, .int p1]) (S' := [.int (3999 : Int32), .int (s.1 5500), .int p1]) (h' := hpS s) rfl ?_
  refine Ex.cl hq rfl rfl ?_
  refine Rn.mono (q_186 (d := d + 0) p1 (s.1 5500) (3999 : Int32) s k) ?_
  rintro _ _ ⟨r2, s1, rfl, hzr2, rfl, k⟩
  show Ex sc (d + 1) 188 5 [.ref 55, .int p1] [.int r2] (hpS s1) _
  refine Ex.i1 hq rfl (fun c => ?_) (fun c => ?_)
  · have k := k.1 c
    refine Ex.seg hq 4 (j := 12) (L' := [.ref 55, .int p1]) (S' := [.int (1 : Int32)]) (h' := hpS (sI s1 5500 p1)) rfl ?_
    exact Ex.zr hq rfl rfl (Or.inr rfl) ⟨(1 : Int32), (sI s1 5500 p1), rfl, (Or.inr rfl), rfl, k⟩
  · have k := k.2 c
    refine Ex.seg hq 1 (j := 7) (L' := [.ref 55, .int p1]) (S' := [.int (0 : Int32)]) (h' := hpS s1) rfl ?_
    exact Ex.zr hq rfl rfl (Or.inl rfl) ⟨(0 : Int32), s1, rfl, (Or.inl rfl), rfl, k⟩
/-- RowAuditorModel.isHouse(I)Z -/
def w_189 (p1 : Int32) (s : ST) (K : Int32 → ST → Prop) : Prop := ((p1 < 0 → K (0 : Int32) s) ∧ (¬ (p1 < 0) → (((s.1 5501) ≤ p1 → K (0 : Int32) s) ∧ (¬ ((s.1 5501) ≤ p1) → K (1 : Int32) s))))
theorem q_189 {d : Nat} {K : Int32 → ST → Prop} (p1 : Int32) (s : ST) (k : w_189 p1 s K) : Rn sc (d + 0) 189 [.ref 55, .int p1] (hpS s) (kZ K) := by
  have hq : prog[189]? = some pm189 := rfl
  refine Rn.of (L := [.ref 55, .int p1]) hq rfl rfl ?_
  unfold w_189 at k
  refine Ex.seg hq 1 (j := 1) (L' := [.ref 55, .int p1]) (S' := [.int p1]) (h' := hpS s) rfl ?_
  refine Ex.i1 hq rfl (fun c => ?_) (fun c => ?_)
  · have k := k.1 c
    refine Ex.seg hq 1 (j := 9) (L' := [.ref 55, .int p1]) (S' := [.int (0 : Int32)]) (h' := hpS s) rfl ?_
    exact Ex.zr hq rfl rfl (Or.inl rfl) ⟨(0 : Int32), s, rfl, (Or.inl rfl), rfl, k⟩
  · have k := k.2 c
    refine Ex.seg hq 3 (j := 5) (L' := [.ref 55, .int p1]) (S' := [.int (s.1 5501), .int p1]) (h' := hpS s) rfl ?_
    refine Ex.i2 hq rfl (fun c => ?_) (fun c => ?_)
    · have k := k.1 c
      refine Ex.seg hq 1 (j := 9) (L' := [.ref 55, .int p1]) (S' := [.int (0 : Int32)]) (h' := hpS s) rfl ?_
      exact Ex.zr hq rfl rfl (Or.inl rfl) ⟨(0 : Int32), s, rfl, (Or.inl rfl), rfl, k⟩
    · have k := k.2 c
      refine Ex.seg hq 2 (j := 9) (L' := [.ref 55, .int p1]) (S' := [.int (1 : Int32)]) (h' := hpS s) rfl ?_
      exact Ex.zr hq rfl rfl (Or.inr rfl) ⟨(1 : Int32), s, rfl, (Or.inr rfl), rfl, k⟩
end WP
