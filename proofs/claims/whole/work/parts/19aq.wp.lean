/-! ===== weakest preconditions, printed by wip/whole/genwp.py ===== -/
section WP
variable {sc : Nat × (Nat → Int32)}
def w_194_L15 : Nat → Int32 → Int32 → Int32 → Int32 → ST → (Int32 → ST → Prop) → (Int32 → ST → Prop) → Prop
  | 0, _, _, _, _, _, _, _ => False
  | n + 1, x1, x2, x3, x4, s, X40, K => (((s.1 5503) ≤ x4 → X40 x3 s) ∧ (¬ ((s.1 5503) ≤ x4) → (pin x4 100 = true ∧ ((¬ ((s.2.1 69) (x4).toNatClampNeg) = x1 → w_194_L15 n x1 x2 x3 (x4 + (1 : Int32)) s X40 K) ∧ (¬ (¬ ((s.2.1 69) (x4).toNatClampNeg) = x1) → (pin x4 100 = true ∧ ((x2 < ((s.2.1 71) (x4).toNatClampNeg) → w_194_L15 n x1 x2 x3 (x4 + (1 : Int32)) s X40 K) ∧ (¬ (x2 < ((s.2.1 71) (x4).toNatClampNeg)) → (pin x4 100 = true ∧ w_194_L15 n x1 x2 ((s.2.1 70) (x4).toNatClampNeg) (x4 + (1 : Int32)) s X40 K)))))))))
theorem q_194_L15 {d : Nat} {X40 : Int32 → ST → Prop} {K : Int32 → ST → Prop} : ∀ (n : Nat) (x1 : Int32) (x2 : Int32) (x3 : Int32) (x4 : Int32) (s : ST), w_194_L15 n x1 x2 x3 x4 s X40 K → (∀ (y3 : Int32) (s : ST), X40 y3 s → Ex sc (d + 0) 194 40 [pu, pu, pu, .int y3, pu] [] (hpS s) (kI K)) → Ex sc (d + 0) 194 15 [.ref 55, .int x1, .int x2, .int x3, .int x4] [] (hpS s) (kI K) := by
  have hq : prog[194]? = some pm194 := rfl
  intro n
  induction n with
  | zero =>
    intro x1 x2 x3 x4 s k
    exact k.elim
  | succ n ih =>
    intro x1 x2 x3 x4 s k hX40
    rw [w_194_L15] at k
    refine Ex.seg hq 3 (j := 18) (L' := [.ref 55, .int x1, .int x2, .int x3, .int x4]) (S' := [.int (s.1 5503), .int x4]) (h' := hpS s) rfl ?_
    refine Ex.i2 hq rfl (fun c => ?_) (fun c => ?_)
    · have k := k.1 c
      refine Ex.fg (L := [pu, pu, pu, .int x3, pu]) ⟨Or.inr ⟨rfl, rfl⟩, ⟨Or.inr ⟨rfl, rfl⟩, ⟨Or.inr ⟨rfl, rfl⟩, ⟨Or.inl rfl, ⟨Or.inr ⟨rfl, rfl⟩, trivial⟩⟩⟩⟩⟩ ?_
      exact hX40 x3 s k
    · have k := k.2 c
      refine Ex.seg hq 3 (j := 22) (L' := [.ref 55, .int x1, .int x2, .int x3, .int x4]) (S' := [.int x4, .ref 69]) (h' := hpS s) rfl ?_
      obtain ⟨hin, k⟩ := k
      refine Ex.ial hq rfl rfl hin ?_
      refine Ex.seg hq 1 (j := 24) (L' := [.ref 55, .int x1, .int x2, .int x3, .int x4]) (S' := [.int x1, .int ((s.2.1 69) (x4).toNatClampNeg)]) (h' := hpS s) rfl ?_
      refine Ex.i2 hq rfl (fun c => ?_) (fun c => ?_)
      · have k := k.1 c
        refine Ex.seg hq 4 (j := 15) (L' := [.ref 55, .int x1, .int x2, .int x3, .int (x4 + (1 : Int32))]) (S' := []) (h' := hpS s) rfl ?_
        exact ih x1 x2 x3 (x4 + (1 : Int32)) s k hX40
      · have k := k.2 c
        refine Ex.seg hq 3 (j := 28) (L' := [.ref 55, .int x1, .int x2, .int x3, .int x4]) (S' := [.int x4, .ref 71]) (h' := hpS s) rfl ?_
        obtain ⟨hin, k⟩ := k
        refine Ex.ial hq rfl rfl hin ?_
        refine Ex.seg hq 1 (j := 30) (L' := [.ref 55, .int x1, .int x2, .int x3, .int x4]) (S' := [.int x2, .int ((s.2.1 71) (x4).toNatClampNeg)]) (h' := hpS s) rfl ?_
        refine Ex.i2 hq rfl (fun c => ?_) (fun c => ?_)
        · have k := k.1 c
          refine Ex.seg hq 4 (j := 15) (L' := [.ref 55, .int x1, .int x2, .int x3, .int (x4 + (1 : Int32))]) (S' := []) (h' := hpS s) rfl ?_
          exact ih x1 x2 x3 (x4 + (1 : Int32)) s k hX40
        · have k := k.2 c
          refine Ex.seg hq 3 (j := 34) (L' := [.ref 55, .int x1, .int x2, .int x3, .int x4]) (S' := [.int x4, .ref 70]) (h' := hpS s) rfl ?_
          obtain ⟨hin, k⟩ := k
          refine Ex.ial hq rfl rfl hin ?_
          refine Ex.seg hq 4 (j := 15) (L' := [.ref 55, .int x1, .int x2, .int ((s.2.1 70) (x4).toNatClampNeg), .int (x4 + (1 : Int32))]) (S' := []) (h' := hpS s) rfl ?_
          exact ih x1 x2 ((s.2.1 70) (x4).toNatClampNeg) (x4 + (1 : Int32)) s k hX40
/-- RowAuditorModel.sumBy(II)I -/
def w_194 (p1 : Int32) (p2 : Int32) (s : ST) (K : Int32 → ST → Prop) : Prop := (pin p1 150 = true ∧ ((((s.2.1 66) (p1).toNatClampNeg) ≤ p2 → (pin p1 150 = true ∧ (∃ m, w_194_L15 m p1 p2 ((s.2.1 62) (p1).toNatClampNeg) (0 : Int32) s (fun y3 s1 => K y3 s1) K))) ∧ (¬ (((s.2.1 66) (p1).toNatClampNeg) ≤ p2) → K (0 : Int32) s)))
theorem q_194 {d : Nat} {K : Int32 → ST → Prop} (p1 : Int32) (p2 : Int32) (s : ST) (k : w_194 p1 p2 s K) : Rn sc (d + 0) 194 [.ref 55, .int p1, .int p2] (hpS s) (kI K) := by
  have hq : prog[194]? = some pm194 := rfl
  refine Rn.of (L := [.ref 55, .int p1, .int p2, pu, pu]) hq rfl rfl ?_
  unfold w_194 at k
  refine Ex.seg hq 3 (j := 3) (L' := [.ref 55, .int p1, .int p2, pu, pu]) (S' := [.int p1, .ref 66]) (h' := hpS s) rfl ?_
  obtain ⟨hin, k⟩ := k
  refine Ex.ial hq rfl rfl hin ?_
  refine Ex.seg hq 1 (j := 5) (L' := [.ref 55, .int p1, .int p2, pu, pu]) (S' := [.int p2, .int ((s.2.1 66) (p1).toNatClampNeg)]) (h' := hpS s) rfl ?_
  refine Ex.i2 hq rfl (fun c => ?_) (fun c => ?_)
  · have k := k.1 c
    refine Ex.seg hq 3 (j := 11) (L' := [.ref 55, .int p1, .int p2, pu, pu]) (S' := [.int p1, .ref 62]) (h' := hpS s) rfl ?_
    obtain ⟨hin, k⟩ := k
    refine Ex.ial hq rfl rfl hin ?_
    refine Ex.seg hq 3 (j := 15) (L' := [.ref 55, .int p1, .int p2, .int ((s.2.1 62) (p1).toNatClampNeg), .int (0 : Int32)]) (S' := []) (h' := hpS s) rfl ?_
    obtain ⟨m, k⟩ := k
    refine q_194_L15 (d := d) m p1 p2 ((s.2.1 62) (p1).toNatClampNeg) (0 : Int32) s k ?_
    · intro y3 s1 k
      refine Ex.seg hq 1 (j := 41) (L' := [pu, pu, pu, .int y3, pu]) (S' := [.int y3]) (h' := hpS s1) rfl ?_
      exact Ex.rt hq rfl rfl ⟨y3, s1, rfl, rfl, k⟩
  · have k := k.2 c
    refine Ex.seg hq 1 (j := 7) (L' := [.ref 55, .int p1, .int p2, pu, pu]) (S' := [.int (0 : Int32)]) (h' := hpS s) rfl ?_
    exact Ex.rt hq rfl rfl ⟨(0 : Int32), s, rfl, rfl, k⟩
/-- RowAuditorModel.mend(II)Z -/
def w_195 (p1 : Int32) (p2 : Int32) (s : ST) (K : Int32 → ST → Prop) : Prop := w_190 p1 s (fun r2 s1 => ((r2 = 0 → K (0 : Int32) s1) ∧ (¬ (r2 = 0) → w_186 p2 (0 : Int32) (1000000 : Int32) s1 (fun r4 s3 => ((r4 = 0 → K (0 : Int32) s3) ∧ (¬ (r4 = 0) → (((s3.1 5503) = (100 : Int32) → K (0 : Int32) s3) ∧ (¬ ((s3.1 5503) = (100 : Int32)) → w_194 p1 (3999 : Int32) s3 (fun r6 s5 => ((¬ r6 = 0 → (pin (s5.1 5503) 100 = true ∧ (pin (s5.1 5503) 100 = true ∧ (pin (s5.1 5503) 100 = true ∧ K (1 : Int32) (sA (sA (sA (sI s5 5503 ((s5.1 5503) + (1 : Int32))) 69 (upd (s5.2.1 69) ((s5.1 5503)).toNatClampNeg p1)) 70 (upd (s5.2.1 70) ((s5.1 5503)).toNatClampNeg p2)) 71 (upd (s5.2.1 71) ((s5.1 5503)).toNatClampNeg (s5.1 5500))))))) ∧ (¬ (¬ r6 = 0) → K (0 : Int32) s5)))))))))))
theorem q_195 {d : Nat} {K : Int32 → ST → Prop} (p1 : Int32) (p2 : Int32) (s : ST) (k : w_195 p1 p2 s K) : Rn sc (d + 1) 195 [.ref 55, .int p1, .int p2] (hpS s) (kZ K) := by
  have hq : prog[195]? = some pm195 := rfl
  refine Rn.of (L := [.ref 55, .int p1, .int p2]) hq rfl rfl ?_
  unfold w_195 at k
  refine Ex.seg hq 2 (j := 2) (L' := [.ref 55, .int p1, .int p2]) (S' := [.int p1, .ref 55]) (h' := hpS s) rfl ?_
  refine Ex.cl hq rfl rfl ?_
  refine Rn.mono (q_190 (d := d + 0) p1 s k) ?_
  rintro _ _ ⟨r2, s1, rfl, hzr2, rfl, k⟩
  show Ex sc (d + 1) 195 3 [.ref 55, .int p1, .int p2] [.int r2] (hpS s1) _
  refine Ex.i1 hq rfl (fun c => ?_) (fun c => ?_)
  · have k := k.1 c
    refine Ex.seg hq 1 (j := 19) (L' := [.ref 55, .int p1, .int p2]) (S' := [.int (0 : Int32)]) (h' := hpS s1) rfl ?_
    exact Ex.zr hq rfl rfl (Or.inl rfl) ⟨(0 : Int32), s1, rfl, (Or.inl rfl), rfl, k⟩
  · have k := k.2 c
    refine Ex.seg hq 3 (j := 7) (L' := [.ref 55, .int p1, .int p2]) (S' := [.int (1000000 : Int32), .int (0 : Int32), .int p2]) (h' := hpS s1) rfl ?_
    refine Ex.cl hq rfl rfl ?_
    refine Rn.mono (q_186 (d := d + 0) p2 (0 : Int32) (1000000 : Int32) s1 k) ?_
    rintro _ _ ⟨r4, s3, rfl, hzr4, rfl, k⟩
    show Ex sc (d + 1) 195 8 [.ref 55, .int p1, .int p2] [.int r4] (hpS s3) _
    refine Ex.i1 hq rfl (fun c => ?_) (fun c => ?_)
    · have k := k.1 c
      refine Ex.seg hq 1 (j := 19) (L' := [.ref 55, .int p1, .int p2]) (S' := [.int (0 : Int32)]) (h' := hpS s3) rfl ?_
      exact Ex.zr hq rfl rfl (Or.inl rfl) ⟨(0 : Int32), s3, rfl, (Or.inl rfl), rfl, k⟩
    · have k := k.2 c
      refine Ex.seg hq 3 (j := 12) (L' := [.ref 55, .int p1, .int p2]) (S' := [.int (100 : Int32), .int (s3.1 5503)]) (h' := hpS s3) rfl ?_
      refine Ex.i2 hq rfl (fun c => ?_) (fun c => ?_)
      · have k := k.1 c
        refine Ex.seg hq 1 (j := 19) (L' := [.ref 55, .int p1, .int p2]) (S' := [.int (0 : Int32)]) (h' := hpS s3) rfl ?_
        exact Ex.zr hq rfl rfl (Or.inl rfl) ⟨(0 : Int32), s3, rfl, (Or.inl rfl), rfl, k⟩
      · have k := k.2 c
        refine Ex.seg hq 3 (j := 16) (L' := [.ref 55, .int p1, .int p2]) (S' := [.int (3999 : Int32), .int p1, .ref 55]) (h' := hpS s3) rfl ?_
        refine Ex.cl hq rfl rfl ?_
        refine Rn.mono (q_194 (d := d + 0) p1 (3999 : Int32) s3 k) ?_
        rintro _ _ ⟨r6, s5, rfl, rfl, k⟩
        show Ex sc (d + 1) 195 17 [.ref 55, .int p1, .int p2] [.int r6] (hpS s5) _
        refine Ex.i1 hq rfl (fun c => ?_) (fun c => ?_)
        · have k := k.1 c
          refine Ex.seg hq 5 (j := 25) (L' := [.ref 55, .int p1, .int p2]) (S' := [.int p1, .int (s5.1 5503), .ref 69]) (h' := hpS s5) rfl ?_
          obtain ⟨hin, k⟩ := k
          refine Ex.ias hq rfl rfl hin (h' := hpS (sA s5 69 (upd (s5.2.1 69) ((s5.1 5503)).toNatClampNeg p1))) (hset_69 _ _) ?_
          refine Ex.seg hq 5 (j := 31) (L' := [.ref 55, .int p1, .int p2]) (S' := [.int p2, .int (s5.1 5503), .ref 70]) (h' := hpS (sA s5 69 (upd (s5.2.1 69) ((s5.1 5503)).toNatClampNeg p1))) rfl ?_
          obtain ⟨hin, k⟩ := k
          refine Ex.ias hq rfl rfl hin (h' := hpS (sA (sA s5 69 (upd (s5.2.1 69) ((s5.1 5503)).toNatClampNeg p1)) 70 (upd (s5.2.1 70) ((s5.1 5503)).toNatClampNeg p2))) (hset_70 _ _) ?_
          refine Ex.seg hq 6 (j := 38) (L' := [.ref 55, .int p1, .int p2]) (S' := [.int (s5.1 5500), .int (s5.1 5503), .ref 71]) (h' := hpS (sA (sA s5 69 (upd (s5.2.1 69) ((s5.1 5503)).toNatClampNeg p1)) 70 (upd (s5.2.1 70) ((s5.1 5503)).toNatClampNeg p2))) rfl ?_
          obtain ⟨hin, k⟩ := k
          refine Ex.ias hq rfl rfl hin (h' := hpS (sA (sA (sA s5 69 (upd (s5.2.1 69) ((s5.1 5503)).toNatClampNeg p1)) 70 (upd (s5.2.1 70) ((s5.1 5503)).toNatClampNeg p2)) 71 (upd (s5.2.1 71) ((s5.1 5503)).toNatClampNeg (s5.1 5500)))) (hset_71 _ _) ?_
          refine Ex.seg hq 7 (j := 46) (L' := [.ref 55, .int p1, .int p2]) (S' := [.int (1 : Int32)]) (h' := hpS (sA (sA (sA (sI s5 5503 ((s5.1 5503) + (1 : Int32))) 69 (upd (s5.2.1 69) ((s5.1 5503)).toNatClampNeg p1)) 70 (upd (s5.2.1 70) ((s5.1 5503)).toNatClampNeg p2)) 71 (upd (s5.2.1 71) ((s5.1 5503)).toNatClampNeg (s5.1 5500)))) rfl ?_
          exact Ex.zr hq rfl rfl (Or.inr rfl) ⟨(1 : Int32), (sA (sA (sA (sI s5 5503 ((s5.1 5503) + (1 : Int32))) 69 (upd (s5.2.1 69) ((s5.1 5503)).toNatClampNeg p1)) 70 (upd (s5.2.1 70) ((s5.1 5503)).toNatClampNeg p2)) 71 (upd (s5.2.1 71) ((s5.1 5503)).toNatClampNeg (s5.1 5500))), rfl, (Or.inr rfl), rfl, k⟩
        · have k := k.2 c
          refine Ex.seg hq 1 (j := 19) (L' := [.ref 55, .int p1, .int p2]) (S' := [.int (0 : Int32)]) (h' := hpS s5) rfl ?_
          exact Ex.zr hq rfl rfl (Or.inl rfl) ⟨(0 : Int32), s5, rfl, (Or.inl rfl), rfl, k⟩
/-- RowAuditorModel.isAhead(II)Z -/
def w_196 (p1 : Int32) (p2 : Int32) (s : ST) (K : Int32 → ST → Prop) : Prop := (pin p1 150 = true ∧ (pin p2 150 = true ∧ ((((s.2.1 60) (p1).toNatClampNeg) = ((s.2.1 60) (p2).toNatClampNeg) → (pin p1 150 = true ∧ (pin p2 150 = true ∧ ((((s.2.1 61) (p1).toNatClampNeg) = ((s.2.1 61) (p2).toNatClampNeg) → ((p2 ≤ p1 → K (0 : Int32) s) ∧ (¬ (p2 ≤ p1) → K (1 : Int32) s))) ∧ (¬ (((s.2.1 61) (p1).toNatClampNeg) = ((s.2.1 61) (p2).toNatClampNeg)) → (pin p1 150 = true ∧ (pin p2 150 = true ∧ ((((s.2.1 61) (p2).toNatClampNeg) ≤ ((s.2.1 61) (p1).toNatClampNeg) → K (0 : Int32) s) ∧ (¬ (((s.2.1 61) (p2).toNatClampNeg) ≤ ((s.2.1 61) (p1).toNatClampNeg)) → K (1 : Int32) s))))))))) ∧ (¬ (((s.2.1 60) (p1).toNatClampNeg) = ((s.2.1 60) (p2).toNatClampNeg)) → (pin p1 150 = true ∧ (pin p2 150 = true ∧ ((((s.2.1 60) (p2).toNatClampNeg) ≤ ((s.2.1 60) (p1).toNatClampNeg) → K (0 : Int32) s) ∧ (¬ (((s.2.1 60) (p2).toNatClampNeg) ≤ ((s.2.1 60) (p1).toNatClampNeg)) → K (1 : Int32) s))))))))
theorem q_196 {d : Nat} {K : Int32 → ST → Prop} (p1 : Int32) (p2 : Int32) (s : ST) (k : w_196 p1 p2 s K) : Rn sc (d + 0) 196 [.ref 55, .int p1, .int p2] (hpS s) (kZ K) := by
  have hq : prog[196]? = some pm196 := rfl
  refine Rn.of (L := [.ref 55, .int p1, .int p2]) hq rfl rfl ?_
  unfold w_196 at k
  refine Ex.seg hq 3 (j := 3) (L' := [.ref 55, .int p1, .int p2]) (S' := [.int p1, .ref 60]) (h' := hpS s) rfl ?_
  obtain ⟨hin, k⟩ := k
  refine Ex.ial hq rfl rfl hin ?_
  refine Ex.seg hq 3 (j := 7) (L' := [.ref 55, .int p1, .int p2]) (S' := [.int p2, .ref 60, .int ((s.2.1 60) (p1).toNatClampNeg)]) (h' := hpS s) rfl ?_
  obtain ⟨hin, k⟩ := k
  refine Ex.ial hq rfl rfl hin ?_
  refine Ex.i2 hq rfl (fun c => ?_) (fun c => ?_)
  · have k := k.1 c
    refine Ex.seg hq 3 (j := 25) (L' := [.ref 55, .int p1, .int p2]) (S' := [.int p1, .ref 61]) (h' := hpS s) rfl ?_
    obtain ⟨hin, k⟩ := k
    refine Ex.ial hq rfl rfl hin ?_
    refine Ex.seg hq 3 (j := 29) (L' := [.ref 55, .int p1, .int p2]) (S' := [.int p2, .ref 61, .int ((s.2.1 61) (p1).toNatClampNeg)]) (h' := hpS s) rfl ?_
    obtain ⟨hin, k⟩ := k
    refine Ex.ial hq rfl rfl hin ?_
    refine Ex.i2 hq rfl (fun c => ?_) (fun c => ?_)
    · have k := k.1 c
      refine Ex.seg hq 2 (j := 46) (L' := [.ref 55, .int p1, .int p2]) (S' := [.int p2, .int p1]) (h' := hpS s) rfl ?_
      refine Ex.i2 hq rfl (fun c => ?_) (fun c => ?_)
      · have k := k.1 c
        refine Ex.seg hq 1 (j := 50) (L' := [.ref 55, .int p1, .int p2]) (S' := [.int (0 : Int32)]) (h' := hpS s) rfl ?_
        exact Ex.zr hq rfl rfl (Or.inl rfl) ⟨(0 : Int32), s, rfl, (Or.inl rfl), rfl, k⟩
      · have k := k.2 c
        refine Ex.seg hq 2 (j := 50) (L' := [.ref 55, .int p1, .int p2]) (S' := [.int (1 : Int32)]) (h' := hpS s) rfl ?_
        exact Ex.zr hq rfl rfl (Or.inr rfl) ⟨(1 : Int32), s, rfl, (Or.inr rfl), rfl, k⟩
    · have k := k.2 c
      refine Ex.seg hq 3 (j := 34) (L' := [.ref 55, .int p1, .int p2]) (S' := [.int p1, .ref 61]) (h' := hpS s) rfl ?_
      obtain ⟨hin, k⟩ := k
      refine Ex.ial hq rfl rfl hin ?_
      refine Ex.seg hq 3 (j := 38) (L' := [.ref 55, .int p1, .int p2]) (S' := [.int p2, .ref 61, .int ((s.2.1 61) (p1).toNatClampNeg)]) (h' := hpS s) rfl ?_
      obtain ⟨hin, k⟩ := k
      refine Ex.ial hq rfl rfl hin ?_
      refine Ex.i2 hq rfl (fun c => ?_) (fun c => ?_)
      · have k := k.1 c
        refine Ex.seg hq 2 (j := 50) (L' := [.ref 55, .int p1, .int p2]) (S' := [.int (0 : Int32)]) (h' := hpS s) rfl ?_
        exact Ex.zr hq rfl rfl (Or.inl rfl) ⟨(0 : Int32), s, rfl, (Or.inl rfl), rfl, k⟩
      · have k := k.2 c
        refine Ex.seg hq 2 (j := 50) (L' := [.ref 55, .int p1, .int p2]) (S' := [.int (1 : Int32)]) (h' := hpS s) rfl ?_
        exact Ex.zr hq rfl rfl (Or.inr rfl) ⟨(1 : Int32), s, rfl, (Or.inr rfl), rfl, k⟩
  · have k := k.2 c
    refine Ex.seg hq 3 (j := 12) (L' := [.ref 55, .int p1, .int p2]) (S' := [.int p1, .ref 60]) (h' := hpS s) rfl ?_
    obtain ⟨hin, k⟩ := k
    refine Ex.ial hq rfl rfl hin ?_
    refine Ex.seg hq 3 (j := 16) (L' := [.ref 55, .int p1, .int p2]) (S' := [.int p2, .ref 60, .int ((s.2.1 60) (p1).toNatClampNeg)]) (h' := hpS s) rfl ?_
    obtain ⟨hin, k⟩ := k
    refine Ex.ial hq rfl rfl hin ?_
    refine Ex.i2 hq rfl (fun c => ?_) (fun c => ?_)
    · have k := k.1 c
      refine Ex.seg hq 1 (j := 21) (L' := [.ref 55, .int p1, .int p2]) (S' := [.int (0 : Int32)]) (h' := hpS s) rfl ?_
      exact Ex.zr hq rfl rfl (Or.inl rfl) ⟨(0 : Int32), s, rfl, (Or.inl rfl), rfl, k⟩
    · have k := k.2 c
      refine Ex.seg hq 2 (j := 21) (L' := [.ref 55, .int p1, .int p2]) (S' := [.int (1 : Int32)]) (h' := hpS s) rfl ?_
      exact Ex.zr hq rfl rfl (Or.inr rfl) ⟨(1 : Int32), s, rfl, (Or.inr rfl), rfl, k⟩
def w_197_L31 : Nat → Int32 → Int32 → Int32 → ST → (Int32 → Int32 → Int32 → ST → Prop) → (ST → Prop) → Prop
  | 0, _, _, _, _, _, _ => False
  | n + 1, x1, x2, x3, s, X58, K => ((x3 ≤ 0 → X58 x1 x2 x3 s) ∧ (¬ (x3 ≤ 0) → (pin (x3 - (1 : Int32)) 150 = true ∧ w_196 x2 ((s.2.1 72) ((x3 - (1 : Int32))).toNatClampNeg) s (fun r4 s3 => ((r4 = 0 → X58 x1 x2 x3 s3) ∧ (¬ (r4 = 0) → (pin (x3 - (1 : Int32)) 150 = true ∧ (pin x3 150 = true ∧ w_197_L31 n x1 x2 (x3 - (1 : Int32)) (sA s3 72 (upd (s3.2.1 72) (x3).toNatClampNeg ((s3.2.1 72) ((x3 - (1 : Int32))).toNatClampNeg))) X58 K))))))))
theorem q_197_L31 {d : Nat} {X58 : Int32 → Int32 → Int32 → ST → Prop} {K : ST → Prop} : ∀ (n : Nat) (x1 : Int32) (x2 : Int32) (x3 : Int32) (s : ST), w_197_L31 n x1 x2 x3 s X58 K → (∀ (y1 : Int32) (y2 : Int32) (y3 : Int32) (s : ST), X58 y1 y2 y3 s → Ex sc (d + 1) 197 58 [.ref 55, .int y1, .int y2, .int y3] [] (hpS s) (kV K)) → Ex sc (d + 1) 197 31 [.ref 55, .int x1, .int x2, .int x3] [] (hpS s) (kV K) := by
  have hq : prog[197]? = some pm197 := rfl
  intro n
  induction n with
  | zero =>
    intro x1 x2 x3 s k
    exact k.elim
  | succ n ih =>
    intro x1 x2 x3 s k hX58
    rw [w_197_L31] at k
    refine Ex.seg hq 1 (j := 32) (L' := [.ref 55, .int x1, .int x2, .int x3]) (S' := [.int x3]) (h' := hpS s) rfl ?_
    refine Ex.i1 hq rfl (fun c => ?_) (fun c => ?_)
    · have k := k.1 c
      exact hX58 x1 x2 x3 s k
    · have k := k.2 c
      refine Ex.seg hq 7 (j := 40) (L' := [.ref 55, .int x1, .int x2, .int x3]) (S' := [.int (x3 - (1 : Int32)), .ref 72, .int x2, .ref 55]) (h' := hpS s) rfl ?_
      obtain ⟨hin, k⟩ := k
      refine Ex.ial hq rfl rfl hin ?_
      refine Ex.cl hq rfl rfl ?_
      refine Rn.mono (q_196 (d := d + 0) x2 ((s.2.1 72) ((x3 - (1 : Int32))).toNatClampNeg) s k) ?_
      rintro _ _ ⟨r4, s3, rfl, hzr4, rfl, k⟩
      show Ex sc (d + 1) 197 42 [.ref 55, .int x1, .int x2, .int x3] [.int r4] (hpS s3) _
      refine Ex.i1 hq rfl (fun c => ?_) (fun c => ?_)
      · have k := k.1 c
        exact hX58 x1 x2 x3 s3 k
      · have k := k.2 c
        refine Ex.seg hq 8 (j := 51) (L' := [.ref 55, .int x1, .int x2, .int x3]) (S' := [.int (x3 - (1 : Int32)), .ref 72, .int x3, .ref 72]) (h' := hpS s3) rfl ?_
        obtain ⟨hin, k⟩ := k
        refine Ex.ial hq rfl rfl hin ?_
        obtain ⟨hin, k⟩ := k
        refine Ex.ias hq rfl rfl hin (h' := hpS (sA s3 72 (upd (s3.2.1 72) (x3).toNatClampNeg ((s3.2.1 72) ((x3 - (1 : Int32))).toNatClampNeg)))) (hset_72 _ _) ?_
        refine Ex.seg hq 5 (j := 31) (L' := [.ref 55, .int x1, .int x2, .int (x3 - (1 : Int32))]) (S' := []) (h' := hpS (sA s3 72 (upd (s3.2.1 72) (x3).toNatClampNeg ((s3.2.1 72) ((x3 - (1 : Int32))).toNatClampNeg)))) rfl ?_
        exact ih x1 x2 (x3 - (1 : Int32)) (sA s3 72 (upd (s3.2.1 72) (x3).toNatClampNeg ((s3.2.1 72) ((x3 - (1 : Int32))).toNatClampNeg))) k hX58
def w_197_L5 : Nat → Int32 → Int32 → ST → (ST → Prop) → (ST → Prop) → Prop
  | 0, _, _, _, _, _ => False
  | n + 1, x1, x2, s, X71, K => (((s.1 5502) ≤ x2 → X71  s) ∧ (¬ ((s.1 5502) ≤ x2) → (pin x2 150 = true ∧ w_194 x2 x1 (sA s 74 (upd (s.2.1 74) (x2).toNatClampNeg (-1 : Int32))) (fun r2 s1 => (pin x2 150 = true ∧ (pin x2 150 = true ∧ ((¬ ((upd (s1.2.1 73) (x2).toNatClampNeg r2) (x2).toNatClampNeg) = 0 → (∃ m, w_197_L31 m x1 x2 (s1.1 5520) (sA s1 73 (upd (s1.2.1 73) (x2).toNatClampNeg r2)) (fun y1 y2 y3 s3 => (pin y3 150 = true ∧ w_197_L5 n y1 (y2 + (1 : Int32)) (sA (sI s3 5520 ((s3.1 5520) + (1 : Int32))) 72 (upd (s3.2.1 72) (y3).toNatClampNeg y2)) X71 K)) K)) ∧ (¬ (¬ ((upd (s1.2.1 73) (x2).toNatClampNeg r2) (x2).toNatClampNeg) = 0) → w_197_L5 n x1 (x2 + (1 : Int32)) (sA s1 73 (upd (s1.2.1 73) (x2).toNatClampNeg r2)) X71 K))))))))
theorem q_197_L5 {d : Nat} {X71 : ST → Prop} {K : ST → Prop} : ∀ (n : Nat) (x1 : Int32) (x2 : Int32) (s : ST), w_197_L5 n x1 x2 s X71 K → (∀ (s : ST), X71  s → Ex sc (d + 1) 197 71 [.ref 55, pu, pu, pu] [] (hpS s) (kV K)) → Ex sc (d + 1) 197 5 [.ref 55, .int x1, .int x2, pu] [] (hpS s) (kV K) := by
  have hq : prog[197]? = some pm197 := rfl
  intro n
  induction n with
  | zero =>
    intro x1 x2 s k
    exact k.elim
  | succ n ih =>
    intro x1 x2 s k hX71
    rw [w_197_L5] at k
    refine Ex.seg hq 3 (j := 8) (L' := [.ref 55, .int x1, .int x2, pu]) (S' := [.int (s.1 5502), .int x2]) (h' := hpS s) rfl ?_
    refine Ex.i2 hq rfl (fun c => ?_) (fun c => ?_)
    · have k := k.1 c
      refine Ex.fg (L := [.ref 55, pu, pu, pu]) ⟨Or.inl rfl, ⟨Or.inr ⟨rfl, rfl⟩, ⟨Or.inr ⟨rfl, rfl⟩, ⟨Or.inl rfl, trivial⟩⟩⟩⟩ ?_
      exact hX71  s k
    · have k := k.2 c
      refine Ex.seg hq 4 (j := 13) (L' := [.ref 55, .int x1, .int x2, pu]) (S' := [.int (-1 : Int32), .int x2, .ref 74]) (h' := hpS s) rfl ?_
      obtain ⟨hin, k⟩ := k
      refine Ex.ias hq rfl rfl hin (h' := hpS (sA s 74 (upd (s.2.1 74) (x2).toNatClampNeg (-1 : Int32)))) (hset_74 _ _) ?_
      refine Ex.seg hq 6 (j := 20) (L' := [.ref 55, .int x1, .int x2, pu]) (S' := [.int x1, .int x2, .ref 55, .int x2, .ref 73]) (h' := hpS (sA s 74 (upd (s.2.1 74) (x2).toNatClampNeg (-1 : Int32)))) rfl ?_
      refine Ex.cl hq rfl rfl ?_
      refine Rn.mono (q_194 (d := d + 0) x2 x1 (sA s 74 (upd (s.2.1 74) (x2).toNatClampNeg (-1 : Int32))) k) ?_
      rintro _ _ ⟨r2, s1, rfl, rfl, k⟩
      show Ex sc (d + 1) 197 21 [.ref 55, .int x1, .int x2, pu] [.int r2, .int x2, .ref 73] (hpS s1) _
      obtain ⟨hin, k⟩ := k
      refine Ex.ias hq rfl rfl hin (h' := hpS (sA s1 73 (upd (s1.2.1 73) (x2).toNatClampNeg r2))) (hset_73 _ _) ?_
      refine Ex.seg hq 3 (j := 25) (L' := [.ref 55, .int x1, .int x2, pu]) (S' := [.int x2, .ref 73]) (h' := hpS (sA s1 73 (upd (s1.2.1 73) (x2).toNatClampNeg r2))) rfl ?_
      obtain ⟨hin, k⟩ := k
      refine Ex.ial hq rfl rfl hin ?_
      refine Ex.i1 hq rfl (fun c => ?_) (fun c => ?_)
      · have k := k.1 c
        refine Ex.seg hq 3 (j := 31) (L' := [.ref 55, .int x1, .int x2, .int (s1.1 5520)]) (S' := []) (h' := hpS (sA s1 73 (upd (s1.2.1 73) (x2).toNatClampNeg r2))) rfl ?_
        obtain ⟨m, k⟩ := k
        refine q_197_L31 (d := d) m x1 x2 (s1.1 5520) (sA s1 73 (upd (s1.2.1 73) (x2).toNatClampNeg r2)) k ?_
        · intro y1 y2 y3 s3 k
          refine Ex.seg hq 4 (j := 62) (L' := [.ref 55, .int y1, .int y2, .int y3]) (S' := [.int y2, .int y3, .ref 72]) (h' := hpS s3) rfl ?_
          obtain ⟨hin, k⟩ := k
          refine Ex.ias hq rfl rfl hin (h' := hpS (sA s3 72 (upd (s3.2.1 72) (y3).toNatClampNeg y2))) (hset_72 _ _) ?_
          refine Ex.seg hq 8 (j := 5) (L' := [.ref 55, .int y1, .int (y2 + (1 : Int32)), .int y3]) (S' := []) (h' := hpS (sA (sI s3 5520 ((s3.1 5520) + (1 : Int32))) 72 (upd (s3.2.1 72) (y3).toNatClampNeg y2))) rfl ?_
          refine Ex.fg (L := [.ref 55, .int y1, .int (y2 + (1 : Int32)), pu]) ⟨Or.inl rfl, ⟨Or.inl rfl, ⟨Or.inl rfl, ⟨Or.inr ⟨rfl, rfl⟩, trivial⟩⟩⟩⟩ ?_
          exact ih y1 (y2 + (1 : Int32)) (sA (sI s3 5520 ((s3.1 5520) + (1 : Int32))) 72 (upd (s3.2.1 72) (y3).toNatClampNeg y2)) k hX71
      · have k := k.2 c
        refine Ex.seg hq 3 (j := 5) (L' := [.ref 55, .int x1, .int (x2 + (1 : Int32)), pu]) (S' := []) (h' := hpS (sA s1 73 (upd (s1.2.1 73) (x2).toNatClampNeg r2))) rfl ?_
        exact ih x1 (x2 + (1 : Int32)) (sA s1 73 (upd (s1.2.1 73) (x2).toNatClampNeg r2)) k hX71
def w_197_L73 : Nat → Int32 → ST → (ST → Prop) → (ST → Prop) → Prop
  | 0, _, _, _, _ => False
  | n + 1, x2, s, X87, K => (((s.1 5520) ≤ x2 → X87  s) ∧ (¬ ((s.1 5520) ≤ x2) → (pin x2 150 = true ∧ (pin ((s.2.1 72) (x2).toNatClampNeg) 150 = true ∧ w_197_L73 n (x2 + (1 : Int32)) (sA s 74 (upd (s.2.1 74) (((s.2.1 72) (x2).toNatClampNeg)).toNatClampNeg x2)) X87 K))))
theorem q_197_L73 {d : Nat} {X87 : ST → Prop} {K : ST → Prop} : ∀ (n : Nat) (x2 : Int32) (s : ST), w_197_L73 n x2 s X87 K → (∀ (s : ST), X87  s → Ex sc (d + 1) 197 87 [pu, pu, pu, pu] [] (hpS s) (kV K)) → Ex sc (d + 1) 197 73 [.ref 55, pu, .int x2, pu] [] (hpS s) (kV K) := by
  have hq : prog[197]? = some pm197 := rfl
  intro n
  induction n with
  | zero =>
    intro x2 s k
    exact k.elim
  | succ n ih =>
    intro x2 s k hX87
    rw [w_197_L73] at k
    refine Ex.seg hq 3 (j := 76) (L' := [.ref 55, pu, .int x2, pu]) (S' := [.int (s.1 5520), .int x2]) (h' := hpS s) rfl ?_
    refine Ex.i2 hq rfl (fun c => ?_) (fun c => ?_)
    · have k := k.1 c
      refine Ex.fg (L := [pu, pu, pu, pu]) ⟨Or.inr ⟨rfl, rfl⟩, ⟨Or.inl rfl, ⟨Or.inr ⟨rfl, rfl⟩, ⟨Or.inl rfl, trivial⟩⟩⟩⟩ ?_
      exact hX87  s k
    · have k := k.2 c
      refine Ex.seg hq 5 (j := 82) (L' := [.ref 55, pu, .int x2, pu]) (S' := [.int x2, .ref 72, .ref 74]) (h' := hpS s) rfl ?_
      obtain ⟨hin, k⟩ := k
      refine Ex.ial hq rfl rfl hin ?_
      refine Ex.seg hq 1 (j := 84) (L' := [.ref 55, pu, .int x2, pu]) (S' := [.int x2, .int ((s.2.1 72) (x2).toNatClampNeg), .ref 74]) (h' := hpS s) rfl ?_
      obtain ⟨hin, k⟩ := k
      refine Ex.ias hq rfl rfl hin (h' := hpS (sA s 74 (upd (s.2.1 74) (((s.2.1 72) (x2).toNatClampNeg)).toNatClampNeg x2))) (hset_74 _ _) ?_
      refine Ex.seg hq 2 (j := 73) (L' := [.ref 55, pu, .int (x2 + (1 : Int32)), pu]) (S' := []) (h' := hpS (sA s 74 (upd (s.2.1 74) (((s.2.1 72) (x2).toNatClampNeg)).toNatClampNeg x2))) rfl ?_
      exact ih (x2 + (1 : Int32)) (sA s 74 (upd (s.2.1 74) (((s.2.1 72) (x2).toNatClampNeg)).toNatClampNeg x2)) k hX87
/-- RowAuditorModel.orders(I)V -/
def w_197 (p1 : Int32) (s : ST) (K : ST → Prop) : Prop := (∃ m, w_197_L5 m p1 (0 : Int32) (sI s 5520 (0 : Int32)) (fun s4 => (∃ m, w_197_L73 m (0 : Int32) s4 (fun s5 => K s5) K)) K)
theorem q_197 {d : Nat} {K : ST → Prop} (p1 : Int32) (s : ST) (k : w_197 p1 s K) : Rn sc (d + 1) 197 [.ref 55, .int p1] (hpS s) (kV K) := by
  have hq : prog[197]? = some pm197 := rfl
  refine Rn.of (L := [.ref 55, .int p1, pu, pu]) hq rfl rfl ?_
  unfold w_197 at k
  refine Ex.seg hq 5 (j := 5) (L' := [.ref 55, .int p1, .int (0 : Int32), pu]) (S' := []) (h' := hpS (sI s 5520 (0 : Int32))) rfl ?_
  obtain ⟨m, k⟩ := k
  refine q_197_L5 (d := d) m p1 (0 : Int32) (sI s 5520 (0 : Int32)) k ?_
  · intro s4 k
    refine Ex.seg hq 2 (j := 73) (L' := [.ref 55, pu, .int (0 : Int32), pu]) (S' := []) (h' := hpS s4) rfl ?_
    obtain ⟨m, k⟩ := k
    refine q_197_L73 (d := d) m (0 : Int32) s4 k ?_
    · intro s5 k
      exact Ex.rt hq rfl rfl ⟨s5, rfl, rfl, k⟩
/-- RowAuditorModel.known(III)I -/
def w_198 (p1 : Int32) (p2 : Int32) (p3 : Int32) (s : ST) (K : Int32 → ST → Prop) : Prop := w_190 p1 s (fun r2 s1 => ((r2 = 0 → K (-1 : Int32) s1) ∧ (¬ (r2 = 0) → w_187 p2 s1 (fun r4 s3 => ((r4 = 0 → K (-1 : Int32) s3) ∧ (¬ (r4 = 0) → w_186 p3 (0 : Int32) (1 : Int32) s3 (fun r6 s5 => ((¬ r6 = 0 → w_197 p2 s5 (fun s7 => (pin p1 150 = true ∧ ((¬ ((s7.2.1 74) (p1).toNatClampNeg) = (-1 : Int32) → ((¬ p3 = 0 → (pin p1 150 = true ∧ K ((s7.2.1 74) (p1).toNatClampNeg) s7)) ∧ (¬ (¬ p3 = 0) → (pin p1 150 = true ∧ K ((s7.2.1 73) (p1).toNatClampNeg) s7)))) ∧ (¬ (¬ ((s7.2.1 74) (p1).toNatClampNeg) = (-1 : Int32)) → K (-1 : Int32) s7))))) ∧ (¬ (¬ r6 = 0) → K (-1 : Int32) s5)))))))))
theorem q_198 {d : Nat} {K : Int32 → ST → Prop} (p1 : Int32) (p2 : Int32) (p3 : Int32) (s : ST) (k : w_198 p1 p2 p3 s K) : Rn sc (d + 2) 198 [.ref 55, .int p1, .int p2, .int p3] (hpS s) (kI K) := by
  have hq : prog[198]? = some pm198 := rfl
  refine Rn.of (L := [.ref 55, .int p1, .int p2, .int p3]) hq rfl rfl ?_
  unfold w_198 at k
  refine Ex.seg hq 2 (j := 2) (L' := [.ref 55, .int p1, .int p2, .int p3]) (S' := [.int p1, .ref 55]) (h' := hpS s) rfl ?_
  refine Ex.cl hq rfl rfl ?_
  refine Rn.mono (q_190 (d := d + 1) p1 s k) ?_
  rintro _ _ ⟨r2, s1, rfl, hzr2, rfl, k⟩
  show Ex sc (d + 2) 198 3 [.ref 55, .int p1, .int p2, .int p3] [.int r2] (hpS s1) _
  refine Ex.i1 hq rfl (fun c => ?_) (fun c => ?_)
  · have k := k.1 c
    refine Ex.seg hq 1 (j := 13) (L' := [.ref 55, .int p1, .int p2, .int p3]) (S' := [.int (-1 : Int32)]) (h' := hpS s1) rfl ?_
    exact Ex.rt hq rfl rfl ⟨(-1 : Int32), s1, rfl, rfl, k⟩
  · have k := k.2 c
    refine Ex.seg hq 1 (j := 5) (L' := [.ref 55, .int p1, .int p2, .int p3]) (S' := [.int p2]) (h' := hpS s1) rfl ?_
    refine Ex.cl hq rfl rfl ?_
    refine Rn.mono (q_187 (d := d + 1) p2 s1 k) ?_
    rintro _ _ ⟨r4, s3, rfl, hzr4, rfl, k⟩
    show Ex sc (d + 2) 198 6 [.ref 55, .int p1, .int p2, .int p3] [.int r4] (hpS s3) _
    refine Ex.i1 hq rfl (fun c => ?_) (fun c => ?_)
    · have k := k.1 c
      refine Ex.seg hq 1 (j := 13) (L' := [.ref 55, .int p1, .int p2, .int p3]) (S' := [.int (-1 : Int32)]) (h' := hpS s3) rfl ?_
      exact Ex.rt hq rfl rfl ⟨(-1 : Int32), s3, rfl, rfl, k⟩
    · have k := k.2 c
      refine Ex.seg hq 3 (j := 10) (L' := [.ref 55, .int p1, .int p2, .int p3]) (S' := [.int (1 : Int32), .int (0 : Int32), .int p3]) (h' := hpS s3) rfl ?_
      refine Ex.cl hq rfl rfl ?_
      refine Rn.mono (q_186 (d := d + 1) p3 (0 : Int32) (1 : Int32) s3 k) ?_
      rintro _ _ ⟨r6, s5, rfl, hzr6, rfl, k⟩
      show Ex sc (d + 2) 198 11 [.ref 55, .int p1, .int p2, .int p3] [.int r6] (hpS s5) _
      refine Ex.i1 hq rfl (fun c => ?_) (fun c => ?_)
      · have k := k.1 c
        refine Ex.seg hq 2 (j := 16) (L' := [.ref 55, .int p1, .int p2, .int p3]) (S' := [.int p2, .ref 55]) (h' := hpS s5) rfl ?_
        refine Ex.cl hq rfl rfl ?_
        refine Rn.mono (q_197 (d := d + 0) p2 s5 k) ?_
        rintro _ _ ⟨s7, rfl, rfl, k⟩
        show Ex sc (d + 2) 198 17 [.ref 55, .int p1, .int p2, .int p3] [] (hpS s7) _
        refine Ex.seg hq 3 (j := 20) (L' := [.ref 55, .int p1, .int p2, .int p3]) (S' := [.int p1, .ref 74]) (h' := hpS s7) rfl ?_
        obtain ⟨hin, k⟩ := k
        refine Ex.ial hq rfl rfl hin ?_
        refine Ex.seg hq 1 (j := 22) (L' := [.ref 55, .int p1, .int p2, .int p3]) (S' := [.int (-1 : Int32), .int ((s7.2.1 74) (p1).toNatClampNeg)]) (h' := hpS s7) rfl ?_
        refine Ex.i2 hq rfl (fun c => ?_) (fun c => ?_)
        · have k := k.1 c
          refine Ex.seg hq 1 (j := 26) (L' := [.ref 55, .int p1, .int p2, .int p3]) (S' := [.int p3]) (h' := hpS s7) rfl ?_
          refine Ex.i1 hq rfl (fun c => ?_) (fun c => ?_)
          · have k := k.1 c
            refine Ex.seg hq 3 (j := 35) (L' := [.ref 55, .int p1, .int p2, .int p3]) (S' := [.int p1, .ref 74]) (h' := hpS s7) rfl ?_
            obtain ⟨hin, k⟩ := k
            refine Ex.ial hq rfl rfl hin ?_
            exact Ex.rt hq rfl rfl ⟨((s7.2.1 74) (p1).toNatClampNeg), s7, rfl, rfl, k⟩
          · have k := k.2 c
            refine Ex.seg hq 3 (j := 30) (L' := [.ref 55, .int p1, .int p2, .int p3]) (S' := [.int p1, .ref 73]) (h' := hpS s7) rfl ?_
            obtain ⟨hin, k⟩ := k
            refine Ex.ial hq rfl rfl hin ?_
            refine Ex.seg hq 1 (j := 36) (L' := [.ref 55, .int p1, .int p2, .int p3]) (S' := [.int ((s7.2.1 73) (p1).toNatClampNeg)]) (h' := hpS s7) rfl ?_
            exact Ex.rt hq rfl rfl ⟨((s7.2.1 73) (p1).toNatClampNeg), s7, rfl, rfl, k⟩
        · have k := k.2 c
          refine Ex.seg hq 1 (j := 24) (L' := [.ref 55, .int p1, .int p2, .int p3]) (S' := [.int (-1 : Int32)]) (h' := hpS s7) rfl ?_
          exact Ex.rt hq rfl rfl ⟨(-1 : Int32), s7, rfl, rfl, k⟩
      · have k := k.2 c
        refine Ex.seg hq 1 (j := 13) (L' := [.ref 55, .int p1, .int p2, .int p3]) (S' := [.int (-1 : Int32)]) (h' := hpS s5) rfl ?_
        exact Ex.rt hq rfl rfl ⟨(-1 : Int32), s5, rfl, rfl, k⟩
def w_199_L22 : Nat → Int32 → Int32 → Int32 → Int32 → ST → (Int32 → ST → Prop) → (Int32 → ST → Prop) → Prop
  | 0, _, _, _, _, _, _, _ => False
  | n + 1, x1, x2, x4, x5, s, X101, K => (((s.1 5520) ≤ x5 → X101 x4 s) ∧ (¬ ((s.1 5520) ≤ x5) → (pin x5 150 = true ∧ (pin ((s.2.1 72) (x5).toNatClampNeg) 150 = true ∧ ((x2 < ((s.2.1 60) (((s.2.1 72) (x5).toNatClampNeg)).toNatClampNeg) → w_199_L22 n x1 x2 x4 (x5 + (1 : Int32)) s X101 K) ∧ (¬ (x2 < ((s.2.1 60) (((s.2.1 72) (x5).toNatClampNeg)).toNatClampNeg)) → (pin ((s.2.1 72) (x5).toNatClampNeg) 150 = true ∧ ((¬ ((s.2.1 57) (((s.2.1 72) (x5).toNatClampNeg)).toNatClampNeg) = (3 : Int32) → (pin ((s.2.1 72) (x5).toNatClampNeg) 150 = true ∧ ((¬ ((s.2.1 57) (((s.2.1 72) (x5).toNatClampNeg)).toNatClampNeg) = 0 → (pin ((s.2.1 72) (x5).toNatClampNeg) 150 = true ∧ ((¬ ((s.2.1 58) (((s.2.1 72) (x5).toNatClampNeg)).toNatClampNeg) = x1 → (pin ((s.2.1 72) (x5).toNatClampNeg) 150 = true ∧ ((¬ ((s.2.1 57) (((s.2.1 72) (x5).toNatClampNeg)).toNatClampNeg) = (2 : Int32) → w_199_L22 n x1 x2 ((x4 - (0 : Int32)) + (0 : Int32)) (x5 + (1 : Int32)) s X101 K) ∧ (¬ (¬ ((s.2.1 57) (((s.2.1 72) (x5).toNatClampNeg)).toNatClampNeg) = (2 : Int32)) → (pin ((s.2.1 72) (x5).toNatClampNeg) 150 = true ∧ ((¬ ((s.2.1 59) (((s.2.1 72) (x5).toNatClampNeg)).toNatClampNeg) = x1 → w_199_L22 n x1 x2 ((x4 - (0 : Int32)) + (0 : Int32)) (x5 + (1 : Int32)) s X101 K) ∧ (¬ (¬ ((s.2.1 59) (((s.2.1 72) (x5).toNatClampNeg)).toNatClampNeg) = x1) → (pin ((s.2.1 72) (x5).toNatClampNeg) 150 = true ∧ w_199_L22 n x1 x2 ((x4 - (0 : Int32)) + ((s.2.1 73) (((s.2.1 72) (x5).toNatClampNeg)).toNatClampNeg)) (x5 + (1 : Int32)) s X101 K)))))))) ∧ (¬ (¬ ((s.2.1 58) (((s.2.1 72) (x5).toNatClampNeg)).toNatClampNeg) = x1) → (pin ((s.2.1 72) (x5).toNatClampNeg) 150 = true ∧ (pin ((s.2.1 72) (x5).toNatClampNeg) 150 = true ∧ ((¬ ((s.2.1 57) (((s.2.1 72) (x5).toNatClampNeg)).toNatClampNeg) = (2 : Int32) → w_199_L22 n x1 x2 ((x4 - ((s.2.1 73) (((s.2.1 72) (x5).toNatClampNeg)).toNatClampNeg)) + (0 : Int32)) (x5 + (1 : Int32)) s X101 K) ∧ (¬ (¬ ((s.2.1 57) (((s.2.1 72) (x5).toNatClampNeg)).toNatClampNeg) = (2 : Int32)) → (pin ((s.2.1 72) (x5).toNatClampNeg) 150 = true ∧ ((¬ ((s.2.1 59) (((s.2.1 72) (x5).toNatClampNeg)).toNatClampNeg) = x1 → w_199_L22 n x1 x2 ((x4 - ((s.2.1 73) (((s.2.1 72) (x5).toNatClampNeg)).toNatClampNeg)) + (0 : Int32)) (x5 + (1 : Int32)) s X101 K) ∧ (¬ (¬ ((s.2.1 59) (((s.2.1 72) (x5).toNatClampNeg)).toNatClampNeg) = x1) → (pin ((s.2.1 72) (x5).toNatClampNeg) 150 = true ∧ w_199_L22 n x1 x2 ((x4 - ((s.2.1 73) (((s.2.1 72) (x5).toNatClampNeg)).toNatClampNeg)) + ((s.2.1 73) (((s.2.1 72) (x5).toNatClampNeg)).toNatClampNeg)) (x5 + (1 : Int32)) s X101 K)))))))))))) ∧ (¬ (¬ ((s.2.1 57) (((s.2.1 72) (x5).toNatClampNeg)).toNatClampNeg) = 0) → (pin ((s.2.1 72) (x5).toNatClampNeg) 150 = true ∧ ((¬ ((s.2.1 58) (((s.2.1 72) (x5).toNatClampNeg)).toNatClampNeg) = x1 → w_199_L22 n x1 x2 (x4 + (0 : Int32)) (x5 + (1 : Int32)) s X101 K) ∧ (¬ (¬ ((s.2.1 58) (((s.2.1 72) (x5).toNatClampNeg)).toNatClampNeg) = x1) → (pin ((s.2.1 72) (x5).toNatClampNeg) 150 = true ∧ w_199_L22 n x1 x2 (x4 + ((s.2.1 73) (((s.2.1 72) (x5).toNatClampNeg)).toNatClampNeg)) (x5 + (1 : Int32)) s X101 K)))))))) ∧ (¬ (¬ ((s.2.1 57) (((s.2.1 72) (x5).toNatClampNeg)).toNatClampNeg) = (3 : Int32)) → w_199_L22 n x1 x2 x4 (x5 + (1 : Int32)) s X101 K)))))))))
theorem q_199_L22 {d : Nat} {X101 : Int32 → ST → Prop} {K : Int32 → ST → Prop} : ∀ (n : Nat) (x1 : Int32) (x2 : Int32) (x4 : Int32) (x5 : Int32) (s : ST), w_199_L22 n x1 x2 x4 x5 s X101 K → (∀ (y4 : Int32) (s : ST), X101 y4 s → Ex sc (d + 2) 199 101 [pu, pu, pu, pu, .int y4, pu, pu] [] (hpS s) (kI K)) → Ex sc (d + 2) 199 22 [.ref 55, .int x1, .int x2, pu, .int x4, .int x5, pu] [] (hpS s) (kI K) := by
  have hq : prog[199]? = some pm199 := rfl
  intro n
  induction n with
  | zero =>
    intro x1 x2 x4 x5 s k
    exact k.elim
  | succ n ih =>
    intro x1 x2 x4 x5 s k hX101
    rw [w_199_L22] at k
    refine Ex.seg hq 3 (j := 25) (L' := [.ref 55, .int x1, .int x2, pu, .int x4, .int x5, pu]) (S' := [.int (s.1 5520), .int x5]) (h' := hpS s) rfl ?_
    refine Ex.i2 hq rfl (fun c => ?_) (fun c => ?_)
    · have k := k.1 c
      refine Ex.fg (L := [pu, pu, pu, pu, .int x4, pu, pu]) ⟨Or.inr ⟨rfl, rfl⟩, ⟨Or.inr ⟨rfl, rfl⟩, ⟨Or.inr ⟨rfl, rfl⟩, ⟨Or.inl rfl, ⟨Or.inl rfl, ⟨Or.inr ⟨rfl, rfl⟩, ⟨Or.inl rfl, trivial⟩⟩⟩⟩⟩⟩⟩ ?_
      exact hX101 x4 s k
    · have k := k.2 c
      refine Ex.seg hq 3 (j := 29) (L' := [.ref 55, .int x1, .int x2, pu, .int x4, .int x5, pu]) (S' := [.int x5, .ref 72]) (h' := hpS s) rfl ?_
      obtain ⟨hin, k⟩ := k
      refine Ex.ial hq rfl rfl hin ?_
      refine Ex.seg hq 4 (j := 34) (L' := [.ref 55, .int x1, .int x2, pu, .int x4, .int x5, .int ((s.2.1 72) (x5).toNatClampNeg)]) (S' := [.int ((s.2.1 72) (x5).toNatClampNeg), .ref 60]) (h' := hpS s) rfl ?_
      obtain ⟨hin, k⟩ := k
      refine Ex.ial hq rfl rfl hin ?_
      refine Ex.seg hq 1 (j := 36) (L' := [.ref 55, .int x1, .int x2, pu, .int x4, .int x5, .int ((s.2.1 72) (x5).toNatClampNeg)]) (S' := [.int x2, .int ((s.2.1 60) (((s.2.1 72) (x5).toNatClampNeg)).toNatClampNeg)]) (h' := hpS s) rfl ?_
      refine Ex.i2 hq rfl (fun c => ?_) (fun c => ?_)
      · have k := k.1 c
        refine Ex.seg hq 2 (j := 22) (L' := [.ref 55, .int x1, .int x2, pu, .int x4, .int (x5 + (1 : Int32)), .int ((s.2.1 72) (x5).toNatClampNeg)]) (S' := []) (h' := hpS s) rfl ?_
        refine Ex.fg (L := [.ref 55, .int x1, .int x2, pu, .int x4, .int (x5 + (1 : Int32)), pu]) ⟨Or.inl rfl, ⟨Or.inl rfl, ⟨Or.inl rfl, ⟨Or.inl rfl, ⟨Or.inl rfl, ⟨Or.inl rfl, ⟨Or.inr ⟨rfl, rfl⟩, trivial⟩⟩⟩⟩⟩⟩⟩ ?_
        exact ih x1 x2 x4 (x5 + (1 : Int32)) s k hX101
      · have k := k.2 c
        refine Ex.seg hq 3 (j := 40) (L' := [.ref 55, .int x1, .int x2, pu, .int x4, .int x5, .int ((s.2.1 72) (x5).toNatClampNeg)]) (S' := [.int ((s.2.1 72) (x5).toNatClampNeg), .ref 57]) (h' := hpS s) rfl ?_
        obtain ⟨hin, k⟩ := k
        refine Ex.ial hq rfl rfl hin ?_
        refine Ex.seg hq 1 (j := 42) (L' := [.ref 55, .int x1, .int x2, pu, .int x4, .int x5, .int ((s.2.1 72) (x5).toNatClampNeg)]) (S' := [.int (3 : Int32), .int ((s.2.1 57) (((s.2.1 72) (x5).toNatClampNeg)).toNatClampNeg)]) (h' := hpS s) rfl ?_
        refine Ex.i2 hq rfl (fun c => ?_) (fun c => ?_)
        · have k := k.1 c
          refine Ex.seg hq 3 (j := 47) (L' := [.ref 55, .int x1, .int x2, pu, .int x4, .int x5, .int ((s.2.1 72) (x5).toNatClampNeg)]) (S' := [.int ((s.2.1 72) (x5).toNatClampNeg), .ref 57]) (h' := hpS s) rfl ?_
          obtain ⟨hin, k⟩ := k
          refine Ex.ial hq rfl rfl hin ?_
          refine Ex.i1 hq rfl (fun c => ?_) (fun c => ?_)
          · have k := k.1 c
            refine Ex.seg hq 4 (j := 69) (L' := [.ref 55, .int x1, .int x2, pu, .int x4, .int x5, .int ((s.2.1 72) (x5).toNatClampNeg)]) (S' := [.int ((s.2.1 72) (x5).toNatClampNeg), .ref 58, .int x4]) (h' := hpS s) rfl ?_
            obtain ⟨hin, k⟩ := k
            refine Ex.ial hq rfl rfl hin ?_
            refine Ex.seg hq 1 (j := 71) (L' := [.ref 55, .int x1, .int x2, pu, .int x4, .int x5, .int ((s.2.1 72) (x5).toNatClampNeg)]) (S' := [.int x1, .int ((s.2.1 58) (((s.2.1 72) (x5).toNatClampNeg)).toNatClampNeg), .int x4]) (h' := hpS s) rfl ?_
            refine Ex.i2 hq rfl (fun c => ?_) (fun c => ?_)
            · have k := k.1 c
              refine Ex.seg hq 5 (j := 82) (L' := [.ref 55, .int x1, .int x2, pu, .int x4, .int x5, .int ((s.2.1 72) (x5).toNatClampNeg)]) (S' := [.int ((s.2.1 72) (x5).toNatClampNeg), .ref 57, .int (x4 - (0 : Int32))]) (h' := hpS s) rfl ?_
              obtain ⟨hin, k⟩ := k
              refine Ex.ial hq rfl rfl hin ?_
              refine Ex.seg hq 1 (j := 84) (L' := [.ref 55, .int x1, .int x2, pu, .int x4, .int x5, .int ((s.2.1 72) (x5).toNatClampNeg)]) (S' := [.int (2 : Int32), .int ((s.2.1 57) (((s.2.1 72) (x5).toNatClampNeg)).toNatClampNeg), .int (x4 - (0 : Int32))]) (h' := hpS s) rfl ?_
              refine Ex.i2 hq rfl (fun c => ?_) (fun c => ?_)
              · have k := k.1 c
                refine Ex.seg hq 5 (j := 22) (L' := [.ref 55, .int x1, .int x2, pu, .int ((x4 - (0 : Int32)) + (0 : Int32)), .int (x5 + (1 : Int32)), .int ((s.2.1 72) (x5).toNatClampNeg)]) (S' := []) (h' := hpS s) rfl ?_
                refine Ex.fg (L := [.ref 55, .int x1, .int x2, pu, .int ((x4 - (0 : Int32)) + (0 : Int32)), .int (x5 + (1 : Int32)), pu]) ⟨Or.inl rfl, ⟨Or.inl rfl, ⟨Or.inl rfl, ⟨Or.inl rfl, ⟨Or.inl rfl, ⟨Or.inl rfl, ⟨Or.inr ⟨rfl, rfl⟩, trivial⟩⟩⟩⟩⟩⟩⟩ ?_
                exact ih x1 x2 ((x4 - (0 : Int32)) + (0 : Int32)) (x5 + (1 : Int32)) s k hX101
              · have k := k.2 c
                refine Ex.seg hq 3 (j := 88) (L' := [.ref 55, .int x1, .int x2, pu, .int x4, .int x5, .int ((s.2.1 72) (x5).toNatClampNeg)]) (S' := [.int ((s.2.1 72) (x5).toNatClampNeg), .ref 59, .int (x4 - (0 : Int32))]) (h' := hpS s) rfl ?_
                obtain ⟨hin, k⟩ := k
                refine Ex.ial hq rfl rfl hin ?_
                refine Ex.seg hq 1 (j := 90) (L' := [.ref 55, .int x1, .int x2, pu, .int x4, .int x5, .int ((s.2.1 72) (x5).toNatClampNeg)]) (S' := [.int x1, .int ((s.2.1 59) (((s.2.1 72) (x5).toNatClampNeg)).toNatClampNeg), .int (x4 - (0 : Int32))]) (h' := hpS s) rfl ?_
                refine Ex.i2 hq rfl (fun c => ?_) (fun c => ?_)
                · have k := k.1 c
                  refine Ex.seg hq 5 (j := 22) (L' := [.ref 55, .int x1, .int x2, pu, .int ((x4 - (0 : Int32)) + (0 : Int32)), .int (x5 + (1 : Int32)), .int ((s.2.1 72) (x5).toNatClampNeg)]) (S' := []) (h' := hpS s) rfl ?_
                  refine Ex.fg (L := [.ref 55, .int x1, .int x2, pu, .int ((x4 - (0 : Int32)) + (0 : Int32)), .int (x5 + (1 : Int32)), pu]) ⟨Or.inl rfl, ⟨Or.inl rfl, ⟨Or.inl rfl, ⟨Or.inl rfl, ⟨Or.inl rfl, ⟨Or.inl rfl, ⟨Or.inr ⟨rfl, rfl⟩, trivial⟩⟩⟩⟩⟩⟩⟩ ?_
                  exact ih x1 x2 ((x4 - (0 : Int32)) + (0 : Int32)) (x5 + (1 : Int32)) s k hX101
                · have k := k.2 c
                  refine Ex.seg hq 3 (j := 94) (L' := [.ref 55, .int x1, .int x2, pu, .int x4, .int x5, .int ((s.2.1 72) (x5).toNatClampNeg)]) (S' := [.int ((s.2.1 72) (x5).toNatClampNeg), .ref 73, .int (x4 - (0 : Int32))]) (h' := hpS s) rfl ?_
                  obtain ⟨hin, k⟩ := k
                  refine Ex.ial hq rfl rfl hin ?_
                  refine Ex.seg hq 5 (j := 22) (L' := [.ref 55, .int x1, .int x2, pu, .int ((x4 - (0 : Int32)) + ((s.2.1 73) (((s.2.1 72) (x5).toNatClampNeg)).toNatClampNeg)), .int (x5 + (1 : Int32)), .int ((s.2.1 72) (x5).toNatClampNeg)]) (S' := []) (h' := hpS s) rfl ?_
                  refine Ex.fg (L := [.ref 55, .int x1, .int x2, pu, .int ((x4 - (0 : Int32)) + ((s.2.1 73) (((s.2.1 72) (x5).toNatClampNeg)).toNatClampNeg)), .int (x5 + (1 : Int32)), pu]) ⟨Or.inl rfl, ⟨Or.inl rfl, ⟨Or.inl rfl, ⟨Or.inl rfl, ⟨Or.inl rfl, ⟨Or.inl rfl, ⟨Or.inr ⟨rfl, rfl⟩, trivial⟩⟩⟩⟩⟩⟩⟩ ?_
                  exact ih x1 x2 ((x4 - (0 : Int32)) + ((s.2.1 73) (((s.2.1 72) (x5).toNatClampNeg)).toNatClampNeg)) (x5 + (1 : Int32)) s k hX101
            · have k := k.2 c
              refine Ex.seg hq 3 (j := 75) (L' := [.ref 55, .int x1, .int x2, pu, .int x4, .int x5, .int ((s.2.1 72) (x5).toNatClampNeg)]) (S' := [.int ((s.2.1 72) (x5).toNatClampNeg), .ref 73, .int x4]) (h' := hpS s) rfl ?_
              obtain ⟨hin, k⟩ := k
              refine Ex.ial hq rfl rfl hin ?_
              refine Ex.seg hq 5 (j := 82) (L' := [.ref 55, .int x1, .int x2, pu, .int x4, .int x5, .int ((s.2.1 72) (x5).toNatClampNeg)]) (S' := [.int ((s.2.1 72) (x5).toNatClampNeg), .ref 57, .int (x4 - ((s.2.1 73) (((s.2.1 72) (x5).toNatClampNeg)).toNatClampNeg))]) (h' := hpS s) rfl ?_
              obtain ⟨hin, k⟩ := k
              refine Ex.ial hq rfl rfl hin ?_
              refine Ex.seg hq 1 (j := 84) (L' := [.ref 55, .int x1, .int x2, pu, .int x4, .int x5, .int ((s.2.1 72) (x5).toNatClampNeg)]) (S' := [.int (2 : Int32), .int ((s.2.1 57) (((s.2.1 72) (x5).toNatClampNeg)).toNatClampNeg), .int (x4 - ((s.2.1 73) (((s.2.1 72) (x5).toNatClampNeg)).toNatClampNeg))]) (h' := hpS s) rfl ?_
              refine Ex.i2 hq rfl (fun c => ?_) (fun c => ?_)
              · have k := k.1 c
                refine Ex.seg hq 5 (j := 22) (L' := [.ref 55, .int x1, .int x2, pu, .int ((x4 - ((s.2.1 73) (((s.2.1 72) (x5).toNatClampNeg)).toNatClampNeg)) + (0 : Int32)), .int (x5 + (1 : Int32)), .int ((s.2.1 72) (x5).toNatClampNeg)]) (S' := []) (h' := hpS s) rfl ?_
                refine Ex.fg (L := [.ref 55, .int x1, .int x2, pu, .int ((x4 - ((s.2.1 73) (((s.2.1 72) (x5).toNatClampNeg)).toNatClampNeg)) + (0 : Int32)), .int (x5 + (1 : Int32)), pu]) ⟨Or.inl rfl, ⟨Or.inl rfl, ⟨Or.inl rfl, ⟨Or.inl rfl, ⟨Or.inl rfl, ⟨Or.inl rfl, ⟨Or.inr ⟨rfl, rfl⟩, trivial⟩⟩⟩⟩⟩⟩⟩ ?_
                exact ih x1 x2 ((x4 - ((s.2.1 73) (((s.2.1 72) (x5).toNatClampNeg)).toNatClampNeg)) + (0 : Int32)) (x5 + (1 : Int32)) s k hX101
              · have k := k.2 c
                refine Ex.seg hq 3 (j := 88) (L' := [.ref 55, .int x1, .int x2, pu, .int x4, .int x5, .int ((s.2.1 72) (x5).toNatClampNeg)]) (S' := [.int ((s.2.1 72) (x5).toNatClampNeg), .ref 59, .int (x4 - ((s.2.1 73) (((s.2.1 72) (x5).toNatClampNeg)).toNatClampNeg))]) (h' := hpS s) rfl ?_
                obtain ⟨hin, k⟩ := k
                refine Ex.ial hq rfl rfl hin ?_
                refine Ex.seg hq 1 (j := 90) (L' := [.ref 55, .int x1, .int x2, pu, .int x4, .int x5, .int ((s.2.1 72) (x5).toNatClampNeg)]) (S' := [.int x1, .int ((s.2.1 59) (((s.2.1 72) (x5).toNatClampNeg)).toNatClampNeg), .int (x4 - ((s.2.1 73) (((s.2.1 72) (x5).toNatClampNeg)).toNatClampNeg))]) (h' := hpS s) rfl ?_
                refine Ex.i2 hq rfl (fun c => ?_) (fun c => ?_)
                · have k := k.1 c
                  refine Ex.seg hq 5 (j := 22) (L' := [.ref 55, .int x1, .int x2, pu, .int ((x4 - ((s.2.1 73) (((s.2.1 72) (x5).toNatClampNeg)).toNatClampNeg)) + (0 : Int32)), .int (x5 + (1 : Int32)), .int ((s.2.1 72) (x5).toNatClampNeg)]) (S' := []) (h' := hpS s) rfl ?_
                  refine Ex.fg (L := [.ref 55, .int x1, .int x2, pu, .int ((x4 - ((s.2.1 73) (((s.2.1 72) (x5).toNatClampNeg)).toNatClampNeg)) + (0 : Int32)), .int (x5 + (1 : Int32)), pu]) ⟨Or.inl rfl, ⟨Or.inl rfl, ⟨Or.inl rfl, ⟨Or.inl rfl, ⟨Or.inl rfl, ⟨Or.inl rfl, ⟨Or.inr ⟨rfl, rfl⟩, trivial⟩⟩⟩⟩⟩⟩⟩ ?_
                  exact ih x1 x2 ((x4 - ((s.2.1 73) (((s.2.1 72) (x5).toNatClampNeg)).toNatClampNeg)) + (0 : Int32)) (x5 + (1 : Int32)) s k hX101
                · have k := k.2 c
                  refine Ex.seg hq 3 (j := 94) (L' := [.ref 55, .int x1, .int x2, pu, .int x4, .int x5, .int ((s.2.1 72) (x5).toNatClampNeg)]) (S' := [.int ((s.2.1 72) (x5).toNatClampNeg), .ref 73, .int (x4 - ((s.2.1 73) (((s.2.1 72) (x5).toNatClampNeg)).toNatClampNeg))]) (h' := hpS s) rfl ?_
                  obtain ⟨hin, k⟩ := k
                  refine Ex.ial hq rfl rfl hin ?_
                  refine Ex.seg hq 5 (j := 22) (L' := [.ref 55, .int x1, .int x2, pu, .int ((x4 - ((s.2.1 73) (((s.2.1 72) (x5).toNatClampNeg)).toNatClampNeg)) + ((s.2.1 73) (((s.2.1 72) (x5).toNatClampNeg)).toNatClampNeg)), .int (x5 + (1 : Int32)), .int ((s.2.1 72) (x5).toNatClampNeg)]) (S' := []) (h' := hpS s) rfl ?_
                  refine Ex.fg (L := [.ref 55, .int x1, .int x2, pu, .int ((x4 - ((s.2.1 73) (((s.2.1 72) (x5).toNatClampNeg)).toNatClampNeg)) + ((s.2.1 73) (((s.2.1 72) (x5).toNatClampNeg)).toNatClampNeg)), .int (x5 + (1 : Int32)), pu]) ⟨Or.inl rfl, ⟨Or.inl rfl, ⟨Or.inl rfl, ⟨Or.inl rfl, ⟨Or.inl rfl, ⟨Or.inl rfl, ⟨Or.inr ⟨rfl, rfl⟩, trivial⟩⟩⟩⟩⟩⟩⟩ ?_
                  exact ih x1 x2 ((x4 - ((s.2.1 73) (((s.2.1 72) (x5).toNatClampNeg)).toNatClampNeg)) + ((s.2.1 73) (((s.2.1 72) (x5).toNatClampNeg)).toNatClampNeg)) (x5 + (1 : Int32)) s k hX101
          · have k := k.2 c
            refine Ex.seg hq 4 (j := 53) (L' := [.ref 55, .int x1, .int x2, pu, .int x4, .int x5, .int ((s.2.1 72) (x5).toNatClampNeg)]) (S' := [.int ((s.2.1 72) (x5).toNatClampNeg), .ref 58, .int x4]) (h' := hpS s) rfl ?_
            obtain ⟨hin, k⟩ := k
            refine Ex.ial hq rfl rfl hin ?_
            refine Ex.seg hq 1 (j := 55) (L' := [.ref 55, .int x1, .int x2, pu, .int x4, .int x5, .int ((s.2.1 72) (x5).toNatClampNeg)]) (S' := [.int x1, .int ((s.2.1 58) (((s.2.1 72) (x5).toNatClampNeg)).toNatClampNeg), .int x4]) (h' := hpS s) rfl ?_
            refine Ex.i2 hq rfl (fun c => ?_) (fun c => ?_)
            · have k := k.1 c
              refine Ex.seg hq 6 (j := 22) (L' := [.ref 55, .int x1, .int x2, pu, .int (x4 + (0 : Int32)), .int (x5 + (1 : Int32)), .int ((s.2.1 72) (x5).toNatClampNeg)]) (S' := []) (h' := hpS s) rfl ?_
              refine Ex.fg (L := [.ref 55, .int x1, .int x2, pu, .int (x4 + (0 : Int32)), .int (x5 + (1 : Int32)), pu]) ⟨Or.inl rfl, ⟨Or.inl rfl, ⟨Or.inl rfl, ⟨Or.inl rfl, ⟨Or.inl rfl, ⟨Or.inl rfl, ⟨Or.inr ⟨rfl, rfl⟩, trivial⟩⟩⟩⟩⟩⟩⟩ ?_
              exact ih x1 x2 (x4 + (0 : Int32)) (x5 + (1 : Int32)) s k hX101
            · have k := k.2 c
              refine Ex.seg hq 3 (j := 59) (L' := [.ref 55, .int x1, .int x2, pu, .int x4, .int x5, .int ((s.2.1 72) (x5).toNatClampNeg)]) (S' := [.int ((s.2.1 72) (x5).toNatClampNeg), .ref 73, .int x4]) (h' := hpS s) rfl ?_
              obtain ⟨hin, k⟩ := k
              refine Ex.ial hq rfl rfl hin ?_
              refine Ex.seg hq 6 (j := 22) (L' := [.ref 55, .int x1, .int x2, pu, .int (x4 + ((s.2.1 73) (((s.2.1 72) (x5).toNatClampNeg)).toNatClampNeg)), .int (x5 + (1 : Int32)), .int ((s.2.1 72) (x5).toNatClampNeg)]) (S' := []) (h' := hpS s) rfl ?_
              refine Ex.fg (L := [.ref 55, .int x1, .int x2, pu, .int (x4 + ((s.2.1 73) (((s.2.1 72) (x5).toNatClampNeg)).toNatClampNeg)), .int (x5 + (1 : Int32)), pu]) ⟨Or.inl rfl, ⟨Or.inl rfl, ⟨Or.inl rfl, ⟨Or.inl rfl, ⟨Or.inl rfl, ⟨Or.inl rfl, ⟨Or.inr ⟨rfl, rfl⟩, trivial⟩⟩⟩⟩⟩⟩⟩ ?_
              exact ih x1 x2 (x4 + ((s.2.1 73) (((s.2.1 72) (x5).toNatClampNeg)).toNatClampNeg)) (x5 + (1 : Int32)) s k hX101
        · have k := k.2 c
          refine Ex.seg hq 3 (j := 22) (L' := [.ref 55, .int x1, .int x2, pu, .int x4, .int (x5 + (1 : Int32)), .int ((s.2.1 72) (x5).toNatClampNeg)]) (S' := []) (h' := hpS s) rfl ?_
          refine Ex.fg (L := [.ref 55, .int x1, .int x2, pu, .int x4, .int (x5 + (1 : Int32)), pu]) ⟨Or.inl rfl, ⟨Or.inl rfl, ⟨Or.inl rfl, ⟨Or.inl rfl, ⟨Or.inl rfl, ⟨Or.inl rfl, ⟨Or.inr ⟨rfl, rfl⟩, trivial⟩⟩⟩⟩⟩⟩⟩ ?_
          exact ih x1 x2 x4 (x5 + (1 : Int32)) s k hX101
/-- RowAuditorModel.holds(III)I -/
def w_199 (p1 : Int32) (p2 : Int32) (p3 : Int32) (s : ST) (K : Int32 → ST → Prop) : Prop := w_189 p1 s (fun r2 s1 => ((r2 = 0 → K (-1000000000 : Int32) s1) ∧ (¬ (r2 = 0) → w_187 p2 s1 (fun r4 s3 => ((r4 = 0 → K (-1000000000 : Int32) s3) ∧ (¬ (r4 = 0) → w_187 p3 s3 (fun r6 s5 => ((¬ r6 = 0 → w_197 p3 s5 (fun s7 => (pin p1 10 = true ∧ (∃ m, w_199_L22 m p1 p2 ((s7.2.1 56) (p1).toNatClampNeg) (0 : Int32) s7 (fun y4 s9 => K y4 s9) K)))) ∧ (¬ (¬ r6 = 0) → K (-1000000000 : Int32) s5)))))))))
theorem q_199 {d : Nat} {K : Int32 → ST → Prop} (p1 : Int32) (p2 : Int32) (p3 : Int32) (s : ST) (k : w_199 p1 p2 p3 s K) : Rn sc (d + 2) 199 [.ref 55, .int p1, .int p2, .int p3] (hpS s) (kI K) := by
  have hq : prog[199]? = some pm199 := rfl
  refine Rn.of (L := [.ref 55, .int p1, .int p2, .int p3, pu, pu, pu]) hq rfl rfl ?_
  unfold w_199 at k
  refine Ex.seg hq 2 (j := 2) (L' := [.ref 55, .int p1, .int p2, .int p3, pu, pu, pu]) (S' := [.int p1, .ref 55]) (h' := hpS s) rfl ?_
  refine Ex.cl hq rfl rfl ?_
  refine Rn.mono (q_189 (d := d + 1) p1 s k) ?_
  rintro _ _ ⟨r2, s1, rfl, hzr2, rfl, k⟩
  show Ex sc (d + 2) 199 3 [.ref 55, .int p1, .int p2, .int p3, pu, pu, pu] [.int r2] (hpS s1) _
  refine Ex.i1 hq rfl (fun c => ?_) (fun c => ?_)
  · have k := k.1 c
    refine Ex.seg hq 1 (j := 11) (L' := [.ref 55, .int p1, .int p2, .int p3, pu, pu, pu]) (S' := [.int (-1000000000 : Int32)]) (h' := hpS s1) rfl ?_
    exact Ex.rt hq rfl rfl ⟨(-1000000000 : Int32), s1, rfl, rfl, k⟩
  · have k := k.2 c
    refine Ex.seg hq 1 (j := 5) (L' := [.ref 55, .int p1, .int p2, .int p3, pu, pu, pu]) (S' := [.int p2]) (h' := hpS s1) rfl ?_
    refine Ex.cl hq rfl rfl ?_
    refine Rn.mono (q_187 (d := d + 1) p2 s1 k) ?_
    rintro _ _ ⟨r4, s3, rfl, hzr4, rfl, k⟩
    show Ex sc (d + 2) 199 6 [.ref 55, .int p1, .int p2, .int p3, pu, pu, pu] [.int r4] (hpS s3) _
    refine Ex.i1 hq rfl (fun c => ?_) (fun c => ?_)
    · have k := k.1 c
      refine Ex.seg hq 1 (j := 11) (L' := [.ref 55, .int p1, .int p2, .int p3, pu, pu, pu]) (S' := [.int (-1000000000 : Int32)]) (h' := hpS s3) rfl ?_
      exact Ex.rt hq rfl rfl ⟨(-1000000000 : Int32), s3, rfl, rfl, k⟩
    · have k := k.2 c
      refine Ex.seg hq 1 (j := 8) (L' := [.ref 55, .int p1, .int p2, .int p3, pu, pu, pu]) (S' := [.int p3]) (h' := hpS s3) rfl ?_
      refine Ex.cl hq rfl rfl ?_
      refine Rn.mono (q_187 (d := d + 1) p3 s3 k) ?_
      rintro _ _ ⟨r6, s5, rfl, hzr6, rfl, k⟩
      show Ex sc (d + 2) 199 9 [.ref 55, .int p1, .int p2, .int p3, pu, pu, pu] [.int r6] (hpS s5) _
      refine Ex.i1 hq rfl (fun c => ?_) (fun c => ?_)
      · have k := k.1 c
        refine Ex.seg hq 2 (j := 14) (L' := [.ref 55, .int p1, .int p2, .int p3, pu, pu, pu]) (S' := [.int p3, .ref 55]) (h' := hpS s5) rfl ?_
        refine Ex.cl hq rfl rfl ?_
        refine Rn.mono (q_197 (d := d + 0) p3 s5 k) ?_
        rintro _ _ ⟨s7, rfl, rfl, k⟩
        show Ex sc (d + 2) 199 15 [.ref 55, .int p1, .int p2, .int p3, pu, pu, pu] [] (hpS s7) _
        refine Ex.seg hq 3 (j := 18) (L' := [.ref 55, .int p1, .int p2, .int p3, pu, pu, pu]) (S' := [.int p1, .ref 56]) (h' := hpS s7) rfl ?_
        obtain ⟨hin, k⟩ := k
        refine Ex.ial hq rfl rfl hin ?_
        refine Ex.seg hq 3 (j := 22) (L' := [.ref 55, .int p1, .int p2, .int p3, .int ((s7.2.1 56) (p1).toNatClampNeg), .int (0 : Int32), pu]) (S' := []) (h' := hpS s7) rfl ?_
        obtain ⟨m, k⟩ := k
        refine Ex.fg (L := [.ref 55, .int p1, .int p2, pu, .int ((s7.2.1 56) (p1).toNatClampNeg), .int (0 : Int32), pu]) ⟨Or.inl rfl, ⟨Or.inl rfl, ⟨Or.inl rfl, ⟨Or.inr ⟨rfl, rfl⟩, ⟨Or.inl rfl, ⟨Or.inl rfl, ⟨Or.inl rfl, trivial⟩⟩⟩⟩⟩⟩⟩ ?_
        refine q_199_L22 (d := d) m p1 p2 ((s7.2.1 56) (p1).toNatClampNeg) (0 : Int32) s7 k ?_
        · intro y4 s9 k
          refine Ex.seg hq 1 (j := 102) (L' := [pu, pu, pu, pu, .int y4, pu, pu]) (S' := [.int y4]) (h' := hpS s9) rfl ?_
          exact Ex.rt hq rfl rfl ⟨y4, s9, rfl, rfl, k⟩
      · have k := k.2 c
        refine Ex.seg hq 1 (j := 11) (L' := [.ref 55, .int p1, .int p2, .int p3, pu, pu, pu]) (S' := [.int (-1000000000 : Int32)]) (h' := hpS s5) rfl ?_
        exact Ex.rt hq rfl rfl ⟨(-1000000000 : Int32), s5, rfl, rfl, k⟩
def w_200_L2 : Nat → Int32 → Int32 → ST → (ST → Prop) → (ST → Prop) → Prop
  | 0, _, _, _, _, _ => False
  | n + 1, x1, x2, s, X23, K => ((x2 < 0 → X23  s) ∧ (¬ (x2 < 0) → (pin (s.1 5525) 200 = true ∧ w_200_L2 n x1 (x2 + (-1 : Int32)) (sA (sI s 5525 ((s.1 5525) + (1 : Int32))) 75 (upd (s.2.1 75) ((s.1 5525)).toNatClampNeg (vp_nar .byte (((x1 >>> (((8 : Int32) * x2) &&& 31))).toInt8.toInt32)))) X23 K)))
theorem q_200_L2 {d : Nat} {X23 : ST → Prop} {K : ST → Prop} : ∀ (n : Nat) (x1 : Int32) (x2 : Int32) (s : ST), w_200_L2 n x1 x2 s X23 K → (∀ (s : ST), X23  s → Ex sc (d + 0) 200 23 [pu, pu, pu] [] (hpS s) (kV K)) → Ex sc (d + 0) 200 2 [.ref 55, .int x1, .int x2] [] (hpS s) (kV K) := by
  have hq : prog[200]? = some pm200 := rfl
  intro n
  induction n with
  | zero =>
    intro x1 x2 s k
    exact k.elim
  | succ n ih =>
    intro x1 x2 s k hX23
    rw [w_200_L2] at k
    refine Ex.seg hq 1 (j := 3) (L' := [.ref 55, .int x1, .int x2]) (S' := [.int x2]) (h' := hpS s) rfl ?_
    refine Ex.i1 hq rfl (fun c => ?_) (fun c => ?_)
    · have k := k.1 c
      refine Ex.fg (L := [pu, pu, pu]) ⟨Or.inr ⟨rfl, rfl⟩, ⟨Or.inr ⟨rfl, rfl⟩, ⟨Or.inr ⟨rfl, rfl⟩, trivial⟩⟩⟩ ?_
      exact hX23  s k
    · have k := k.2 c
      refine Ex.seg hq 10 (j := 14) (L' := [.ref 55, .int x1, .int x2]) (S' := [.int (((x1 >>> (((8 : Int32) * x2) &&& 31))).toInt8.toInt32), .int (s.1 5525), .ref 75]) (h' := hpS s) rfl ?_
      obtain ⟨hin, k⟩ := k
      refine Ex.bas hq rfl ⟨rfl, rfl⟩ hin (h' := hpS (sA s 75 (upd (s.2.1 75) ((s.1 5525)).toNatClampNeg (vp_nar .byte (((x1 >>> (((8 : Int32) * x2) &&& 31))).toInt8.toInt32))))) (hset_75 _ _) ?_
      refine Ex.seg hq 8 (j := 2) (L' := [.ref 55, .int x1, .int (x2 + (-1 : Int32))]) (S' := []) (h' := hpS (sA (sI s 5525 ((s.1 5525) + (1 : Int32))) 75 (upd (s.2.1 75) ((s.1 5525)).toNatClampNeg (vp_nar .byte (((x1 >>> (((8 : Int32) * x2) &&& 31))).toInt8.toInt32))))) rfl ?_
      exact ih x1 (x2 + (-1 : Int32)) (sA (sI s 5525 ((s.1 5525) + (1 : Int32))) 75 (upd (s.2.1 75) ((s.1 5525)).toNatClampNeg (vp_nar .byte (((x1 >>> (((8 : Int32) * x2) &&& 31))).toInt8.toInt32)))) k hX23
/-- RowAuditorModel.types(I)V -/
def w_200 (p1 : Int32) (s : ST) (K : ST → Prop) : Prop := (∃ m, w_200_L2 m p1 (3 : Int32) s (fun s1 => K s1) K)
theorem q_200 {d : Nat} {K : ST → Prop} (p1 : Int32) (s : ST) (k : w_200 p1 s K) : Rn sc (d + 0) 200 [.ref 55, .int p1] (hpS s) (kV K) := by
  have hq : prog[200]? = some pm200 := rfl
  refine Rn.of (L := [.ref 55, .int p1, pu]) hq rfl rfl ?_
  unfold w_200 at k
  refine Ex.seg hq 2 (j := 2) (L' := [.ref 55, .int p1, .int (3 : Int32)]) (S' := []) (h' := hpS s) rfl ?_
  obtain ⟨m, k⟩ := k
  refine q_200_L2 (d := d) m p1 (3 : Int32) s k ?_
  · intro s1 k
    exact Ex.rt hq rfl rfl ⟨s1, rfl, rfl, k⟩
/-- RowAuditorModel.feed(IIIII)I -/
def w_201 (p1 : Int32) (p2 : Int32) (p3 : Int32) (p4 : Int32) (p5 : Int32) (s : ST) (K : Int32 → ST → Prop) : Prop := ((((s.1 5525) + (20 : Int32)) ≤ (200 : Int32) → w_200 p1 s (fun s1 => w_200 p2 s1 (fun s3 => w_200 p3 s3 (fun s5 => w_200 p4 s5 (fun s7 => w_200 p5 s7 (fun s9 => K (s9.1 5525) s9)))))) ∧ (¬ (((s.1 5525) + (20 : Int32)) ≤ (200 : Int32)) → K (-1 : Int32) s))
theorem q_201 {d : Nat} {K : Int32 → ST → Prop} (p1 : Int32) (p2 : Int32) (p3 : Int32) (p4 : Int32) (p5 : Int32) (s : ST) (k : w_201 p1 p2 p3 p4 p5 s K) : Rn sc (d + 1) 201 [.ref 55, .int p1, .int p2, .int p3, .int p4, .int p5] (hpS s) (kI K) := by
  have hq : prog[201]? = some pm201 := rfl
  refine Rn.of (L := [.ref 55, .int p1, .int p2, .int p3, .int p4, .int p5]) hq rfl rfl ?_
  unfold w_201 at k
  refine Ex.seg hq 5 (j := 5) (L' := [.ref 55, .int p1, .int p2, .int p3, .int p4, .int p5]) (S' := [.int (200 : Int32), .int ((s.1 5525) + (20 : Int32))]) (h' := hpS s) rfl ?_
  refine Ex.i2 hq rfl (fun c => ?_) (fun c => ?_)
  · have k := k.1 c
    refine Ex.seg hq 2 (j := 10) (L' := [.ref 55, .int p1, .int p2, .int p3, .int p4, .int p5]) (S' := [.int p1, .ref 55]) (h' := hpS s) rfl ?_
    refine Ex.cl hq rfl rfl ?_
    refine Rn.mono (q_200 (d := d + 0) p1 s k) ?_
    rintro _ _ ⟨s1, rfl, rfl, k⟩
    show Ex sc (d + 1) 201 11 [.ref 55, .int p1, .int p2, .int p3, .int p4, .int p5] [] (hpS s1) _
    refine Ex.seg hq 2 (j := 13) (L' := [.ref 55, .int p1, .int p2, .int p3, .int p4, .int p5]) (S' := [.int p2, .ref 55]) (h' := hpS s1) rfl ?_
    refine Ex.cl hq rfl rfl ?_
    refine Rn.mono (q_200 (d := d + 0) p2 s1 k) ?_
    rintro _ _ ⟨s3, rfl, rfl, k⟩
    show Ex sc (d + 1) 201 14 [.ref 55, .int p1, .int p2, .int p3, .int p4, .int p5] [] (hpS s3) _
    refine Ex.seg hq 2 (j := 16) (L' := [.ref 55, .int p1, .int p2, .int p3, .int p4, .int p5]) (S' := [.int p3, .ref 55]) (h' := hpS s3) rfl ?_
    refine Ex.cl hq rfl rfl ?_
    refine Rn.mono (q_200 (d := d + 0) p3 s3 k) ?_
    rintro _ _ ⟨s5, rfl, rfl, k⟩
    show Ex sc (d + 1) 201 17 [.ref 55, .int p1, .int p2, .int p3, .int p4, .int p5] [] (hpS s5) _
    refine Ex.seg hq 2 (j := 19) (L' := [.ref 55, .int p1, .int p2, .int p3, .int p4, .int p5]) (S' := [.int p4, .ref 55]) (h' := hpS s5) rfl ?_
    refine Ex.cl hq rfl rfl ?_
    refine Rn.mono (q_200 (d := d + 0) p4 s5 k) ?_
    rintro _ _ ⟨s7, rfl, rfl, k⟩
    show Ex sc (d + 1) 201 20 [.ref 55, .int p1, .int p2, .int p3, .int p4, .int p5] [] (hpS s7) _
    refine Ex.seg hq 2 (j := 22) (L' := [.ref 55, .int p1, .int p2, .int p3, .int p4, .int p5]) (S' := [.int p5, .ref 55]) (h' := hpS s7) rfl ?_
    refine Ex.cl hq rfl rfl ?_
    refine Rn.mono (q_200 (d := d + 0) p5 s7 k) ?_
    rintro _ _ ⟨s9, rfl, rfl, k⟩
    show Ex sc (d + 1) 201 23 [.ref 55, .int p1, .int p2, .int p3, .int p4, .int p5] [] (hpS s9) _
    refine Ex.seg hq 2 (j := 25) (L' := [.ref 55, .int p1, .int p2, .int p3, .int p4, .int p5]) (S' := [.int (s9.1 5525)]) (h' := hpS s9) rfl ?_
    exact Ex.rt hq rfl rfl ⟨(s9.1 5525), s9, rfl, rfl, k⟩
  · have k := k.2 c
    refine Ex.seg hq 1 (j := 7) (L' := [.ref 55, .int p1, .int p2, .int p3, .int p4, .int p5]) (S' := [.int (-1 : Int32)]) (h' := hpS s) rfl ?_
    exact Ex.rt hq rfl rfl ⟨(-1 : Int32), s, rfl, rfl, k⟩
/-- RowAuditorModel.here()I -/
def w_202  (s : ST) (K : Int32 → ST → Prop) : Prop := (((s.1 5527) ≤ (s.1 5526) → K (-1 : Int32) s) ∧ (¬ ((s.1 5527) ≤ (s.1 5526)) → (pin (s.1 5526) 200 = true ∧ K (((s.2.1 75) ((s.1 5526)).toNatClampNeg) &&& (255 : Int32)) s)))
theorem q_202 {d : Nat} {K : Int32 → ST → Prop}  (s : ST) (k : w_202  s K) : Rn sc (d + 0) 202 [.ref 55] (hpS s) (kI K) := by
  have hq : prog[202]? = some pm202 := rfl
  refine Rn.of (L := [.ref 55]) hq rfl rfl ?_
  unfold w_202 at k
  refine Ex.seg hq 4 (j := 4) (L' := [.ref 55]) (S' := [.int (s.1 5527), .int (s.1 5526)]) (h' := hpS s) rfl ?_
  refine Ex.i2 hq rfl (fun c => ?_) (fun c => ?_)
  · have k := k.1 c
    refine Ex.seg hq 1 (j := 14) (L' := [.ref 55]) (S' := [.int (-1 : Int32)]) (h' := hpS s) rfl ?_
    exact Ex.rt hq rfl rfl ⟨(-1 : Int32), s, rfl, rfl, k⟩
  · have k := k.2 c
    refine Ex.seg hq 4 (j := 9) (L' := [.ref 55]) (S' := [.int (s.1 5526), .ref 75]) (h' := hpS s) rfl ?_
    obtain ⟨hin, k⟩ := k
    refine Ex.bal hq rfl ⟨rfl, rfl⟩ hin ?_
    refine Ex.seg hq 3 (j := 14) (L' := [.ref 55]) (S' := [.int (((s.2.1 75) ((s.1 5526)).toNatClampNeg) &&& (255 : Int32))]) (h' := hpS s) rfl ?_
    exact Ex.rt hq rfl rfl ⟨(((s.2.1 75) ((s.1 5526)).toNatClampNeg) &&& (255 : Int32)), s, rfl, rfl, k⟩
/-- RowAuditorModel.isDigit()Z -/
def w_203  (s : ST) (K : Int32 → ST → Prop) : Prop := w_202 s (fun r2 s1 => ((r2 < (48 : Int32) → K (0 : Int32) s1) ∧ (¬ (r2 < (48 : Int32)) → w_202 s1 (fun r4 s3 => (((57 : Int32) < r4 → K (0 : Int32) s3) ∧ (¬ ((57 : Int32) < r4) → K (1 : Int32) s3))))))
theorem q_203 {d : Nat} {K : Int32 → ST → Prop}  (s : ST) (k : w_203  s K) : Rn sc (d + 1) 203 [.ref 55] (hpS s) (kZ K) := by
  have hq : prog[203]? = some pm203 := rfl
  refine Rn.of (L := [.ref 55]) hq rfl rfl ?_
  unfold w_203 at k
  refine Ex.seg hq 1 (j := 1) (L' := [.ref 55]) (S' := [.ref 55]) (h' := hpS s) rfl ?_
  refine Ex.cl hq rfl rfl ?_
  refine Rn.mono (q_202 (d := d + 0) s k) ?_
  rintro _ _ ⟨r2, s1, rfl, rfl, k⟩
  show Ex sc (d + 1) 203 2 [.ref 55] [.int r2] (hpS s1) _
  refine Ex.seg hq 1 (j := 3) (L' := [.ref 55]) (S' := [.int (48 : Int32), .int r2]) (h' := hpS s1) rfl ?_
  refine Ex.i2 hq rfl (fun c => ?_) (fun c => ?_)
  · have k := k.1 c
    refine Ex.seg hq 1 (j := 11) (L' := [.ref 55]) (S' := [.int (0 : Int32)]) (h' := hpS s1) rfl ?_
    exact Ex.zr hq rfl rfl (Or.inl rfl) ⟨(0 : Int32), s1, rfl, (Or.inl rfl), rfl, k⟩
  · have k := k.2 c
    refine Ex.seg hq 1 (j := 5) (L' := [.ref 55]) (S' := [.ref 55]) (h' := hpS s1) rfl ?_
    refine Ex.cl hq rfl rfl ?_
    refine Rn.mono (q_202 (d := d + 0) s1 k) ?_
    rintro _ _ ⟨r4, s3, rfl, rfl, k⟩
    show Ex sc (d + 1) 203 6 [.ref 55] [.int r4] (hpS s3) _
    refine Ex.seg hq 1 (j := 7) (L' := [.ref 55]) (S' := [.int (57 : Int32), .int r4]) (h' := hpS s3) rfl ?_
    refine Ex.i2 hq rfl (fun c => ?_) (fun c => ?_)
    · have k := k.1 c
      refine Ex.seg hq 1 (j := 11) (L' := [.ref 55]) (S' := [.int (0 : Int32)]) (h' := hpS s3) rfl ?_
      exact Ex.zr hq rfl rfl (Or.inl rfl) ⟨(0 : Int32), s3, rfl, (Or.inl rfl), rfl, k⟩
    · have k := k.2 c
      refine Ex.seg hq 2 (j := 11) (L' := [.ref 55]) (S' := [.int (1 : Int32)]) (h' := hpS s3) rfl ?_
      exact Ex.zr hq rfl rfl (Or.inr rfl) ⟨(1 : Int32), s3, rfl, (Or.inr rfl), rfl, k⟩
/-- RowAuditorModel.wrong(II)Z -/
def w_204 (p1 : Int32) (p2 : Int32) (s : ST) (K : Int32 → ST → Prop) : Prop := K (0 : Int32) (sI s 5528 (((-1000 : Int32) * p1) - p2))
theorem q_204 {d : Nat} {K : Int32 → ST → Prop} (p1 : Int32) (p2 : Int32) (s : ST) (k : w_204 p1 p2 s K) : Rn sc (d + 0) 204 [.ref 55, .int p1, .int p2] (hpS s) (kZ K) := by
  have hq : prog[204]? = some pm204 := rfl
  refine Rn.of (L := [.ref 55, .int p1, .int p2]) hq rfl rfl ?_
  unfold w_204 at k
  refine Ex.seg hq 8 (j := 8) (L' := [.ref 55, .int p1, .int p2]) (S' := [.int (0 : Int32)]) (h' := hpS (sI s 5528 (((-1000 : Int32) * p1) - p2))) rfl ?_
  exact Ex.zr hq rfl rfl (Or.inl rfl) ⟨(0 : Int32), (sI s 5528 (((-1000 : Int32) * p1) - p2)), rfl, (Or.inl rfl), rfl, k⟩
/-- RowAuditorModel.takes(I)Z -/
def w_205 (p1 : Int32) (s : ST) (K : Int32 → ST → Prop) : Prop := w_202 s (fun r2 s1 => ((r2 = p1 → K (1 : Int32) (sI s1 5526 ((s1.1 5526) + (1 : Int32)))) ∧ (¬ (r2 = p1) → w_204 (1 : Int32) (s1.1 5526) s1 (fun r4 s3 => K r4 s3))))
theorem q_205 {d : Nat} {K : Int32 → ST → Prop} (p1 : Int32) (s : ST) (k : w_205 p1 s K) : Rn sc (d + 1) 205 [.ref 55, .int p1] (hpS s) (kZ K) := by
  have hq : prog[205]? = some pm205 := rfl
  refine Rn.of (L := [.ref 55, .int p1]) hq rfl rfl ?_
  unfold w_205 at k
  refine Ex.seg hq 1 (j := 1) (L' := [.ref 55, .int p1]) (S' := [.ref 55]) (h' := hpS s) rfl ?_
  refine Ex.cl hq rfl rfl ?_
  refine Rn.mono (q_202 (d := d + 0) s k) ?_
  rintro _ _ ⟨r2, s1, rfl, rfl, k⟩
  show Ex sc (d + 1) 205 2 [.ref 55, .int p1] [.int r2] (hpS s1) _
  refine Ex.seg hq 1 (j := 3) (L' := [.ref 55, .int p1]) (S' := [.int p1, .int r2]) (h' := hpS s1) rfl ?_
  refine Ex.i2 hq rfl (fun c => ?_) (fun c => ?_)
  · have k := k.1 c
    refine Ex.seg hq 7 (j := 17) (L' := [.ref 55, .int p1]) (S' := [.int (1 : Int32)]) (h' := hpS (sI s1 5526 ((s1.1 5526) + (1 : Int32)))) rfl ?_
    exact Ex.zr hq rfl rfl (Or.inr rfl) ⟨(1 : Int32), (sI s1 5526 ((s1.1 5526) + (1 : Int32))), rfl, (Or.inr rfl), rfl, k⟩
  · have k := k.2 c
    refine Ex.seg hq 4 (j := 8) (L' := [.ref 55, .int p1]) (S' := [.int (s1.1 5526), .int (1 : Int32), .ref 55]) (h' := hpS s1) rfl ?_
    refine Ex.cl hq rfl rfl ?_
    refine Rn.mono (q_204 (d := d + 0) (1 : Int32) (s1.1 5526) s1 k) ?_
    rintro _ _ ⟨r4, s3, rfl, hzr4, rfl, k⟩
    show Ex sc (d + 1) 205 9 [.ref 55, .int p1] [.int r4] (hpS s3) _
    exact Ex.zr hq rfl rfl hzr4 ⟨r4, s3, rfl, hzr4, rfl, k⟩
def w_206_L15 : Nat → Int32 → Int32 → ST → (Int32 → Int32 → ST → Prop) → (ST → Prop) → (Int32 → ST → Prop) → Prop
  | 0, _, _, _, _, _, _ => False
  | n + 1, x1, x2, s, X48, X24, K => w_203 s (fun r4 s3 => ((r4 = 0 → X48 x1 x2 s3) ∧ (¬ (r4 = 0) → ((¬ (s3.1 5526) = (x2 + (7 : Int32)) → w_202 s3 (fun r6 s5 => w_206_L15 n x1 x2 (sI (sI s5 5533 ((((10 : Int32) * (s3.1 5533)) + r6) - (48 : Int32))) 5526 ((s5.1 5526) + (1 : Int32))) X48 X24 K)) ∧ (¬ (¬ (s3.1 5526) = (x2 + (7 : Int32))) → X24  s3)))))
theorem q_206_L15 {d : Nat} {X48 : Int32 → Int32 → ST → Prop} {X24 : ST → Prop} {K : Int32 → ST → Prop} : ∀ (n : Nat) (x1 : Int32) (x2 : Int32) (s : ST), w_206_L15 n x1 x2 s X48 X24 K → (∀ (y1 : Int32) (y2 : Int32) (s : ST), X48 y1 y2 s → Ex sc (d + 2) 206 48 [.ref 55, .int y1, .int y2] [] (hpS s) (kZ K)) → (∀ (s : ST), X24  s → Ex sc (d + 2) 206 24 [.ref 55, pu, pu] [] (hpS s) (kZ K)) → Ex sc (d + 2) 206 15 [.ref 55, .int x1, .int x2] [] (hpS s) (kZ K) := by
  have hq : prog[206]? = some pm206 := rfl
  intro n
  induction n with
  | zero =>
    intro x1 x2 s k
    exact k.elim
  | succ n ih =>
    intro x1 x2 s k hX48 hX24
    rw [w_206_L15] at k
    refine Ex.seg hq 1 (j := 16) (L' := [.ref 55, .int x1, .int x2]) (S' := [.ref 55]) (h' := hpS s) rfl ?_
    refine Ex.cl hq rfl rfl ?_
    refine Rn.mono (q_203 (d := d + 0) s k) ?_
    rintro _ _ ⟨r4, s3, rfl, hzr4, rfl, k⟩
    show Ex sc (d + 2) 206 17 [.ref 55, .int x1, .int x2] [.int r4] (hpS s3) _
    refine Ex.i1 hq rfl (fun c => ?_) (fun c => ?_)
    · have k := k.1 c
      exact hX48 x1 x2 s3 k
    · have k := k.2 c
      refine Ex.seg hq 5 (j := 23) (L' := [.ref 55, .int x1, .int x2]) (S' := [.int (x2 + (7 : Int32)), .int (s3.1 5526)]) (h' := hpS s3) rfl ?_
      refine Ex.i2 hq rfl (fun c => ?_) (fun c => ?_)
      · have k := k.1 c
        refine Ex.seg hq 6 (j := 36) (L' := [.ref 55, .int x1, .int x2]) (S' := [.ref 55, .int ((10 : Int32) * (s3.1 5533)), .ref 55]) (h' := hpS s3) rfl ?_
        refine Ex.cl hq rfl rfl ?_
        refine Rn.mono (q_202 (d := d + 1) s3 k) ?_
        rintro _ _ ⟨r6, s5, rfl, rfl, k⟩
        show Ex sc (d + 2) 206 37 [.ref 55, .int x1, .int x2] [.int r6, .int ((10 : Int32) * (s3.1 5533)), .ref 55] (hpS s5) _
        refine Ex.seg hq 11 (j := 15) (L' := [.ref 55, .int x1, .int x2]) (S' := []) (h' := hpS (sI (sI s5 5533 ((((10 : Int32) * (s3.1 5533)) + r6) - (48 : Int32))) 5526 ((s5.1 5526) + (1 : Int32)))) rfl ?_
        exact ih x1 x2 (sI (sI s5 5533 ((((10 : Int32) * (s3.1 5533)) + r6) - (48 : Int32))) 5526 ((s5.1 5526) + (1 : Int32))) k hX48 hX24
      · have k := k.2 c
        refine Ex.fg (L := [.ref 55, pu, pu]) ⟨Or.inl rfl, ⟨Or.inr ⟨rfl, rfl⟩, ⟨Or.inr ⟨rfl, rfl⟩, trivial⟩⟩⟩ ?_
        exact hX24  s3 k
/-- RowAuditorModel.readsNumber(I)Z -/
def w_206 (p1 : Int32) (s : ST) (K : Int32 → ST → Prop) : Prop := w_203 (sI s 5533 (0 : Int32)) (fun r2 s1 => ((¬ r2 = 0 → (∃ m, w_206_L15 m p1 (s.1 5526) s1 (fun y1 y2 s7 => (((s7.1 5533) ≤ y1 → K (1 : Int32) s7) ∧ (¬ ((s7.1 5533) ≤ y1) → w_204 (3 : Int32) y2 s7 (fun r9 s8 => ((r9 = 0 → K (0 : Int32) s8) ∧ (¬ (r9 = 0) → K (1 : Int32) s8)))))) (fun s10 => w_204 (2 : Int32) (s10.1 5526) s10 (fun r12 s11 => K r12 s11)) K)) ∧ (¬ (¬ r2 = 0) → w_204 (1 : Int32) (s1.1 5526) s1 (fun r14 s13 => K r14 s13))))
theorem q_206 {d : Nat} {K : Int32 → ST → Prop} (p1 : Int32) (s : ST) (k : w_206 p1 s K) : Rn sc (d + 2) 206 [.ref 55, .int p1] (hpS s) (kZ K) := by
  have hq : prog[206]? = some pm206 := rfl
  refine Rn.of (L := [.ref 55, .int p1, pu]) hq rfl rfl ?_
  unfold w_206 at k
  refine Ex.seg hq 7 (j := 7) (L' := [.ref 55, .int p1, .int (s.1 5526)]) (S' := [.ref 55]) (h' := hpS (sI s 5533 (0 : Int32))) rfl ?_
  refine Ex.cl hq rfl rfl ?_
  refine Rn.mono (q_203 (d := d + 0) (sI s 5533 (0 : Int32)) k) ?_
  rintro _ _ ⟨r2, s1, rfl, hzr2, rfl, k⟩
  show Ex sc (d + 2) 206 8 [.ref 55, .int p1, .int (s.1 5526)] [.int r2] (hpS s1) _
  refine Ex.i1 hq rfl (fun c => ?_) (fun c => ?_)
  · have k := k.1 c
    obtain ⟨m, k⟩ := k
    refine q_206_L15 (d := d) m p1 (s.1 5526) s1 k ?_ ?_
    · intro y1 y2 s7 k
      refine Ex.seg hq 3 (j := 51) (L' := [.ref 55, .int y1, .int y2]) (S' := [.int y1, .int (s7.1 5533)]) (h' := hpS s7) rfl ?_
      refine Ex.i2 hq rfl (fun c => ?_) (fun c => ?_)
      · have k := k.1 c
        refine Ex.seg hq 2 (j := 60) (L' := [.ref 55, .int y1, .int y2]) (S' := [.int (1 : Int32)]) (h' := hpS s7) rfl ?_
        exact Ex.zr hq rfl rfl (Or.inr rfl) ⟨(1 : Int32), s7, rfl, (Or.inr rfl), rfl, k⟩
      · have k := k.2 c
        refine Ex.seg hq 3 (j := 55) (L' := [.ref 55, .int y1, .int y2]) (S' := [.int y2, .int (3 : Int32), .ref 55]) (h' := hpS s7) rfl ?_
        refine Ex.cl hq rfl rfl ?_
        refine Rn.mono (q_204 (d := d + 1) (3 : Int32) y2 s7 k) ?_
        rintro _ _ ⟨r9, s8, rfl, hzr9, rfl, k⟩
        show Ex sc (d + 2) 206 56 [.ref 55, .int y1, .int y2] [.int r9] (hpS s8) _
        refine Ex.i1 hq rfl (fun c => ?_) (fun c => ?_)
        · have k := k.1 c
          refine Ex.seg hq 1 (j := 60) (L' := [.ref 55, .int y1, .int y2]) (S' := [.int (0 : Int32)]) (h' := hpS s8) rfl ?_
          exact Ex.zr hq rfl rfl (Or.inl rfl) ⟨(0 : Int32), s8, rfl, (Or.inl rfl), rfl, k⟩
        · have k := k.2 c
          refine Ex.seg hq 2 (j := 60) (L' := [.ref 55, .int y1, .int y2]) (S' := [.int (1 : Int32)]) (h' := hpS s8) rfl ?_
          exact Ex.zr hq rfl rfl (Or.inr rfl) ⟨(1 : Int32), s8, rfl, (Or.inr rfl), rfl, k⟩
    · intro s10 k
      refine Ex.seg hq 4 (j := 28) (L' := [.ref 55, pu, pu]) (S' := [.int (s10.1 5526), .int (2 : Int32), .ref 55]) (h' := hpS s10) rfl ?_
      refine Ex.cl hq rfl rfl ?_
      refine Rn.mono (q_204 (d := d + 1) (2 : Int32) (s10.1 5526) s10 k) ?_
      rintro _ _ ⟨r12, s11, rfl, hzr12, rfl, k⟩
      show Ex sc (d + 2) 206 29 [.ref 55, pu, pu] [.int r12] (hpS s11) _
      exact Ex.zr hq rfl rfl hzr12 ⟨r12, s11, rfl, hzr12, rfl, k⟩
  · have k := k.2 c
    refine Ex.seg hq 4 (j := 13) (L' := [.ref 55, .int p1, .int (s.1 5526)]) (S' := [.int (s1.1 5526), .int (1 : Int32), .ref 55]) (h' := hpS s1) rfl ?_
    refine Ex.cl hq rfl rfl ?_
    refine Rn.mono (q_204 (d := d + 1) (1 : Int32) (s1.1 5526) s1 k) ?_
    rintro _ _ ⟨r14, s13, rfl, hzr14, rfl, k⟩
    show Ex sc (d + 2) 206 14 [.ref 55, .int p1, .int (s.1 5526)] [.int r14] (hpS s13) _
    exact Ex.zr hq rfl rfl hzr14 ⟨r14, s13, rfl, hzr14, rfl, k⟩
end WP
