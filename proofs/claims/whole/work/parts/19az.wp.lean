/-! ===== weakest preconditions, printed by wip/whole/genwp.py ===== -/
section WP
variable {sc : Nat × (Nat → Int32)}
/-- RowAuditorModel.isChain(III)Z -/
def w_256 (p1 : Int32) (p2 : Int32) (p3 : Int32) (s : ST) (K : Int32 → ST → Prop) : Prop := ((p1 < 0 → K (0 : Int32) s) ∧ (¬ (p1 < 0) → (((s.1 5542) ≤ p1 → K (0 : Int32) s) ∧ (¬ ((s.1 5542) ≤ p1) → w_186 p2 (0 : Int32) (3999 : Int32) s (fun r2 s1 => ((r2 = 0 → K (0 : Int32) s1) ∧ (¬ (r2 = 0) → w_186 p3 (0 : Int32) (4000000 : Int32) s1 (fun r4 s3 => ((r4 = 0 → K (0 : Int32) s3) ∧ (¬ (r4 = 0) → K (1 : Int32) s3))))))))))
theorem q_256 {d : Nat} {K : Int32 → ST → Prop} (p1 : Int32) (p2 : Int32) (p3 : Int32) (s : ST) (k : w_256 p1 p2 p3 s K) : Rn sc (d + 1) 256 [.ref 55, .int p1, .int p2, .int p3] (hpS s) (kZ K) := by
  have hq : prog[256]? = some pm256 := rfl
  refine Rn.of (L := [.ref 55, .int p1, .int p2, .int p3]) hq rfl rfl ?_
  unfold w_256 at k
  refine Ex.seg hq 1 (j := 1) (L' := [.ref 55, .int p1, .int p2, .int p3]) (S' := [.int p1]) (h' := hpS s) rfl ?_
  refine Ex.i1 hq rfl (fun c => ?_) (fun c => ?_)
  · have k := k.1 c
    refine Ex.seg hq 1 (j := 19) (L' := [.ref 55, .int p1, .int p2, .int p3]) (S' := [.int (0 : Int32)]) (h' := hpS s) rfl ?_
    exact Ex.zr hq rfl rfl (Or.inl rfl) ⟨(0 : Int32), s, rfl, (Or.inl rfl), rfl, k⟩
  · have k := k.2 c
    refine Ex.seg hq 3 (j := 5) (L' := [.ref 55, .int p1, .int p2, .int p3]) (S' := [.int (s.1 5542), .int p1]) (h' := hpS s) rfl ?_
    refine Ex.i2 hq rfl (fun c => ?_) (fun c => ?_)
    · have k := k.1 c
      refine Ex.seg hq 1 (j := 19) (L' := [.ref 55, .int p1, .int p2, .int p3]) (S' := [.int (0 : Int32)]) (h' := hpS s) rfl ?_
      exact Ex.zr hq rfl rfl (Or.inl rfl) ⟨(0 : Int32), s, rfl, (Or.inl rfl), rfl, k⟩
    · have k := k.2 c
      refine Ex.seg hq 3 (j := 9) (L' := [.ref 55, .int p1, .int p2, .int p3]) (S' := [.int (3999 : Int32), .int (0 : Int32), .int p2]) (h' := hpS s) rfl ?_
      refine Ex.cl hq rfl rfl ?_
      refine Rn.mono (q_186 (d := d + 0) p2 (0 : Int32) (3999 : Int32) s k) ?_
      rintro _ _ ⟨r2, s1, rfl, hzr2, rfl, k⟩
      show Ex sc (d + 1) 256 10 [.ref 55, .int p1, .int p2, .int p3] [.int r2] (hpS s1) _
      refine Ex.i1 hq rfl (fun c => ?_) (fun c => ?_)
      · have k := k.1 c
        refine Ex.seg hq 1 (j := 19) (L' := [.ref 55, .int p1, .int p2, .int p3]) (S' := [.int (0 : Int32)]) (h' := hpS s1) rfl ?_
        exact Ex.zr hq rfl rfl (Or.inl rfl) ⟨(0 : Int32), s1, rfl, (Or.inl rfl), rfl, k⟩
      · have k := k.2 c
        refine Ex.seg hq 3 (j := 14) (L' := [.ref 55, .int p1, .int p2, .int p3]) (S' := [.int (4000000 : Int32), .int (0 : Int32), .int p3]) (h' := hpS s1) rfl ?_
        refine Ex.cl hq rfl rfl ?_
        refine Rn.mono (q_186 (d := d + 0) p3 (0 : Int32) (4000000 : Int32) s1 k) ?_
        rintro _ _ ⟨r4, s3, rfl, hzr4, rfl, k⟩
        show Ex sc (d + 1) 256 15 [.ref 55, .int p1, .int p2, .int p3] [.int r4] (hpS s3) _
        refine Ex.i1 hq rfl (fun c => ?_) (fun c => ?_)
        · have k := k.1 c
          refine Ex.seg hq 1 (j := 19) (L' := [.ref 55, .int p1, .int p2, .int p3]) (S' := [.int (0 : Int32)]) (h' := hpS s3) rfl ?_
          exact Ex.zr hq rfl rfl (Or.inl rfl) ⟨(0 : Int32), s3, rfl, (Or.inl rfl), rfl, k⟩
        · have k := k.2 c
          refine Ex.seg hq 2 (j := 19) (L' := [.ref 55, .int p1, .int p2, .int p3]) (S' := [.int (1 : Int32)]) (h' := hpS s3) rfl ?_
          exact Ex.zr hq rfl rfl (Or.inr rfl) ⟨(1 : Int32), s3, rfl, (Or.inr rfl), rfl, k⟩
/-- RowAuditorModel.fits(III)I -/
def w_257 (p1 : Int32) (p2 : Int32) (p3 : Int32) (s : ST) (K : Int32 → ST → Prop) : Prop := w_256 p1 p2 p3 s (fun r2 s1 => ((r2 = 0 → K (-1 : Int32) s1) ∧ (¬ (r2 = 0) → w_255 p1 p2 p3 (0 : Int32) s1 (fun r4 s3 => K r4 s3))))
theorem q_257 {d : Nat} {K : Int32 → ST → Prop} (p1 : Int32) (p2 : Int32) (p3 : Int32) (s : ST) (k : w_257 p1 p2 p3 s K) : Rn sc (d + 3) 257 [.ref 55, .int p1, .int p2, .int p3] (hpS s) (kI K) := by
  have hq : prog[257]? = some pm257 := rfl
  refine Rn.of (L := [.ref 55, .int p1, .int p2, .int p3]) hq rfl rfl ?_
  unfold w_257 at k
  refine Ex.seg hq 4 (j := 4) (L' := [.ref 55, .int p1, .int p2, .int p3]) (S' := [.int p3, .int p2, .int p1, .ref 55]) (h' := hpS s) rfl ?_
  refine Ex.cl hq rfl rfl ?_
  refine Rn.mono (q_256 (d := d + 1) p1 p2 p3 s k) ?_
  rintro _ _ ⟨r2, s1, rfl, hzr2, rfl, k⟩
  show Ex sc (d + 3) 257 5 [.ref 55, .int p1, .int p2, .int p3] [.int r2] (hpS s1) _
  refine Ex.i1 hq rfl (fun c => ?_) (fun c => ?_)
  · have k := k.1 c
    refine Ex.seg hq 1 (j := 14) (L' := [.ref 55, .int p1, .int p2, .int p3]) (S' := [.int (-1 : Int32)]) (h' := hpS s1) rfl ?_
    exact Ex.rt hq rfl rfl ⟨(-1 : Int32), s1, rfl, rfl, k⟩
  · have k := k.2 c
    refine Ex.seg hq 5 (j := 11) (L' := [.ref 55, .int p1, .int p2, .int p3]) (S' := [.int (0 : Int32), .int p3, .int p2, .int p1, .ref 55]) (h' := hpS s1) rfl ?_
    refine Ex.cl hq rfl rfl ?_
    refine Rn.mono (q_255 (d := d + 0) p1 p2 p3 (0 : Int32) s1 k) ?_
    rintro _ _ ⟨r4, s3, rfl, rfl, k⟩
    show Ex sc (d + 3) 257 12 [.ref 55, .int p1, .int p2, .int p3] [.int r4] (hpS s3) _
    refine Ex.seg hq 1 (j := 14) (L' := [.ref 55, .int p1, .int p2, .int p3]) (S' := [.int r4]) (h' := hpS s3) rfl ?_
    exact Ex.rt hq rfl rfl ⟨r4, s3, rfl, rfl, k⟩
/-- RowAuditorModel.fitted(IIII)I -/
def w_258 (p1 : Int32) (p2 : Int32) (p3 : Int32) (p4 : Int32) (s : ST) (K : Int32 → ST → Prop) : Prop := w_256 p1 p2 p3 s (fun r2 s1 => ((r2 = 0 → K (-1 : Int32) s1) ∧ (¬ (r2 = 0) → (pin ((20 : Int32) + p1) 26 = true ∧ w_186 p4 (0 : Int32) (((s1.2.1 86) (((20 : Int32) + p1)).toNatClampNeg) - (1 : Int32)) s1 (fun r4 s3 => ((r4 = 0 → K (-1 : Int32) s3) ∧ (¬ (r4 = 0) → w_255 p1 p2 p3 (1 : Int32) s3 (fun r6 s5 => ((¬ r6 = 0 → (pin p4 4 = true ∧ K ((s5.2.1 106) (p4).toNatClampNeg) s5)) ∧ (¬ (¬ r6 = 0) → K (-1 : Int32) s5))))))))))
theorem q_258 {d : Nat} {K : Int32 → ST → Prop} (p1 : Int32) (p2 : Int32) (p3 : Int32) (p4 : Int32) (s : ST) (k : w_258 p1 p2 p3 p4 s K) : Rn sc (d + 3) 258 [.ref 55, .int p1, .int p2, .int p3, .int p4] (hpS s) (kI K) := by
  have hq : prog[258]? = some pm258 := rfl
  refine Rn.of (L := [.ref 55, .int p1, .int p2, .int p3, .int p4]) hq rfl rfl ?_
  unfold w_258 at k
  refine Ex.seg hq 4 (j := 4) (L' := [.ref 55, .int p1, .int p2, .int p3, .int p4]) (S' := [.int p3, .int p2, .int p1, .ref 55]) (h' := hpS s) rfl ?_
  refine Ex.cl hq rfl rfl ?_
  refine Rn.mono (q_256 (d := d + 1) p1 p2 p3 s k) ?_
  rintro _ _ ⟨r2, s1, rfl, hzr2, rfl, k⟩
  show Ex sc (d + 3) 258 5 [.ref 55, .int p1, .int p2, .int p3, .int p4] [.int r2] (hpS s1) _
  refine Ex.i1 hq rfl (fun c => ?_) (fun c => ?_)
  · have k := k.1 c
    refine Ex.seg hq 1 (j := 26) (L' := [.ref 55, .int p1, .int p2, .int p3, .int p4]) (S' := [.int (-1 : Int32)]) (h' := hpS s1) rfl ?_
    exact Ex.rt hq rfl rfl ⟨(-1 : Int32), s1, rfl, rfl, k⟩
  · have k := k.2 c
    refine Ex.seg hq 7 (j := 13) (L' := [.ref 55, .int p1, .int p2, .int p3, .int p4]) (S' := [.int ((20 : Int32) + p1), .ref 86, .int (0 : Int32), .int p4]) (h' := hpS s1) rfl ?_
    obtain ⟨hin, k⟩ := k
    refine Ex.ial hq rfl rfl hin ?_
    refine Ex.seg hq 2 (j := 16) (L' := [.ref 55, .int p1, .int p2, .int p3, .int p4]) (S' := [.int (((s1.2.1 86) (((20 : Int32) + p1)).toNatClampNeg) - (1 : Int32)), .int (0 : Int32), .int p4]) (h' := hpS s1) rfl ?_
    refine Ex.cl hq rfl rfl ?_
    refine Rn.mono (q_186 (d := d + 2) p4 (0 : Int32) (((s1.2.1 86) (((20 : Int32) + p1)).toNatClampNeg) - (1 : Int32)) s1 k) ?_
    rintro _ _ ⟨r4, s3, rfl, hzr4, rfl, k⟩
    show Ex sc (d + 3) 258 17 [.ref 55, .int p1, .int p2, .int p3, .int p4] [.int r4] (hpS s3) _
    refine Ex.i1 hq rfl (fun c => ?_) (fun c => ?_)
    · have k := k.1 c
      refine Ex.seg hq 1 (j := 26) (L' := [.ref 55, .int p1, .int p2, .int p3, .int p4]) (S' := [.int (-1 : Int32)]) (h' := hpS s3) rfl ?_
      exact Ex.rt hq rfl rfl ⟨(-1 : Int32), s3, rfl, rfl, k⟩
    · have k := k.2 c
      refine Ex.seg hq 5 (j := 23) (L' := [.ref 55, .int p1, .int p2, .int p3, .int p4]) (S' := [.int (1 : Int32), .int p3, .int p2, .int p1, .ref 55]) (h' := hpS s3) rfl ?_
      refine Ex.cl hq rfl rfl ?_
      refine Rn.mono (q_255 (d := d + 0) p1 p2 p3 (1 : Int32) s3 k) ?_
      rintro _ _ ⟨r6, s5, rfl, rfl, k⟩
      show Ex sc (d + 3) 258 24 [.ref 55, .int p1, .int p2, .int p3, .int p4] [.int r6] (hpS s5) _
      refine Ex.i1 hq rfl (fun c => ?_) (fun c => ?_)
      · have k := k.1 c
        refine Ex.seg hq 3 (j := 30) (L' := [.ref 55, .int p1, .int p2, .int p3, .int p4]) (S' := [.int p4, .ref 106]) (h' := hpS s5) rfl ?_
        obtain ⟨hin, k⟩ := k
        refine Ex.ial hq rfl rfl hin ?_
        exact Ex.rt hq rfl rfl ⟨((s5.2.1 106) (p4).toNatClampNeg), s5, rfl, rfl, k⟩
      · have k := k.2 c
        refine Ex.seg hq 1 (j := 26) (L' := [.ref 55, .int p1, .int p2, .int p3, .int p4]) (S' := [.int (-1 : Int32)]) (h' := hpS s5) rfl ?_
        exact Ex.rt hq rfl rfl ⟨(-1 : Int32), s5, rfl, rfl, k⟩
def w_259_L7 : Nat → Int32 → Int32 → ST → (Int32 → ST → Prop) → (ST → Prop) → Prop
  | 0, _, _, _, _, _ => False
  | n + 1, x1, x2, s, X51, K => (((50 : Int32) < x2 → X51 x1 s) ∧ (¬ ((50 : Int32) < x2) → ((¬ x2 = 0 → ((¬ x1 = 0 → (pin (((51 : Int32) * (x1 - (1 : Int32))) + x2) 2601 = true ∧ (pin ((((51 : Int32) * (x1 - (1 : Int32))) + x2) - (1 : Int32)) 2601 = true ∧ (pin (((51 : Int32) * x1) + x2) 2601 = true ∧ w_259_L7 n x1 (x2 + (1 : Int32)) (sL s 107 (vp_updL (s.2.2.1 107) ((((51 : Int32) * x1) + x2)).toNatClampNeg (((s.2.2.1 107) ((((51 : Int32) * (x1 - (1 : Int32))) + x2)).toNatClampNeg) + ((s.2.2.1 107) (((((51 : Int32) * (x1 - (1 : Int32))) + x2) - (1 : Int32))).toNatClampNeg)))) X51 K)))) ∧ (¬ (¬ x1 = 0) → (pin (((51 : Int32) * x1) + x2) 2601 = true ∧ w_259_L7 n x1 (x2 + (1 : Int32)) (sL s 107 (vp_updL (s.2.2.1 107) ((((51 : Int32) * x1) + x2)).toNatClampNeg (0 : Int64))) X51 K)))) ∧ (¬ (¬ x2 = 0) → (pin (((51 : Int32) * x1) + x2) 2601 = true ∧ w_259_L7 n x1 (x2 + (1 : Int32)) (sL s 107 (vp_updL (s.2.2.1 107) ((((51 : Int32) * x1) + x2)).toNatClampNeg (1 : Int64))) X51 K)))))
theorem q_259_L7 {d : Nat} {X51 : Int32 → ST → Prop} {K : ST → Prop} : ∀ (n : Nat) (x1 : Int32) (x2 : Int32) (s : ST), w_259_L7 n x1 x2 s X51 K → (∀ (y1 : Int32) (s : ST), X51 y1 s → Ex sc (d + 0) 259 51 [.ref 55, .int y1, pu] [] (hpS s) (kV K)) → Ex sc (d + 0) 259 7 [.ref 55, .int x1, .int x2] [] (hpS s) (kV K) := by
  have hq : prog[259]? = some pm259 := rfl
  intro n
  induction n with
  | zero =>
    intro x1 x2 s k
    exact k.elim
  | succ n ih =>
    intro x1 x2 s k hX51
    rw [w_259_L7] at k
    refine Ex.seg hq 2 (j := 9) (L' := [.ref 55, .int x1, .int x2]) (S' := [.int (50 : Int32), .int x2]) (h' := hpS s) rfl ?_
    refine Ex.i2 hq rfl (fun c => ?_) (fun c => ?_)
    · have k := k.1 c
      refine Ex.fg (L := [.ref 55, .int x1, pu]) ⟨Or.inl rfl, ⟨Or.inl rfl, ⟨Or.inr ⟨rfl, rfl⟩, trivial⟩⟩⟩ ?_
      exact hX51 x1 s k
    · have k := k.2 c
      refine Ex.seg hq 8 (j := 18) (L' := [.ref 55, .int x1, .int x2]) (S' := [.int x2, .int (((51 : Int32) * x1) + x2), .ref 107]) (h' := hpS s) rfl ?_
      refine Ex.i1 hq rfl (fun c => ?_) (fun c => ?_)
      · have k := k.1 c
        refine Ex.seg hq 1 (j := 22) (L' := [.ref 55, .int x1, .int x2]) (S' := [.int x1, .int (((51 : Int32) * x1) + x2), .ref 107]) (h' := hpS s) rfl ?_
        refine Ex.i1 hq rfl (fun c => ?_) (fun c => ?_)
        · have k := k.1 c
          refine Ex.seg hq 9 (j := 34) (L' := [.ref 55, .int x1, .int x2]) (S' := [.int (((51 : Int32) * (x1 - (1 : Int32))) + x2), .ref 107, .int (((51 : Int32) * x1) + x2), .ref 107]) (h' := hpS s) rfl ?_
          obtain ⟨hin, k⟩ := k
          refine Ex.lal hq rfl rfl hin ?_
          refine Ex.seg hq 11 (j := 46) (L' := [.ref 55, .int x1, .int x2]) (S' := [.int ((((51 : Int32) * (x1 - (1 : Int32))) + x2) - (1 : Int32)), .ref 107, .long ((s.2.2.1 107) ((((51 : Int32) * (x1 - (1 : Int32))) + x2)).toNatClampNeg), .int (((51 : Int32) * x1) + x2), .ref 107]) (h' := hpS s) rfl ?_
          obtain ⟨hin, k⟩ := k
          refine Ex.lal hq rfl rfl hin ?_
          refine Ex.seg hq 1 (j := 48) (L' := [.ref 55, .int x1, .int x2]) (S' := [.long (((s.2.2.1 107) ((((51 : Int32) * (x1 - (1 : Int32))) + x2)).toNatClampNeg) + ((s.2.2.1 107) (((((51 : Int32) * (x1 - (1 : Int32))) + x2) - (1 : Int32))).toNatClampNeg)), .int (((51 : Int32) * x1) + x2), .ref 107]) (h' := hpS s) rfl ?_
          obtain ⟨hin, k⟩ := k
          refine Ex.las hq rfl rfl hin (h' := hpS (sL s 107 (vp_updL (s.2.2.1 107) ((((51 : Int32) * x1) + x2)).toNatClampNeg (((s.2.2.1 107) ((((51 : Int32) * (x1 - (1 : Int32))) + x2)).toNatClampNeg) + ((s.2.2.1 107) (((((51 : Int32) * (x1 - (1 : Int32))) + x2) - (1 : Int32))).toNatClampNeg))))) (hset_107 _ _) ?_
          refine Ex.seg hq 2 (j := 7) (L' := [.ref 55, .int x1, .int (x2 + (1 : Int32))]) (S' := []) (h' := hpS (sL s 107 (vp_updL (s.2.2.1 107) ((((51 : Int32) * x1) + x2)).toNatClampNeg (((s.2.2.1 107) ((((51 : Int32) * (x1 - (1 : Int32))) + x2)).toNatClampNeg) + ((s.2.2.1 107) (((((51 : Int32) * (x1 - (1 : Int32))) + x2) - (1 : Int32))).toNatClampNeg))))) rfl ?_
          exact ih x1 (x2 + (1 : Int32)) (sL s 107 (vp_updL (s.2.2.1 107) ((((51 : Int32) * x1) + x2)).toNatClampNeg (((s.2.2.1 107) ((((51 : Int32) * (x1 - (1 : Int32))) + x2)).toNatClampNeg) + ((s.2.2.1 107) (((((51 : Int32) * (x1 - (1 : Int32))) + x2) - (1 : Int32))).toNatClampNeg)))) k hX51
        · have k := k.2 c
          refine Ex.seg hq 2 (j := 48) (L' := [.ref 55, .int x1, .int x2]) (S' := [.long (0 : Int64), .int (((51 : Int32) * x1) + x2), .ref 107]) (h' := hpS s) rfl ?_
          obtain ⟨hin, k⟩ := k
          refine Ex.las hq rfl rfl hin (h' := hpS (sL s 107 (vp_updL (s.2.2.1 107) ((((51 : Int32) * x1) + x2)).toNatClampNeg (0 : Int64)))) (hset_107 _ _) ?_
          refine Ex.seg hq 2 (j := 7) (L' := [.ref 55, .int x1, .int (x2 + (1 : Int32))]) (S' := []) (h' := hpS (sL s 107 (vp_updL (s.2.2.1 107) ((((51 : Int32) * x1) + x2)).toNatClampNeg (0 : Int64)))) rfl ?_
          exact ih x1 (x2 + (1 : Int32)) (sL s 107 (vp_updL (s.2.2.1 107) ((((51 : Int32) * x1) + x2)).toNatClampNeg (0 : Int64))) k hX51
      · have k := k.2 c
        refine Ex.seg hq 2 (j := 48) (L' := [.ref 55, .int x1, .int x2]) (S' := [.long (1 : Int64), .int (((51 : Int32) * x1) + x2), .ref 107]) (h' := hpS s) rfl ?_
        obtain ⟨hin, k⟩ := k
        refine Ex.las hq rfl rfl hin (h' := hpS (sL s 107 (vp_updL (s.2.2.1 107) ((((51 : Int32) * x1) + x2)).toNatClampNeg (1 : Int64)))) (hset_107 _ _) ?_
        refine Ex.seg hq 2 (j := 7) (L' := [.ref 55, .int x1, .int (x2 + (1 : Int32))]) (S' := []) (h' := hpS (sL s 107 (vp_updL (s.2.2.1 107) ((((51 : Int32) * x1) + x2)).toNatClampNeg (1 : Int64)))) rfl ?_
        exact ih x1 (x2 + (1 : Int32)) (sL s 107 (vp_updL (s.2.2.1 107) ((((51 : Int32) * x1) + x2)).toNatClampNeg (1 : Int64))) k hX51
def w_259_L2 : Nat → Int32 → ST → (ST → Prop) → (ST → Prop) → Prop
  | 0, _, _, _, _ => False
  | n + 1, x1, s, X53, K => (((50 : Int32) < x1 → X53  s) ∧ (¬ ((50 : Int32) < x1) → (∃ m, w_259_L7 m x1 (0 : Int32) s (fun y1 s1 => w_259_L2 n (y1 + (1 : Int32)) s1 X53 K) K)))
theorem q_259_L2 {d : Nat} {X53 : ST → Prop} {K : ST → Prop} : ∀ (n : Nat) (x1 : Int32) (s : ST), w_259_L2 n x1 s X53 K → (∀ (s : ST), X53  s → Ex sc (d + 0) 259 53 [pu, pu, pu] [] (hpS s) (kV K)) → Ex sc (d + 0) 259 2 [.ref 55, .int x1, pu] [] (hpS s) (kV K) := by
  have hq : prog[259]? = some pm259 := rfl
  intro n
  induction n with
  | zero =>
    intro x1 s k
    exact k.elim
  | succ n ih =>
    intro x1 s k hX53
    rw [w_259_L2] at k
    refine Ex.seg hq 2 (j := 4) (L' := [.ref 55, .int x1, pu]) (S' := [.int (50 : Int32), .int x1]) (h' := hpS s) rfl ?_
    refine Ex.i2 hq rfl (fun c => ?_) (fun c => ?_)
    · have k := k.1 c
      refine Ex.fg (L := [pu, pu, pu]) ⟨Or.inr ⟨rfl, rfl⟩, ⟨Or.inr ⟨rfl, rfl⟩, ⟨Or.inl rfl, trivial⟩⟩⟩ ?_
      exact hX53  s k
    · have k := k.2 c
      refine Ex.seg hq 2 (j := 7) (L' := [.ref 55, .int x1, .int (0 : Int32)]) (S' := []) (h' := hpS s) rfl ?_
      obtain ⟨m, k⟩ := k
      refine q_259_L7 (d := d) m x1 (0 : Int32) s k ?_
      · intro y1 s1 k
        refine Ex.seg hq 2 (j := 2) (L' := [.ref 55, .int (y1 + (1 : Int32)), pu]) (S' := []) (h' := hpS s1) rfl ?_
        exact ih (y1 + (1 : Int32)) s1 k hX53
/-- RowAuditorModel.chooses()V -/
def w_259  (s : ST) (K : ST → Prop) : Prop := (∃ m, w_259_L2 m (0 : Int32) s (fun s2 => K s2) K)
theorem q_259 {d : Nat} {K : ST → Prop}  (s : ST) (k : w_259  s K) : Rn sc (d + 0) 259 [.ref 55] (hpS s) (kV K) := by
  have hq : prog[259]? = some pm259 := rfl
  refine Rn.of (L := [.ref 55, pu, pu]) hq rfl rfl ?_
  unfold w_259 at k
  refine Ex.seg hq 2 (j := 2) (L' := [.ref 55, .int (0 : Int32), pu]) (S' := []) (h' := hpS s) rfl ?_
  obtain ⟨m, k⟩ := k
  refine q_259_L2 (d := d) m (0 : Int32) s k ?_
  · intro s2 k
    exact Ex.rt hq rfl rfl ⟨s2, rfl, rfl, k⟩
def w_260_L29 : Nat → Int32 → Int32 → Int32 → Int32 → ST → (Int32 → Int32 → Int32 → Int32 → ST → Prop) → (Int32 → ST → Prop) → Prop
  | 0, _, _, _, _, _, _, _ => False
  | n + 1, x1, x2, x4, x5, s, X43, K => ((x5 ≤ x4 → X43 x1 x2 x4 x5 s) ∧ (¬ (x5 ≤ x4) → (pin x4 260 = true ∧ ((((s.2.1 87) (x4).toNatClampNeg) = (114 : Int32) → X43 x1 x2 x4 x5 s) ∧ (¬ (((s.2.1 87) (x4).toNatClampNeg) = (114 : Int32)) → w_260_L29 n x1 x2 (x4 + (1 : Int32)) x5 s X43 K)))))
theorem q_260_L29 {d : Nat} {X43 : Int32 → Int32 → Int32 → Int32 → ST → Prop} {K : Int32 → ST → Prop} : ∀ (n : Nat) (x1 : Int32) (x2 : Int32) (x4 : Int32) (x5 : Int32) (s : ST), w_260_L29 n x1 x2 x4 x5 s X43 K → (∀ (y1 : Int32) (y2 : Int32) (y4 : Int32) (y5 : Int32) (s : ST), X43 y1 y2 y4 y5 s → Ex sc (d + 2) 260 43 [.ref 55, .int y1, .int y2, pu, .int y4, .int y5, pu, pu, pu] [] (hpS s) (kZ K)) → Ex sc (d + 2) 260 29 [.ref 55, .int x1, .int x2, pu, .int x4, .int x5, pu, pu, pu] [] (hpS s) (kZ K) := by
  have hq : prog[260]? = some pm260 := rfl
  intro n
  induction n with
  | zero =>
    intro x1 x2 x4 x5 s k
    exact k.elim
  | succ n ih =>
    intro x1 x2 x4 x5 s k hX43
    rw [w_260_L29] at k
    refine Ex.seg hq 2 (j := 31) (L' := [.ref 55, .int x1, .int x2, pu, .int x4, .int x5, pu, pu, pu]) (S' := [.int x5, .int x4]) (h' := hpS s) rfl ?_
    refine Ex.i2 hq rfl (fun c => ?_) (fun c => ?_)
    · have k := k.1 c
      exact hX43 x1 x2 x4 x5 s k
    · have k := k.2 c
      refine Ex.seg hq 3 (j := 35) (L' := [.ref 55, .int x1, .int x2, pu, .int x4, .int x5, pu, pu, pu]) (S' := [.int x4, .ref 87]) (h' := hpS s) rfl ?_
      obtain ⟨hin, k⟩ := k
      refine Ex.ial hq rfl rfl hin ?_
      refine Ex.seg hq 1 (j := 37) (L' := [.ref 55, .int x1, .int x2, pu, .int x4, .int x5, pu, pu, pu]) (S' := [.int (114 : Int32), .int ((s.2.1 87) (x4).toNatClampNeg)]) (h' := hpS s) rfl ?_
      refine Ex.i2 hq rfl (fun c => ?_) (fun c => ?_)
      · have k := k.1 c
        exact hX43 x1 x2 x4 x5 s k
      · have k := k.2 c
        refine Ex.seg hq 5 (j := 29) (L' := [.ref 55, .int x1, .int x2, pu, .int (x4 + (1 : Int32)), .int x5, pu, pu, pu]) (S' := []) (h' := hpS s) rfl ?_
        exact ih x1 x2 (x4 + (1 : Int32)) x5 s k hX43
def w_260_L66 : Nat → Int32 → Int32 → Int32 → Int32 → ST → (ST → Prop) → (Int32 → ST → Prop) → Prop
  | 0, _, _, _, _, _, _, _ => False
  | n + 1, x1, x2, x4, x6, s, X135, K => (((s.1 5520) ≤ x6 → X135  s) ∧ (¬ ((s.1 5520) ≤ x6) → (pin x6 150 = true ∧ (pin ((s.2.1 72) (x6).toNatClampNeg) 150 = true ∧ ((((s.2.1 57) (((s.2.1 72) (x6).toNatClampNeg)).toNatClampNeg) = x2 → w_230 ((s.2.1 72) (x6).toNatClampNeg) s (fun s10 => w_232 x4 s10 (fun r13 s12 => ((r13 = 0 → (pin ((s.2.1 72) (x6).toNatClampNeg) 150 = true ∧ ((¬ ((s12.2.1 63) (((s.2.1 72) (x6).toNatClampNeg)).toNatClampNeg) = x1 → (pin ((s.2.1 72) (x6).toNatClampNeg) 150 = true ∧ ((¬ ((s12.2.1 63) (((s.2.1 72) (x6).toNatClampNeg)).toNatClampNeg) = x1 → w_260_L66 n x1 x2 x4 (x6 + (1 : Int32)) (sI (sI (sI (sI s12 5571 ((s12.1 5571) + (1 : Int32))) 5572 ((s12.1 5572) + (0 : Int32))) 5573 ((s12.1 5573) + (0 : Int32))) 5574 ((s12.1 5574) + (0 : Int32))) X135 K) ∧ (¬ (¬ ((s12.2.1 63) (((s.2.1 72) (x6).toNatClampNeg)).toNatClampNeg) = x1) → w_260_L66 n x1 x2 x4 (x6 + (1 : Int32)) (sI (sI (sI (sI s12 5571 ((s12.1 5571) + (1 : Int32))) 5572 ((s12.1 5572) + (0 : Int32))) 5573 ((s12.1 5573) + (0 : Int32))) 5574 ((s12.1 5574) + (0 : Int32))) X135 K)))) ∧ (¬ (¬ ((s12.2.1 63) (((s.2.1 72) (x6).toNatClampNeg)).toNatClampNeg) = x1) → (pin ((s.2.1 72) (x6).toNatClampNeg) 150 = true ∧ ((¬ ((s12.2.1 63) (((s.2.1 72) (x6).toNatClampNeg)).toNatClampNeg) = x1 → w_260_L66 n x1 x2 x4 (x6 + (1 : Int32)) (sI (sI (sI (sI s12 5571 ((s12.1 5571) + (1 : Int32))) 5572 ((s12.1 5572) + (0 : Int32))) 5573 ((s12.1 5573) + (1 : Int32))) 5574 ((s12.1 5574) + (0 : Int32))) X135 K) ∧ (¬ (¬ ((s12.2.1 63) (((s.2.1 72) (x6).toNatClampNeg)).toNatClampNeg) = x1) → w_260_L66 n x1 x2 x4 (x6 + (1 : Int32)) (sI (sI (sI (sI s12 5571 ((s12.1 5571) + (1 : Int32))) 5572 ((s12.1 5572) + (0 : Int32))) 5573 ((s12.1 5573) + (1 : Int32))) 5574 ((s12.1 5574) + (0 : Int32))) X135 K))))))) ∧ (¬ (r13 = 0) → (pin ((s.2.1 72) (x6).toNatClampNeg) 150 = true ∧ ((¬ ((s12.2.1 63) (((s.2.1 72) (x6).toNatClampNeg)).toNatClampNeg) = x1 → (pin ((s.2.1 72) (x6).toNatClampNeg) 150 = true ∧ ((¬ ((s12.2.1 63) (((s.2.1 72) (x6).toNatClampNeg)).toNatClampNeg) = x1 → w_260_L66 n x1 x2 x4 (x6 + (1 : Int32)) (sI (sI (sI (sI s12 5571 ((s12.1 5571) + (1 : Int32))) 5572 ((s12.1 5572) + (1 : Int32))) 5573 ((s12.1 5573) + (0 : Int32))) 5574 ((s12.1 5574) + (0 : Int32))) X135 K) ∧ (¬ (¬ ((s12.2.1 63) (((s.2.1 72) (x6).toNatClampNeg)).toNatClampNeg) = x1) → w_260_L66 n x1 x2 x4 (x6 + (1 : Int32)) (sI (sI (sI (sI s12 5571 ((s12.1 5571) + (1 : Int32))) 5572 ((s12.1 5572) + (1 : Int32))) 5573 ((s12.1 5573) + (0 : Int32))) 5574 ((s12.1 5574) + (1 : Int32))) X135 K)))) ∧ (¬ (¬ ((s12.2.1 63) (((s.2.1 72) (x6).toNatClampNeg)).toNatClampNeg) = x1) → (pin ((s.2.1 72) (x6).toNatClampNeg) 150 = true ∧ ((¬ ((s12.2.1 63) (((s.2.1 72) (x6).toNatClampNeg)).toNatClampNeg) = x1 → w_260_L66 n x1 x2 x4 (x6 + (1 : Int32)) (sI (sI (sI (sI s12 5571 ((s12.1 5571) + (1 : Int32))) 5572 ((s12.1 5572) + (1 : Int32))) 5573 ((s12.1 5573) + (1 : Int32))) 5574 ((s12.1 5574) + (0 : Int32))) X135 K) ∧ (¬ (¬ ((s12.2.1 63) (((s.2.1 72) (x6).toNatClampNeg)).toNatClampNeg) = x1) → w_260_L66 n x1 x2 x4 (x6 + (1 : Int32)) (sI (sI (sI (sI s12 5571 ((s12.1 5571) + (1 : Int32))) 5572 ((s12.1 5572) + (1 : Int32))) 5573 ((s12.1 5573) + (1 : Int32))) 5574 ((s12.1 5574) + (1 : Int32))) X135 K))))))))))) ∧ (¬ (((s.2.1 57) (((s.2.1 72) (x6).toNatClampNeg)).toNatClampNeg) = x2) → w_260_L66 n x1 x2 x4 (x6 + (1 : Int32)) s X135 K))))))
theorem q_260_L66 {d : Nat} {X135 : ST → Prop} {K : Int32 → ST → Prop} : ∀ (n : Nat) (x1 : Int32) (x2 : Int32) (x4 : Int32) (x6 : Int32) (s : ST), w_260_L66 n x1 x2 x4 x6 s X135 K → (∀ (s : ST), X135  s → Ex sc (d + 2) 260 135 [.ref 55, pu, pu, pu, pu, pu, pu, pu, pu] [] (hpS s) (kZ K)) → Ex sc (d + 2) 260 66 [.ref 55, .int x1, .int x2, pu, .int x4, pu, .int x6, pu, pu] [] (hpS s) (kZ K) := by
  have hq : prog[260]? = some pm260 := rfl
  intro n
  induction n with
  | zero =>
    intro x1 x2 x4 x6 s k
    exact k.elim
  | succ n ih =>
    intro x1 x2 x4 x6 s k hX135
    rw [w_260_L66] at k
    refine Ex.seg hq 3 (j := 69) (L' := [.ref 55, .int x1, .int x2, pu, .int x4, pu, .int x6, pu, pu]) (S' := [.int (s.1 5520), .int x6]) (h' := hpS s) rfl ?_
    refine Ex.i2 hq rfl (fun c => ?_) (fun c => ?_)
    · have k := k.1 c
      refine Ex.fg (L := [.ref 55, pu, pu, pu, pu, pu, pu, pu, pu]) ⟨Or.inl rfl, ⟨Or.inr ⟨rfl, rfl⟩, ⟨Or.inr ⟨rfl, rfl⟩, ⟨Or.inl rfl, ⟨Or.inr ⟨rfl, rfl⟩, ⟨Or.inl rfl, ⟨Or.inr ⟨rfl, rfl⟩, ⟨Or.inl rfl, ⟨Or.inl rfl, trivial⟩⟩⟩⟩⟩⟩⟩⟩⟩ ?_
      exact hX135  s k
    · have k := k.2 c
      refine Ex.seg hq 3 (j := 73) (L' := [.ref 55, .int x1, .int x2, pu, .int x4, pu, .int x6, pu, pu]) (S' := [.int x6, .ref 72]) (h' := hpS s) rfl ?_
      obtain ⟨hin, k⟩ := k
      refine Ex.ial hq rfl rfl hin ?_
      refine Ex.seg hq 4 (j := 78) (L' := [.ref 55, .int x1, .int x2, pu, .int x4, pu, .int x6, .int ((s.2.1 72) (x6).toNatClampNeg), pu]) (S' := [.int ((s.2.1 72) (x6).toNatClampNeg), .ref 57]) (h' := hpS s) rfl ?_
      obtain ⟨hin, k⟩ := k
      refine Ex.ial hq rfl rfl hin ?_
      refine Ex.seg hq 1 (j := 80) (L' := [.ref 55, .int x1, .int x2, pu, .int x4, pu, .int x6, .int ((s.2.1 72) (x6).toNatClampNeg), pu]) (S' := [.int x2, .int ((s.2.1 57) (((s.2.1 72) (x6).toNatClampNeg)).toNatClampNeg)]) (h' := hpS s) rfl ?_
      refine Ex.i2 hq rfl (fun c => ?_) (fun c => ?_)
      · have k := k.1 c
        refine Ex.seg hq 2 (j := 84) (L' := [.ref 55, .int x1, .int x2, pu, .int x4, pu, .int x6, .int ((s.2.1 72) (x6).toNatClampNeg), pu]) (S' := [.int ((s.2.1 72) (x6).toNatClampNeg), .ref 55]) (h' := hpS s) rfl ?_
        refine Ex.cl hq rfl rfl ?_
        refine Rn.mono (q_230 (d := d + 0) ((s.2.1 72) (x6).toNatClampNeg) s k) ?_
        rintro _ _ ⟨s10, rfl, rfl, k⟩
        show Ex sc (d + 2) 260 85 [.ref 55, .int x1, .int x2, pu, .int x4, pu, .int x6, .int ((s.2.1 72) (x6).toNatClampNeg), pu] [] (hpS s10) _
        refine Ex.seg hq 2 (j := 87) (L' := [.ref 55, .int x1, .int x2, pu, .int x4, pu, .int x6, .int ((s.2.1 72) (x6).toNatClampNeg), pu]) (S' := [.int x4, .ref 55]) (h' := hpS s10) rfl ?_
        refine Ex.cl hq rfl rfl ?_
        refine Rn.mono (q_232 (d := d + 0) x4 s10 k) ?_
        rintro _ _ ⟨r13, s12, rfl, hzr13, rfl, k⟩
        show Ex sc (d + 2) 260 88 [.ref 55, .int x1, .int x2, pu, .int x4, pu, .int x6, .int ((s.2.1 72) (x6).toNatClampNeg), pu] [.int r13] (hpS s12) _
        refine Ex.i1 hq rfl (fun c => ?_) (fun c => ?_)
        · have k := k.1 c
          refine Ex.seg hq 20 (j := 111) (L' := [.ref 55, .int x1, .int x2, pu, .int x4, pu, .int x6, .int ((s.2.1 72) (x6).toNatClampNeg), .int (0 : Int32)]) (S' := [.int ((s.2.1 72) (x6).toNatClampNeg), .ref 63, .int (s12.1 5573), .ref 55]) (h' := hpS (sI (sI s12 5571 ((s12.1 5571) + (1 : Int32))) 5572 ((s12.1 5572) + (0 : Int32)))) rfl ?_
          obtain ⟨hin, k⟩ := k
          refine Ex.ial hq rfl rfl hin ?_
          refine Ex.seg hq 1 (j := 113) (L' := [.ref 55, .int x1, .int x2, pu, .int x4, pu, .int x6, .int ((s.2.1 72) (x6).toNatClampNeg), .int (0 : Int32)]) (S' := [.int x1, .int ((s12.2.1 63) (((s.2.1 72) (x6).toNatClampNeg)).toNatClampNeg), .int (s12.1 5573), .ref 55]) (h' := hpS (sI (sI s12 5571 ((s12.1 5571) + (1 : Int32))) 5572 ((s12.1 5572) + (0 : Int32)))) rfl ?_
          refine Ex.i2 hq rfl (fun c => ?_) (fun c => ?_)
          · have k := k.1 c
            refine Ex.seg hq 9 (j := 125) (L' := [.ref 55, .int x1, .int x2, pu, .int x4, pu, .int x6, .int ((s.2.1 72) (x6).toNatClampNeg), .int (0 : Int32)]) (S' := [.int ((s.2.1 72) (x6).toNatClampNeg), .ref 63, .int (s12.1 5574), .ref 55]) (h' := hpS (sI (sI (sI s12 5571 ((s12.1 5571) + (1 : Int32))) 5572 ((s12.1 5572) + (0 : Int32))) 5573 ((s12.1 5573) + (0 : Int32)))) rfl ?_
            obtain ⟨hin, k⟩ := k
            refine Ex.ial hq rfl rfl hin ?_
            refine Ex.seg hq 1 (j := 127) (L' := [.ref 55, .int x1, .int x2, pu, .int x4, pu, .int x6, .int ((s.2.1 72) (x6).toNatClampNeg), .int (0 : Int32)]) (S' := [.int x1, .int ((s12.2.1 63) (((s.2.1 72) (x6).toNatClampNeg)).toNatClampNeg), .int (s12.1 5574), .ref 55]) (h' := hpS (sI (sI (sI s12 5571 ((s12.1 5571) + (1 : Int32))) 5572 ((s12.1 5572) + (0 : Int32))) 5573 ((s12.1 5573) + (0 : Int32)))) rfl ?_
            refine Ex.i2 hq rfl (fun c => ?_) (fun c => ?_)
            · have k := k.1 c
              refine Ex.seg hq 5 (j := 66) (L' := [.ref 55, .int x1, .int x2, pu, .int x4, pu, .int (x6 + (1 : Int32)), .int ((s.2.1 72) (x6).toNatClampNeg), .int (0 : Int32)]) (S' := []) (h' := hpS (sI (sI (sI (sI s12 5571 ((s12.1 5571) + (1 : Int32))) 5572 ((s12.1 5572) + (0 : Int32))) 5573 ((s12.1 5573) + (0 : Int32))) 5574 ((s12.1 5574) + (0 : Int32)))) rfl ?_
              refine Ex.fg (L := [.ref 55, .int x1, .int x2, pu, .int x4, pu, .int (x6 + (1 : Int32)), pu, pu]) ⟨Or.inl rfl, ⟨Or.inl rfl, ⟨Or.inl rfl, ⟨Or.inl rfl, ⟨Or.inl rfl, ⟨Or.inl rfl, ⟨Or.inl rfl, ⟨Or.inr ⟨rfl, rfl⟩, ⟨Or.inr ⟨rfl, rfl⟩, trivial⟩⟩⟩⟩⟩⟩⟩⟩⟩ ?_
              exact ih x1 x2 x4 (x6 + (1 : Int32)) (sI (sI (sI (sI s12 5571 ((s12.1 5571) + (1 : Int32))) 5572 ((s12.1 5572) + (0 : Int32))) 5573 ((s12.1 5573) + (0 : Int32))) 5574 ((s12.1 5574) + (0 : Int32))) k hX135
            · have k := k.2 c
              refine Ex.seg hq 6 (j := 66) (L' := [.ref 55, .int x1, .int x2, pu, .int x4, pu, .int (x6 + (1 : Int32)), .int ((s.2.1 72) (x6).toNatClampNeg), .int (0 : Int32)]) (S' := []) (h' := hpS (sI (sI (sI (sI s12 5571 ((s12.1 5571) + (1 : Int32))) 5572 ((s12.1 5572) + (0 : Int32))) 5573 ((s12.1 5573) + (0 : Int32))) 5574 ((s12.1 5574) + (0 : Int32)))) rfl ?_
              refine Ex.fg (L := [.ref 55, .int x1, .int x2, pu, .int x4, pu, .int (x6 + (1 : Int32)), pu, pu]) ⟨Or.inl rfl, ⟨Or.inl rfl, ⟨Or.inl rfl, ⟨Or.inl rfl, ⟨Or.inl rfl, ⟨Or.inl rfl, ⟨Or.inl rfl, ⟨Or.inr ⟨rfl, rfl⟩, ⟨Or.inr ⟨rfl, rfl⟩, trivial⟩⟩⟩⟩⟩⟩⟩⟩⟩ ?_
              exact ih x1 x2 x4 (x6 + (1 : Int32)) (sI (sI (sI (sI s12 5571 ((s12.1 5571) + (1 : Int32))) 5572 ((s12.1 5572) + (0 : Int32))) 5573 ((s12.1 5573) + (0 : Int32))) 5574 ((s12.1 5574) + (0 : Int32))) k hX135
          · have k := k.2 c
            refine Ex.seg hq 10 (j := 125) (L' := [.ref 55, .int x1, .int x2, pu, .int x4, pu, .int x6, .int ((s.2.1 72) (x6).toNatClampNeg), .int (0 : Int32)]) (S' := [.int ((s.2.1 72) (x6).toNatClampNeg), .ref 63, .int (s12.1 5574), .ref 55]) (h' := hpS (sI (sI (sI s12 5571 ((s12.1 5571) + (1 : Int32))) 5572 ((s12.1 5572) + (0 : Int32))) 5573 ((s12.1 5573) + (1 : Int32)))) rfl ?_
            obtain ⟨hin, k⟩ := k
            refine Ex.ial hq rfl rfl hin ?_
            refine Ex.seg hq 1 (j := 127) (L' := [.ref 55, .int x1, .int x2, pu, .int x4, pu, .int x6, .int ((s.2.1 72) (x6).toNatClampNeg), .int (0 : Int32)]) (S' := [.int x1, .int ((s12.2.1 63) (((s.2.1 72) (x6).toNatClampNeg)).toNatClampNeg), .int (s12.1 5574), .ref 55]) (h' := hpS (sI (sI (sI s12 5571 ((s12.1 5571) + (1 : Int32))) 5572 ((s12.1 5572) + (0 : Int32))) 5573 ((s12.1 5573) + (1 : Int32)))) rfl ?_
            refine Ex.i2 hq rfl (fun c => ?_) (fun c => ?_)
            · have k := k.1 c
              refine Ex.seg hq 5 (j := 66) (L' := [.ref 55, .int x1, .int x2, pu, .int x4, pu, .int (x6 + (1 : Int32)), .int ((s.2.1 72) (x6).toNatClampNeg), .int (0 : Int32)]) (S' := []) (h' := hpS (sI (sI (sI (sI s12 5571 ((s12.1 5571) + (1 : Int32))) 5572 ((s12.1 5572) + (0 : Int32))) 5573 ((s12.1 5573) + (1 : Int32))) 5574 ((s12.1 5574) + (0 : Int32)))) rfl ?_
              refine Ex.fg (L := [.ref 55, .int x1, .int x2, pu, .int x4, pu, .int (x6 + (1 : Int32)), pu, pu]) ⟨Or.inl rfl, ⟨Or.inl rfl, ⟨Or.inl rfl, ⟨Or.inl rfl, ⟨Or.inl rfl, ⟨Or.inl rfl, ⟨Or.inl rfl, ⟨Or.inr ⟨rfl, rfl⟩, ⟨Or.inr ⟨rfl, rfl⟩, trivial⟩⟩⟩⟩⟩⟩⟩⟩⟩ ?_
              exact ih x1 x2 x4 (x6 + (1 : Int32)) (sI (sI (sI (sI s12 5571 ((s12.1 5571) + (1 : Int32))) 5572 ((s12.1 5572) + (0 : Int32))) 5573 ((s12.1 5573) + (1 : Int32))) 5574 ((s12.1 5574) + (0 : Int32))) k hX135
            · have k := k.2 c
              refine Ex.seg hq 6 (j := 66) (L' := [.ref 55, .int x1, .int x2, pu, .int x4, pu, .int (x6 + (1 : Int32)), .int ((s.2.1 72) (x6).toNatClampNeg), .int (0 : Int32)]) (S' := []) (h' := hpS (sI (sI (sI (sI s12 5571 ((s12.1 5571) + (1 : Int32))) 5572 ((s12.1 5572) + (0 : Int32))) 5573 ((s12.1 5573) + (1 : Int32))) 5574 ((s12.1 5574) + (0 : Int32)))) rfl ?_
              refine Ex.fg (L := [.ref 55, .int x1, .int x2, pu, .int x4, pu, .int (x6 + (1 : Int32)), pu, pu]) ⟨Or.inl rfl, ⟨Or.inl rfl, ⟨Or.inl rfl, ⟨Or.inl rfl, ⟨Or.inl rfl, ⟨Or.inl rfl, ⟨Or.inl rfl, ⟨Or.inr ⟨rfl, rfl⟩, ⟨Or.inr ⟨rfl, rfl⟩, trivial⟩⟩⟩⟩⟩⟩⟩⟩⟩ ?_
              exact ih x1 x2 x4 (x6 + (1 : Int32)) (sI (sI (sI (sI s12 5571 ((s12.1 5571) + (1 : Int32))) 5572 ((s12.1 5572) + (0 : Int32))) 5573 ((s12.1 5573) + (1 : Int32))) 5574 ((s12.1 5574) + (0 : Int32))) k hX135
        · have k := k.2 c
          refine Ex.seg hq 21 (j := 111) (L' := [.ref 55, .int x1, .int x2, pu, .int x4, pu, .int x6, .int ((s.2.1 72) (x6).toNatClampNeg), .int (1 : Int32)]) (S' := [.int ((s.2.1 72) (x6).toNatClampNeg), .ref 63, .int (s12.1 5573), .ref 55]) (h' := hpS (sI (sI s12 5571 ((s12.1 5571) + (1 : Int32))) 5572 ((s12.1 5572) + (1 : Int32)))) rfl ?_
          obtain ⟨hin, k⟩ := k
          refine Ex.ial hq rfl rfl hin ?_
          refine Ex.seg hq 1 (j := 113) (L' := [.ref 55, .int x1, .int x2, pu, .int x4, pu, .int x6, .int ((s.2.1 72) (x6).toNatClampNeg), .int (1 : Int32)]) (S' := [.int x1, .int ((s12.2.1 63) (((s.2.1 72) (x6).toNatClampNeg)).toNatClampNeg), .int (s12.1 5573), .ref 55]) (h' := hpS (sI (sI s12 5571 ((s12.1 5571) + (1 : Int32))) 5572 ((s12.1 5572) + (1 : Int32)))) rfl ?_
          refine Ex.i2 hq rfl (fun c => ?_) (fun c => ?_)
          · have k := k.1 c
            refine Ex.seg hq 9 (j := 125) (L' := [.ref 55, .int x1, .int x2, pu, .int x4, pu, .int x6, .int ((s.2.1 72) (x6).toNatClampNeg), .int (1 : Int32)]) (S' := [.int ((s.2.1 72) (x6).toNatClampNeg), .ref 63, .int (s12.1 5574), .ref 55]) (h' := hpS (sI (sI (sI s12 5571 ((s12.1 5571) + (1 : Int32))) 5572 ((s12.1 5572) + (1 : Int32))) 5573 ((s12.1 5573) + (0 : Int32)))) rfl ?_
            obtain ⟨hin, k⟩ := k
            refine Ex.ial hq rfl rfl hin ?_
            refine Ex.seg hq 1 (j := 127) (L' := [.ref 55, .int x1, .int x2, pu, .int x4, pu, .int x6, .int ((s.2.1 72) (x6).toNatClampNeg), .int (1 : Int32)]) (S' := [.int x1, .int ((s12.2.1 63) (((s.2.1 72) (x6).toNatClampNeg)).toNatClampNeg), .int (s12.1 5574), .ref 55]) (h' := hpS (sI (sI (sI s12 5571 ((s12.1 5571) + (1 : Int32))) 5572 ((s12.1 5572) + (1 : Int32))) 5573 ((s12.1 5573) + (0 : Int32)))) rfl ?_
            refine Ex.i2 hq rfl (fun c => ?_) (fun c => ?_)
            · have k := k.1 c
              refine Ex.seg hq 5 (j := 66) (L' := [.ref 55, .int x1, .int x2, pu, .int x4, pu, .int (x6 + (1 : Int32)), .int ((s.2.1 72) (x6).toNatClampNeg), .int (1 : Int32)]) (S' := []) (h' := hpS (sI (sI (sI (sI s12 5571 ((s12.1 5571) + (1 : Int32))) 5572 ((s12.1 5572) + (1 : Int32))) 5573 ((s12.1 5573) + (0 : Int32))) 5574 ((s12.1 5574) + (0 : Int32)))) rfl ?_
              refine Ex.fg (L := [.ref 55, .int x1, .int x2, pu, .int x4, pu, .int (x6 + (1 : Int32)), pu, pu]) ⟨Or.inl rfl, ⟨Or.inl rfl, ⟨Or.inl rfl, ⟨Or.inl rfl, ⟨Or.inl rfl, ⟨Or.inl rfl, ⟨Or.inl rfl, ⟨Or.inr ⟨rfl, rfl⟩, ⟨Or.inr ⟨rfl, rfl⟩, trivial⟩⟩⟩⟩⟩⟩⟩⟩⟩ ?_
              exact ih x1 x2 x4 (x6 + (1 : Int32)) (sI (sI (sI (sI s12 5571 ((s12.1 5571) + (1 : Int32))) 5572 ((s12.1 5572) + (1 : Int32))) 5573 ((s12.1 5573) + (0 : Int32))) 5574 ((s12.1 5574) + (0 : Int32))) k hX135
            · have k := k.2 c
              refine Ex.seg hq 6 (j := 66) (L' := [.ref 55, .int x1, .int x2, pu, .int x4, pu, .int (x6 + (1 : Int32)), .int ((s.2.1 72) (x6).toNatClampNeg), .int (1 : Int32)]) (S' := []) (h' := hpS (sI (sI (sI (sI s12 5571 ((s12.1 5571) + (1 : Int32))) 5572 ((s12.1 5572) + (1 : Int32))) 5573 ((s12.1 5573) + (0 : Int32))) 5574 ((s12.1 5574) + (1 : Int32)))) rfl ?_
              refine Ex.fg (L := [.ref 55, .int x1, .int x2, pu, .int x4, pu, .int (x6 + (1 : Int32)), pu, pu]) ⟨Or.inl rfl, ⟨Or.inl rfl, ⟨Or.inl rfl, ⟨Or.inl rfl, ⟨Or.inl rfl, ⟨Or.inl rfl, ⟨Or.inl rfl, ⟨Or.inr ⟨rfl, rfl⟩, ⟨Or.inr ⟨rfl, rfl⟩, trivial⟩⟩⟩⟩⟩⟩⟩⟩⟩ ?_
              exact ih x1 x2 x4 (x6 + (1 : Int32)) (sI (sI (sI (sI s12 5571 ((s12.1 5571) + (1 : Int32))) 5572 ((s12.1 5572) + (1 : Int32))) 5573 ((s12.1 5573) + (0 : Int32))) 5574 ((s12.1 5574) + (1 : Int32))) k hX135
          · have k := k.2 c
            refine Ex.seg hq 10 (j := 125) (L' := [.ref 55, .int x1, .int x2, pu, .int x4, pu, .int x6, .int ((s.2.1 72) (x6).toNatClampNeg), .int (1 : Int32)]) (S' := [.int ((s.2.1 72) (x6).toNatClampNeg), .ref 63, .int (s12.1 5574), .ref 55]) (h' := hpS (sI (sI (sI s12 5571 ((s12.1 5571) + (1 : Int32))) 5572 ((s12.1 5572) + (1 : Int32))) 5573 ((s12.1 5573) + (1 : Int32)))) rfl ?_
            obtain ⟨hin, k⟩ := k
            refine Ex.ial hq rfl rfl hin ?_
            refine Ex.seg hq 1 (j := 127) (L' := [.ref 55, .int x1, .int x2, pu, .int x4, pu, .int x6, .int ((s.2.1 72) (x6).toNatClampNeg), .int (1 : Int32)]) (S' := [.int x1, .int ((s12.2.1 63) (((s.2.1 72) (x6).toNatClampNeg)).toNatClampNeg), .int (s12.1 5574), .ref 55]) (h' := hpS (sI (sI (sI s12 5571 ((s12.1 5571) + (1 : Int32))) 5572 ((s12.1 5572) + (1 : Int32))) 5573 ((s12.1 5573) + (1 : Int32)))) rfl ?_
            refine Ex.i2 hq rfl (fun c => ?_) (fun c => ?_)
            · have k := k.1 c
              refine Ex.seg hq 5 (j := 66) (L' := [.ref 55, .int x1, .int x2, pu, .int x4, pu, .int (x6 + (1 : Int32)), .int ((s.2.1 72) (x6).toNatClampNeg), .int (1 : Int32)]) (S' := []) (h' := hpS (sI (sI (sI (sI s12 5571 ((s12.1 5571) + (1 : Int32))) 5572 ((s12.1 5572) + (1 : Int32))) 5573 ((s12.1 5573) + (1 : Int32))) 5574 ((s12.1 5574) + (0 : Int32)))) rfl ?_
              refine Ex.fg (L := [.ref 55, .int x1, .int x2, pu, .int x4, pu, .int (x6 + (1 : Int32)), pu, pu]) ⟨Or.inl rfl, ⟨Or.inl rfl, ⟨Or.inl rfl, ⟨Or.inl rfl, ⟨Or.inl rfl, ⟨Or.inl rfl, ⟨Or.inl rfl, ⟨Or.inr ⟨rfl, rfl⟩, ⟨Or.inr ⟨rfl, rfl⟩, trivial⟩⟩⟩⟩⟩⟩⟩⟩⟩ ?_
              exact ih x1 x2 x4 (x6 + (1 : Int32)) (sI (sI (sI (sI s12 5571 ((s12.1 5571) + (1 : Int32))) 5572 ((s12.1 5572) + (1 : Int32))) 5573 ((s12.1 5573) + (1 : Int32))) 5574 ((s12.1 5574) + (0 : Int32))) k hX135
            · have k := k.2 c
              refine Ex.seg hq 6 (j := 66) (L' := [.ref 55, .int x1, .int x2, pu, .int x4, pu, .int (x6 + (1 : Int32)), .int ((s.2.1 72) (x6).toNatClampNeg), .int (1 : Int32)]) (S' := []) (h' := hpS (sI (sI (sI (sI s12 5571 ((s12.1 5571) + (1 : Int32))) 5572 ((s12.1 5572) + (1 : Int32))) 5573 ((s12.1 5573) + (1 : Int32))) 5574 ((s12.1 5574) + (1 : Int32)))) rfl ?_
              refine Ex.fg (L := [.ref 55, .int x1, .int x2, pu, .int x4, pu, .int (x6 + (1 : Int32)), pu, pu]) ⟨Or.inl rfl, ⟨Or.inl rfl, ⟨Or.inl rfl, ⟨Or.inl rfl, ⟨Or.inl rfl, ⟨Or.inl rfl, ⟨Or.inl rfl, ⟨Or.inr ⟨rfl, rfl⟩, ⟨Or.inr ⟨rfl, rfl⟩, trivial⟩⟩⟩⟩⟩⟩⟩⟩⟩ ?_
              exact ih x1 x2 x4 (x6 + (1 : Int32)) (sI (sI (sI (sI s12 5571 ((s12.1 5571) + (1 : Int32))) 5572 ((s12.1 5572) + (1 : Int32))) 5573 ((s12.1 5573) + (1 : Int32))) 5574 ((s12.1 5574) + (1 : Int32))) k hX135
      · have k := k.2 c
        refine Ex.seg hq 3 (j := 66) (L' := [.ref 55, .int x1, .int x2, pu, .int x4, pu, .int (x6 + (1 : Int32)), .int ((s.2.1 72) (x6).toNatClampNeg), pu]) (S' := []) (h' := hpS s) rfl ?_
        refine Ex.fg (L := [.ref 55, .int x1, .int x2, pu, .int x4, pu, .int (x6 + (1 : Int32)), pu, pu]) ⟨Or.inl rfl, ⟨Or.inl rfl, ⟨Or.inl rfl, ⟨Or.inl rfl, ⟨Or.inl rfl, ⟨Or.inl rfl, ⟨Or.inl rfl, ⟨Or.inr ⟨rfl, rfl⟩, ⟨Or.inl rfl, trivial⟩⟩⟩⟩⟩⟩⟩⟩⟩ ?_
        exact ih x1 x2 x4 (x6 + (1 : Int32)) s k hX135
/-- RowAuditorModel.deals(III)Z -/
def w_260 (p1 : Int32) (p2 : Int32) (p3 : Int32) (s : ST) (K : Int32 → ST → Prop) : Prop := w_191 p1 s (fun r2 s1 => ((r2 = 0 → K (0 : Int32) s1) ∧ (¬ (r2 = 0) → w_186 p2 (0 : Int32) (3 : Int32) s1 (fun r4 s3 => ((r4 = 0 → K (0 : Int32) s3) ∧ (¬ (r4 = 0) → w_186 p3 (0 : Int32) ((s3.1 5541) - (1 : Int32)) s3 (fun r6 s5 => ((¬ r6 = 0 → (pin p3 26 = true ∧ (∃ m, w_260_L29 m p1 p2 ((10 : Int32) * p3) (((10 : Int32) * p3) + ((s5.2.1 86) (p3).toNatClampNeg)) s5 (fun y1 y2 y4 y5 s7 => ((¬ y4 = y5 → w_197 (s7.1 5500) s7 (fun s8 => (∃ m, w_260_L66 m y1 y2 y4 (0 : Int32) (sI (sI (sI (sI s8 5571 (0 : Int32)) 5572 (0 : Int32)) 5573 (0 : Int32)) 5574 (0 : Int32)) (fun s14 => (((50 : Int32) < (s14.1 5571) → K (0 : Int32) s14) ∧ (¬ ((50 : Int32) < (s14.1 5571)) → K (1 : Int32) s14))) K))) ∧ (¬ (¬ y4 = y5) → K (0 : Int32) s7))) K))) ∧ (¬ (¬ r6 = 0) → K (0 : Int32) s5)))))))))
theorem q_260 {d : Nat} {K : Int32 → ST → Prop} (p1 : Int32) (p2 : Int32) (p3 : Int32) (s : ST) (k : w_260 p1 p2 p3 s K) : Rn sc (d + 2) 260 [.ref 55, .int p1, .int p2, .int p3] (hpS s) (kZ K) := by
  have hq : prog[260]? = some pm260 := rfl
  refine Rn.of (L := [.ref 55, .int p1, .int p2, .int p3, pu, pu, pu, pu, pu]) hq rfl rfl ?_
  unfold w_260 at k
  refine Ex.seg hq 1 (j := 1) (L' := [.ref 55, .int p1, .int p2, .int p3, pu, pu, pu, pu, pu]) (S' := [.int p1]) (h' := hpS s) rfl ?_
  refine Ex.cl hq rfl rfl ?_
  refine Rn.mono (q_191 (d := d + 1) p1 s k) ?_
  rintro _ _ ⟨r2, s1, rfl, hzr2, rfl, k⟩
  show Ex sc (d + 2) 260 2 [.ref 55, .int p1, .int p2, .int p3, pu, pu, pu, pu, pu] [.int r2] (hpS s1) _
  refine Ex.i1 hq rfl (fun c => ?_) (fun c => ?_)
  · have k := k.1 c
    refine Ex.seg hq 1 (j := 17) (L' := [.ref 55, .int p1, .int p2, .int p3, pu, pu, pu, pu, pu]) (S' := [.int (0 : Int32)]) (h' := hpS s1) rfl ?_
    exact Ex.zr hq rfl rfl (Or.inl rfl) ⟨(0 : Int32), s1, rfl, (Or.inl rfl), rfl, k⟩
  · have k := k.2 c
    refine Ex.seg hq 3 (j := 6) (L' := [.ref 55, .int p1, .int p2, .int p3, pu, pu, pu, pu, pu]) (S' := [.int (3 : Int32), .int (0 : Int32), .int p2]) (h' := hpS s1) rfl ?_
    refine Ex.cl hq rfl rfl ?_
    refine Rn.mono (q_186 (d := d + 1) p2 (0 : Int32) (3 : Int32) s1 k) ?_
    rintro _ _ ⟨r4, s3, rfl, hzr4, rfl, k⟩
    show Ex sc (d + 2) 260 7 [.ref 55, .int p1, .int p2, .int p3, pu, pu, pu, pu, pu] [.int r4] (hpS s3) _
    refine Ex.i1 hq rfl (fun c => ?_) (fun c => ?_)
    · have k := k.1 c
      refine Ex.seg hq 1 (j := 17) (L' := [.ref 55, .int p1, .int p2, .int p3, pu, pu, pu, pu, pu]) (S' := [.int (0 : Int32)]) (h' := hpS s3) rfl ?_
      exact Ex.zr hq rfl rfl (Or.inl rfl) ⟨(0 : Int32), s3, rfl, (Or.inl rfl), rfl, k⟩
    · have k := k.2 c
      refine Ex.seg hq 6 (j := 14) (L' := [.ref 55, .int p1, .int p2, .int p3, pu, pu, pu, pu, pu]) (S' := [.int ((s3.1 5541) - (1 : Int32)), .int (0 : Int32), .int p3]) (h' := hpS s3) rfl ?_
      refine Ex.cl hq rfl rfl ?_
      refine Rn.mono (q_186 (d := d + 1) p3 (0 : Int32) ((s3.1 5541) - (1 : Int32)) s3 k) ?_
      rintro _ _ ⟨r6, s5, rfl, hzr6, rfl, k⟩
      show Ex sc (d + 2) 260 15 [.ref 55, .int p1, .int p2, .int p3, pu, pu, pu, pu, pu] [.int r6] (hpS s5) _
      refine Ex.i1 hq rfl (fun c => ?_) (fun c => ?_)
      · have k := k.1 c
        refine Ex.seg hq 8 (j := 26) (L' := [.ref 55, .int p1, .int p2, .int p3, .int ((10 : Int32) * p3), pu, pu, pu, pu]) (S' := [.int p3, .ref 86, .int ((10 : Int32) * p3)]) (h' := hpS s5) rfl ?_
        obtain ⟨hin, k⟩ := k
        refine Ex.ial hq rfl rfl hin ?_
        refine Ex.seg hq 2 (j := 29) (L' := [.ref 55, .int p1, .int p2, .int p3, .int ((10 : Int32) * p3), .int (((10 : Int32) * p3) + ((s5.2.1 86) (p3).toNatClampNeg)), pu, pu, pu]) (S' := []) (h' := hpS s5) rfl ?_
        obtain ⟨m, k⟩ := k
        refine Ex.fg (L := [.ref 55, .int p1, .int p2, pu, .int ((10 : Int32) * p3), .int (((10 : Int32) * p3) + ((s5.2.1 86) (p3).toNatClampNeg)), pu, pu, pu]) ⟨Or.inl rfl, ⟨Or.inl rfl, ⟨Or.inl rfl, ⟨Or.inr ⟨rfl, rfl⟩, ⟨Or.inl rfl, ⟨Or.inl rfl, ⟨Or.inl rfl, ⟨Or.inl rfl, ⟨Or.inl rfl, trivial⟩⟩⟩⟩⟩⟩⟩⟩⟩ ?_
        refine q_260_L29 (d := d) m p1 p2 ((10 : Int32) * p3) (((10 : Int32) * p3) + ((s5.2.1 86) (p3).toNatClampNeg)) s5 k ?_
        · intro y1 y2 y4 y5 s7 k
          refine Ex.seg hq 2 (j := 45) (L' := [.ref 55, .int y1, .int y2, pu, .int y4, .int y5, pu, pu, pu]) (S' := [.int y5, .int y4]) (h' := hpS s7) rfl ?_
          refine Ex.i2 hq rfl (fun c => ?_) (fun c => ?_)
          · have k := k.1 c
            refine Ex.seg hq 3 (j := 51) (L' := [.ref 55, .int y1, .int y2, pu, .int y4, .int y5, pu, pu, pu]) (S' := [.int (s7.1 5500), .ref 55]) (h' := hpS s7) rfl ?_
            refine Ex.cl hq rfl rfl ?_
            refine Rn.mono (q_197 (d := d + 0) (s7.1 5500) s7 k) ?_
            rintro _ _ ⟨s8, rfl, rfl, k⟩
            show Ex sc (d + 2) 260 52 [.ref 55, .int y1, .int y2, pu, .int y4, .int y5, pu, pu, pu] [] (hpS s8) _
            refine Ex.seg hq 14 (j := 66) (L' := [.ref 55, .int y1, .int y2, pu, .int y4, .int y5, .int (0 : Int32), pu, pu]) (S' := []) (h' := hpS (sI (sI (sI (sI s8 5571 (0 : Int32)) 5572 (0 : Int32)) 5573 (0 : Int32)) 5574 (0 : Int32))) rfl ?_
            obtain ⟨m, k⟩ := k
            refine Ex.fg (L := [.ref 55, .int y1, .int y2, pu, .int y4, pu, .int (0 : Int32), pu, pu]) ⟨Or.inl rfl, ⟨Or.inl rfl, ⟨Or.inl rfl, ⟨Or.inl rfl, ⟨Or.inl rfl, ⟨Or.inr ⟨rfl, rfl⟩, ⟨Or.inl rfl, ⟨Or.inl rfl, ⟨Or.inl rfl, trivial⟩⟩⟩⟩⟩⟩⟩⟩⟩ ?_
            refine q_260_L66 (d := d) m y1 y2 y4 (0 : Int32) (sI (sI (sI (sI s8 5571 (0 : Int32)) 5572 (0 : Int32)) 5573 (0 : Int32)) 5574 (0 : Int32)) k ?_
            · intro s14 k
              refine Ex.seg hq 3 (j := 138) (L' := [.ref 55, pu, pu, pu, pu, pu, pu, pu, pu]) (S' := [.int (50 : Int32), .int (s14.1 5571)]) (h' := hpS s14) rfl ?_
              refine Ex.i2 hq rfl (fun c => ?_) (fun c => ?_)
              · have k := k.1 c
                refine Ex.seg hq 1 (j := 142) (L' := [.ref 55, pu, pu, pu, pu, pu, pu, pu, pu]) (S' := [.int (0 : Int32)]) (h' := hpS s14) rfl ?_
                exact Ex.zr hq rfl rfl (Or.inl rfl) ⟨(0 : Int32), s14, rfl, (Or.inl rfl), rfl, k⟩
              · have k := k.2 c
                refine Ex.seg hq 2 (j := 142) (L' := [.ref 55, pu, pu, pu, pu, pu, pu, pu, pu]) (S' := [.int (1 : Int32)]) (h' := hpS s14) rfl ?_
                exact Ex.zr hq rfl rfl (Or.inr rfl) ⟨(1 : Int32), s14, rfl, (Or.inr rfl), rfl, k⟩
          · have k := k.2 c
            refine Ex.seg hq 1 (j := 47) (L' := [.ref 55, .int y1, .int y2, pu, .int y4, .int y5, pu, pu, pu]) (S' := [.int (0 : Int32)]) (h' := hpS s7) rfl ?_
            exact Ex.zr hq rfl rfl (Or.inl rfl) ⟨(0 : Int32), s7, rfl, (Or.inl rfl), rfl, k⟩
      · have k := k.2 c
        refine Ex.seg hq 1 (j := 17) (L' := [.ref 55, .int p1, .int p2, .int p3, pu, pu, pu, pu, pu]) (S' := [.int (0 : Int32)]) (h' := hpS s5) rfl ?_
        exact Ex.zr hq rfl rfl (Or.inl rfl) ⟨(0 : Int32), s5, rfl, (Or.inl rfl), rfl, k⟩
def w_261_L7 : Nat → Int64 → Int32 → ST → (Int64 → ST → Prop) → (Int64 → ST → Prop) → Prop
  | 0, _, _, _, _, _ => False
  | n + 1, x1, x3, s, X41, K => (((s.1 5573) < x3 → X41 x1 s) ∧ (¬ ((s.1 5573) < x3) → (pin (((51 : Int32) * (s.1 5572)) + x3) 2601 = true ∧ (pin ((((51 : Int32) * ((s.1 5571) - (s.1 5572))) + (s.1 5573)) - x3) 2601 = true ∧ w_261_L7 n (x1 + (((s.2.2.1 107) ((((51 : Int32) * (s.1 5572)) + x3)).toNatClampNeg) * ((s.2.2.1 107) (((((51 : Int32) * ((s.1 5571) - (s.1 5572))) + (s.1 5573)) - x3)).toNatClampNeg))) (x3 + (1 : Int32)) s X41 K))))
theorem q_261_L7 {d : Nat} {X41 : Int64 → ST → Prop} {K : Int64 → ST → Prop} : ∀ (n : Nat) (x1 : Int64) (x3 : Int32) (s : ST), w_261_L7 n x1 x3 s X41 K → (∀ (y1 : Int64) (s : ST), X41 y1 s → Ex sc (d + 1) 261 41 [pu, .long y1, pu, pu] [] (hpS s) (kJ K)) → Ex sc (d + 1) 261 7 [.ref 55, .long x1, pu, .int x3] [] (hpS s) (kJ K) := by
  have hq : prog[261]? = some pm261 := rfl
  intro n
  induction n with
  | zero =>
    intro x1 x3 s k
    exact k.elim
  | succ n ih =>
    intro x1 x3 s k hX41
    rw [w_261_L7] at k
    refine Ex.seg hq 3 (j := 10) (L' := [.ref 55, .long x1, pu, .int x3]) (S' := [.int (s.1 5573), .int x3]) (h' := hpS s) rfl ?_
    refine Ex.i2 hq rfl (fun c => ?_) (fun c => ?_)
    · have k := k.1 c
      refine Ex.fg (L := [pu, .long x1, pu, pu]) ⟨Or.inr ⟨rfl, rfl⟩, ⟨Or.inl rfl, ⟨Or.inl rfl, ⟨Or.inr ⟨rfl, rfl⟩, trivial⟩⟩⟩⟩ ?_
      exact hX41 x1 s k
    · have k := k.2 c
      refine Ex.seg hq 9 (j := 20) (L' := [.ref 55, .long x1, pu, .int x3]) (S' := [.int (((51 : Int32) * (s.1 5572)) + x3), .ref 107, .long x1]) (h' := hpS s) rfl ?_
      obtain ⟨hin, k⟩ := k
      refine Ex.lal hq rfl rfl hin ?_
      refine Ex.seg hq 14 (j := 35) (L' := [.ref 55, .long x1, pu, .int x3]) (S' := [.int ((((51 : Int32) * ((s.1 5571) - (s.1 5572))) + (s.1 5573)) - x3), .ref 107, .long ((s.2.2.1 107) ((((51 : Int32) * (s.1 5572)) + x3)).toNatClampNeg), .long x1]) (h' := hpS s) rfl ?_
      obtain ⟨hin, k⟩ := k
      refine Ex.lal hq rfl rfl hin ?_
      refine Ex.seg hq 5 (j := 7) (L' := [.ref 55, .long (x1 + (((s.2.2.1 107) ((((51 : Int32) * (s.1 5572)) + x3)).toNatClampNeg) * ((s.2.2.1 107) (((((51 : Int32) * ((s.1 5571) - (s.1 5572))) + (s.1 5573)) - x3)).toNatClampNeg))), pu, .int (x3 + (1 : Int32))]) (S' := []) (h' := hpS s) rfl ?_
      exact ih (x1 + (((s.2.2.1 107) ((((51 : Int32) * (s.1 5572)) + x3)).toNatClampNeg) * ((s.2.2.1 107) (((((51 : Int32) * ((s.1 5571) - (s.1 5572))) + (s.1 5573)) - x3)).toNatClampNeg))) (x3 + (1 : Int32)) s k hX41
/-- RowAuditorModel.waysOf()J -/
def w_261  (s : ST) (K : Int64 → ST → Prop) : Prop := w_259 s (fun s1 => (∃ m, w_261_L7 m (0 : Int64) (s1.1 5574) s1 (fun y1 s3 => K y1 s3) K))
theorem q_261 {d : Nat} {K : Int64 → ST → Prop}  (s : ST) (k : w_261  s K) : Rn sc (d + 1) 261 [.ref 55] (hpS s) (kJ K) := by
  have hq : prog[261]? = some pm261 := rfl
  refine Rn.of (L := [.ref 55, pu, pu, pu]) hq rfl rfl ?_
  unfold w_261 at k
  refine Ex.seg hq 1 (j := 1) (L' := [.ref 55, pu, pu, pu]) (S' := [.ref 55]) (h' := hpS s) rfl ?_
  refine Ex.cl hq rfl rfl ?_
  refine Rn.mono (q_259 (d := d + 0) s k) ?_
  rintro _ _ ⟨s1, rfl, rfl, k⟩
  show Ex sc (d + 1) 261 2 [.ref 55, pu, pu, pu] [] (hpS s1) _
  refine Ex.seg hq 5 (j := 7) (L' := [.ref 55, .long (0 : Int64), pu, .int (s1.1 5574)]) (S' := []) (h' := hpS s1) rfl ?_
  obtain ⟨m, k⟩ := k
  refine q_261_L7 (d := d) m (0 : Int64) (s1.1 5574) s1 k ?_
  · intro y1 s3 k
    refine Ex.seg hq 1 (j := 42) (L' := [pu, .long y1, pu, pu]) (S' := [.long y1]) (h' := hpS s3) rfl ?_
    exact Ex.rt hq rfl rfl ⟨y1, s3, rfl, rfl, k⟩
/-- RowAuditorModel.ways(IIII)J -/
def w_262 (p1 : Int32) (p2 : Int32) (p3 : Int32) (p4 : Int32) (s : ST) (K : Int64 → ST → Prop) : Prop := w_186 p4 (0 : Int32) (5 : Int32) s (fun r2 s1 => ((r2 = 0 → K (-1 : Int64) s1) ∧ (¬ (r2 = 0) → w_260 p1 p2 p3 s1 (fun r4 s3 => ((¬ r4 = 0 → (((p4).toInt < 0 ∨ 4 < (p4).toInt → K (((s3.1 5572)).toInt64) s3) ∧ (p4 = (0 : Int32) → w_261 s3 (fun r6 s5 => K r6 s5)) ∧ (p4 = (1 : Int32) → w_259 s3 (fun s7 => (pin (((51 : Int32) * (s7.1 5571)) + (s7.1 5573)) 2601 = true ∧ K ((s7.2.2.1 107) ((((51 : Int32) * (s7.1 5571)) + (s7.1 5573))).toNatClampNeg) s7))) ∧ (p4 = (2 : Int32) → K (((s3.1 5573)).toInt64) s3) ∧ (p4 = (3 : Int32) → K (((s3.1 5574)).toInt64) s3) ∧ (p4 = (4 : Int32) → K (((s3.1 5571)).toInt64) s3))) ∧ (¬ (¬ r4 = 0) → K (-1 : Int64) s3))))))
theorem q_262 {d : Nat} {K : Int64 → ST → Prop} (p1 : Int32) (p2 : Int32) (p3 : Int32) (p4 : Int32) (s : ST) (k : w_262 p1 p2 p3 p4 s K) : Rn sc (d + 3) 262 [.ref 55, .int p1, .int p2, .int p3, .int p4] (hpS s) (kJ K) := by
  have hq : prog[262]? = some pm262 := rfl
  refine Rn.of (L := [.ref 55, .int p1, .int p2, .int p3, .int p4]) hq rfl rfl ?_
  unfold w_262 at k
  refine Ex.seg hq 3 (j := 3) (L' := [.ref 55, .int p1, .int p2, .int p3, .int p4]) (S' := [.int (5 : Int32), .int (0 : Int32), .int p4]) (h' := hpS s) rfl ?_
  refine Ex.cl hq rfl rfl ?_
  refine Rn.mono (q_186 (d := d + 2) p4 (0 : Int32) (5 : Int32) s k) ?_
  rintro _ _ ⟨r2, s1, rfl, hzr2, rfl, k⟩
  show Ex sc (d + 3) 262 4 [.ref 55, .int p1, .int p2, .int p3, .int p4] [.int r2] (hpS s1) _
  refine Ex.i1 hq rfl (fun c => ?_) (fun c => ?_)
  · have k := k.1 c
    refine Ex.seg hq 1 (j := 12) (L' := [.ref 55, .int p1, .int p2, .int p3, .int p4]) (S' := [.long (-1 : Int64)]) (h' := hpS s1) rfl ?_
    exact Ex.rt hq rfl rfl ⟨(-1 : Int64), s1, rfl, rfl, k⟩
  · have k := k.2 c
    refine Ex.seg hq 4 (j := 9) (L' := [.ref 55, .int p1, .int p2, .int p3, .int p4]) (S' := [.int p3, .int p2, .int p1, .ref 55]) (h' := hpS s1) rfl ?_
    refine Ex.cl hq rfl rfl ?_
    refine Rn.mono (q_260 (d := d + 0) p1 p2 p3 s1 k) ?_
    rintro _ _ ⟨r4, s3, rfl, hzr4, rfl, k⟩
    show Ex sc (d + 3) 262 10 [.ref 55, .int p1, .int p2, .int p3, .int p4] [.int r4] (hpS s3) _
    refine Ex.i1 hq rfl (fun c => ?_) (fun c => ?_)
    · have k := k.1 c
      refine Ex.seg hq 1 (j := 14) (L' := [.ref 55, .int p1, .int p2, .int p3, .int p4]) (S' := [.int p4]) (h' := hpS s3) rfl ?_
      refine Ex.tsw hq rfl (fun c => ?_) (fun t c ht => ?_) (by decide)
      · have k := k.1 c
        refine Ex.seg hq 3 (j := 46) (L' := [.ref 55, .int p1, .int p2, .int p3, .int p4]) (S' := [.long (((s3.1 5572)).toInt64)]) (h' := hpS s3) rfl ?_
        exact Ex.rt hq rfl rfl ⟨(((s3.1 5572)).toInt64), s3, rfl, rfl, k⟩
      · have k := k.2
        rcases (show (p4).toInt = 0 ∨ (p4).toInt = 1 ∨ (p4).toInt = 2 ∨ (p4).toInt = 3 ∨ (p4).toInt = 4 by omega) with e | e | e | e | e
        · have cx : p4 = (0 : Int32) := Int32.toInt_inj.mp (by rw [e]; rfl)
          have k := k.1 cx
          rw [e] at ht
          have ht : (some 15 : Option Nat) = some t := ht
          cases ht
          refine Ex.seg hq 1 (j := 16) (L' := [.ref 55, .int p1, .int p2, .int p3, .int p4]) (S' := [.ref 55]) (h' := hpS s3) rfl ?_
          refine Ex.cl hq rfl rfl ?_
          refine Rn.mono (q_261 (d := d + 1) s3 k) ?_
          rintro _ _ ⟨r6, s5, rfl, rfl, k⟩
          show Ex sc (d + 3) 262 17 [.ref 55, .int p1, .int p2, .int p3, .int p4] [.long r6] (hpS s5) _
          exact Ex.rt hq rfl rfl ⟨r6, s5, rfl, rfl, k⟩
        · have cx : p4 = (1 : Int32) := Int32.toInt_inj.mp (by rw [e]; rfl)
          have k := k.2.1 cx
          rw [e] at ht
          have ht : (some 18 : Option Nat) = some t := ht
          cases ht
          refine Ex.seg hq 1 (j := 19) (L' := [.ref 55, .int p1, .int p2, .int p3, .int p4]) (S' := [.ref 55]) (h' := hpS s3) rfl ?_
          refine Ex.cl hq rfl rfl ?_
          refine Rn.mono (q_259 (d := d + 2) s3 k) ?_
          rintro _ _ ⟨s7, rfl, rfl, k⟩
          show Ex sc (d + 3) 262 20 [.ref 55, .int p1, .int p2, .int p3, .int p4] [] (hpS s7) _
          refine Ex.seg hq 9 (j := 29) (L' := [.ref 55, .int p1, .int p2, .int p3, .int p4]) (S' := [.int (((51 : Int32) * (s7.1 5571)) + (s7.1 5573)), .ref 107]) (h' := hpS s7) rfl ?_
          obtain ⟨hin, k⟩ := k
          refine Ex.lal hq rfl rfl hin ?_
          exact Ex.rt hq rfl rfl ⟨((s7.2.2.1 107) ((((51 : Int32) * (s7.1 5571)) + (s7.1 5573))).toNatClampNeg), s7, rfl, rfl, k⟩
        · have cx : p4 = (2 : Int32) := Int32.toInt_inj.mp (by rw [e]; rfl)
          have k := k.2.2.1 cx
          rw [e] at ht
          have ht : (some 31 : Option Nat) = some t := ht
          cases ht
          refine Ex.seg hq 3 (j := 34) (L' := [.ref 55, .int p1, .int p2, .int p3, .int p4]) (S' := [.long (((s3.1 5573)).toInt64)]) (h' := hpS s3) rfl ?_
          exact Ex.rt hq rfl rfl ⟨(((s3.1 5573)).toInt64), s3, rfl, rfl, k⟩
        · have cx : p4 = (3 : Int32) := Int32.toInt_inj.mp (by rw [e]; rfl)
          have k := k.2.2.2.1 cx
          rw [e] at ht
          have ht : (some 35 : Option Nat) = some t := ht
          cases ht
          refine Ex.seg hq 3 (j := 38) (L' := [.ref 55, .int p1, .int p2, .int p3, .int p4]) (S' := [.long (((s3.1 5574)).toInt64)]) (h' := hpS s3) rfl ?_
          exact Ex.rt hq rfl rfl ⟨(((s3.1 5574)).toInt64), s3, rfl, rfl, k⟩
        · have cx : p4 = (4 : Int32) := Int32.toInt_inj.mp (by rw [e]; rfl)
          have k := k.2.2.2.2 cx
          rw [e] at ht
          have ht : (some 39 : Option Nat) = some t := ht
          cases ht
          refine Ex.seg hq 3 (j := 42) (L' := [.ref 55, .int p1, .int p2, .int p3, .int p4]) (S' := [.long (((s3.1 5571)).toInt64)]) (h' := hpS s3) rfl ?_
          exact Ex.rt hq rfl rfl ⟨(((s3.1 5571)).toInt64), s3, rfl, rfl, k⟩
    · have k := k.2 c
      refine Ex.seg hq 1 (j := 12) (L' := [.ref 55, .int p1, .int p2, .int p3, .int p4]) (S' := [.long (-1 : Int64)]) (h' := hpS s3) rfl ?_
      exact Ex.rt hq rfl rfl ⟨(-1 : Int64), s3, rfl, rfl, k⟩
/-- RowAuditorModel.odd(IIII)I -/
def w_263 (p1 : Int32) (p2 : Int32) (p3 : Int32) (p4 : Int32) (s : ST) (K : Int32 → ST → Prop) : Prop := w_186 p4 (0 : Int32) (1000 : Int32) s (fun r2 s1 => ((r2 = 0 → K (-1 : Int32) s1) ∧ (¬ (r2 = 0) → w_260 p1 p2 p3 s1 (fun r4 s3 => ((¬ r4 = 0 → w_261 s3 (fun r6 s5 => (pin (((51 : Int32) * (s5.1 5571)) + (s5.1 5573)) 2601 = true ∧ ((0 < (lg_cmp (r6 * (1000 : Int64)) (((s5.2.2.1 107) ((((51 : Int32) * (s5.1 5571)) + (s5.1 5573))).toNatClampNeg) * ((p4).toInt64))) → K (0 : Int32) s5) ∧ (¬ (0 < (lg_cmp (r6 * (1000 : Int64)) (((s5.2.2.1 107) ((((51 : Int32) * (s5.1 5571)) + (s5.1 5573))).toNatClampNeg) * ((p4).toInt64)))) → K (1 : Int32) s5))))) ∧ (¬ (¬ r4 = 0) → K (-1 : Int32) s3))))))
theorem q_263 {d : Nat} {K : Int32 → ST → Prop} (p1 : Int32) (p2 : Int32) (p3 : Int32) (p4 : Int32) (s : ST) (k : w_263 p1 p2 p3 p4 s K) : Rn sc (d + 3) 263 [.ref 55, .int p1, .int p2, .int p3, .int p4] (hpS s) (kI K) := by
  have hq : prog[263]? = some pm263 := rfl
  refine Rn.of (L := [.ref 55, .int p1, .int p2, .int p3, .int p4, pu, pu]) hq rfl rfl ?_
  unfold w_263 at k
  refine Ex.seg hq 3 (j := 3) (L' := [.ref 55, .int p1, .int p2, .int p3, .int p4, pu, pu]) (S' := [.int (1000 : Int32), .int (0 : Int32), .int p4]) (h' := hpS s) rfl ?_
  refine Ex.cl hq rfl rfl ?_
  refine Rn.mono (q_186 (d := d + 2) p4 (0 : Int32) (1000 : Int32) s k) ?_
  rintro _ _ ⟨r2, s1, rfl, hzr2, rfl, k⟩
  show Ex sc (d + 3) 263 4 [.ref 55, .int p1, .int p2, .int p3, .int p4, pu, pu] [.int r2] (hpS s1) _
  refine Ex.i1 hq rfl (fun c => ?_) (fun c => ?_)
  · have k := k.1 c
    refine Ex.seg hq 1 (j := 12) (L' := [.ref 55, .int p1, .int p2, .int p3, .int p4, pu, pu]) (S' := [.int (-1 : Int32)]) (h' := hpS s1) rfl ?_
    exact Ex.rt hq rfl rfl ⟨(-1 : Int32), s1, rfl, rfl, k⟩
  · have k := k.2 c
    refine Ex.seg hq 4 (j := 9) (L' := [.ref 55, .int p1, .int p2, .int p3, .int p4, pu, pu]) (S' := [.int p3, .int p2, .int p1, .ref 55]) (h' := hpS s1) rfl ?_
    refine Ex.cl hq rfl rfl ?_
    refine Rn.mono (q_260 (d := d + 0) p1 p2 p3 s1 k) ?_
    rintro _ _ ⟨r4, s3, rfl, hzr4, rfl, k⟩
    show Ex sc (d + 3) 263 10 [.ref 55, .int p1, .int p2, .int p3, .int p4, pu, pu] [.int r4] (hpS s3) _
    refine Ex.i1 hq rfl (fun c => ?_) (fun c => ?_)
    · have k := k.1 c
      refine Ex.seg hq 1 (j := 14) (L' := [.ref 55, .int p1, .int p2, .int p3, .int p4, pu, pu]) (S' := [.ref 55]) (h' := hpS s3) rfl ?_
      refine Ex.cl hq rfl rfl ?_
      refine Rn.mono (q_261 (d := d + 1) s3 k) ?_
      rintro _ _ ⟨r6, s5, rfl, rfl, k⟩
      show Ex sc (d + 3) 263 15 [.ref 55, .int p1, .int p2, .int p3, .int p4, pu, pu] [.long r6] (hpS s5) _
      refine Ex.seg hq 13 (j := 28) (L' := [.ref 55, .int p1, .int p2, .int p3, .int p4, .long r6, pu]) (S' := [.int (((51 : Int32) * (s5.1 5571)) + (s5.1 5573)), .ref 107, .long (r6 * (1000 : Int64))]) (h' := hpS s5) rfl ?_
      obtain ⟨hin, k⟩ := k
      refine Ex.lal hq rfl rfl hin ?_
      refine Ex.seg hq 4 (j := 33) (L' := [.ref 55, .int p1, .int p2, .int p3, .int p4, .long r6, pu]) (S' := [.int (lg_cmp (r6 * (1000 : Int64)) (((s5.2.2.1 107) ((((51 : Int32) * (s5.1 5571)) + (s5.1 5573))).toNatClampNeg) * ((p4).toInt64)))]) (h' := hpS s5) rfl ?_
      refine Ex.i1 hq rfl (fun c => ?_) (fun c => ?_)
      · have k := k.1 c
        refine Ex.seg hq 1 (j := 37) (L' := [.ref 55, .int p1, .int p2, .int p3, .int p4, .long r6, pu]) (S' := [.int (0 : Int32)]) (h' := hpS s5) rfl ?_
        exact Ex.rt hq rfl rfl ⟨(0 : Int32), s5, rfl, rfl, k⟩
      · have k := k.2 c
        refine Ex.seg hq 2 (j := 37) (L' := [.ref 55, .int p1, .int p2, .int p3, .int p4, .long r6, pu]) (S' := [.int (1 : Int32)]) (h' := hpS s5) rfl ?_
        exact Ex.rt hq rfl rfl ⟨(1 : Int32), s5, rfl, rfl, k⟩
    · have k := k.2 c
      refine Ex.seg hq 1 (j := 12) (L' := [.ref 55, .int p1, .int p2, .int p3, .int p4, pu, pu]) (S' := [.int (-1 : Int32)]) (h' := hpS s3) rfl ?_
      exact Ex.rt hq rfl rfl ⟨(-1 : Int32), s3, rfl, rfl, k⟩
/-- RowAuditorModel.isName(IZ)Z -/
def w_264 (p0 : Int32) (p1 : Int32) (s : ST) (K : Int32 → ST → Prop) : Prop := ((p0 < 0 → K (0 : Int32) s) ∧ (¬ (p0 < 0) → ((p1 = 0 → (((16 : Int32) ≤ p0 → K (0 : Int32) s) ∧ (¬ ((16 : Int32) ≤ p0) → K (1 : Int32) s))) ∧ (¬ (p1 = 0) → (((20 : Int32) ≤ p0 → K (0 : Int32) s) ∧ (¬ ((20 : Int32) ≤ p0) → K (1 : Int32) s))))))
theorem q_264 {d : Nat} {K : Int32 → ST → Prop} (p0 : Int32) (p1 : Int32) (s : ST) (k : w_264 p0 p1 s K) : Rn sc (d + 0) 264 [.int p0, .int p1] (hpS s) (kZ K) := by
  have hq : prog[264]? = some pm264 := rfl
  refine Rn.of (L := [.int p0, .int p1]) hq rfl rfl ?_
  unfold w_264 at k
  refine Ex.seg hq 1 (j := 1) (L' := [.int p0, .int p1]) (S' := [.int p0]) (h' := hpS s) rfl ?_
  refine Ex.i1 hq rfl (fun c => ?_) (fun c => ?_)
  · have k := k.1 c
    refine Ex.seg hq 1 (j := 12) (L' := [.int p0, .int p1]) (S' := [.int (0 : Int32)]) (h' := hpS s) rfl ?_
    exact Ex.zr hq rfl rfl (Or.inl rfl) ⟨(0 : Int32), s, rfl, (Or.inl rfl), rfl, k⟩
  · have k := k.2 c
    refine Ex.seg hq 2 (j := 4) (L' := [.int p0, .int p1]) (S' := [.int p1, .int p0]) (h' := hpS s) rfl ?_
    refine Ex.i1 hq rfl (fun c => ?_) (fun c => ?_)
    · have k := k.1 c
      refine Ex.seg hq 1 (j := 8) (L' := [.int p0, .int p1]) (S' := [.int (16 : Int32), .int p0]) (h' := hpS s) rfl ?_
      refine Ex.i2 hq rfl (fun c => ?_) (fun c => ?_)
      · have k := k.1 c
        refine Ex.seg hq 1 (j := 12) (L' := [.int p0, .int p1]) (S' := [.int (0 : Int32)]) (h' := hpS s) rfl ?_
        exact Ex.zr hq rfl rfl (Or.inl rfl) ⟨(0 : Int32), s, rfl, (Or.inl rfl), rfl, k⟩
      · have k := k.2 c
        refine Ex.seg hq 2 (j := 12) (L' := [.int p0, .int p1]) (S' := [.int (1 : Int32)]) (h' := hpS s) rfl ?_
        exact Ex.zr hq rfl rfl (Or.inr rfl) ⟨(1 : Int32), s, rfl, (Or.inr rfl), rfl, k⟩
    · have k := k.2 c
      refine Ex.seg hq 2 (j := 8) (L' := [.int p0, .int p1]) (S' := [.int (20 : Int32), .int p0]) (h' := hpS s) rfl ?_
      refine Ex.i2 hq rfl (fun c => ?_) (fun c => ?_)
      · have k := k.1 c
        refine Ex.seg hq 1 (j := 12) (L' := [.int p0, .int p1]) (S' := [.int (0 : Int32)]) (h' := hpS s) rfl ?_
        exact Ex.zr hq rfl rfl (Or.inl rfl) ⟨(0 : Int32), s, rfl, (Or.inl rfl), rfl, k⟩
      · have k := k.2 c
        refine Ex.seg hq 2 (j := 12) (L' := [.int p0, .int p1]) (S' := [.int (1 : Int32)]) (h' := hpS s) rfl ?_
        exact Ex.zr hq rfl rfl (Or.inr rfl) ⟨(1 : Int32), s, rfl, (Or.inr rfl), rfl, k⟩
/-- RowAuditorModel.things(IZI)Z -/
def w_265 (p1 : Int32) (p2 : Int32) (p3 : Int32) (s : ST) (K : Int32 → ST → Prop) : Prop := w_264 p1 p2 s (fun r2 s1 => ((r2 = 0 → K (0 : Int32) s1) ∧ (¬ (r2 = 0) → w_186 p3 (0 : Int32) (1073741823 : Int32) s1 (fun r4 s3 => ((¬ r4 = 0 → ((p2 = 0 → (pin p1 36 = true ∧ K (1 : Int32) (sA s3 108 (upd (s3.2.1 108) (p1).toNatClampNeg p3)))) ∧ (¬ (p2 = 0) → (pin ((16 : Int32) + p1) 36 = true ∧ K (1 : Int32) (sA s3 108 (upd (s3.2.1 108) (((16 : Int32) + p1)).toNatClampNeg p3)))))) ∧ (¬ (¬ r4 = 0) → K (0 : Int32) s3))))))
theorem q_265 {d : Nat} {K : Int32 → ST → Prop} (p1 : Int32) (p2 : Int32) (p3 : Int32) (s : ST) (k : w_265 p1 p2 p3 s K) : Rn sc (d + 1) 265 [.ref 55, .int p1, .int p2, .int p3] (hpS s) (kZ K) := by
  have hq : prog[265]? = some pm265 := rfl
  refine Rn.of (L := [.ref 55, .int p1, .int p2, .int p3]) hq rfl rfl ?_
  unfold w_265 at k
  refine Ex.seg hq 2 (j := 2) (L' := [.ref 55, .int p1, .int p2, .int p3]) (S' := [.int p2, .int p1]) (h' := hpS s) rfl ?_
  refine Ex.cl hq rfl rfl ?_
  refine Rn.mono (q_264 (d := d + 0) p1 p2 s k) ?_
  rintro _ _ ⟨r2, s1, rfl, hzr2, rfl, k⟩
  show Ex sc (d + 1) 265 3 [.ref 55, .int p1, .int p2, .int p3] [.int r2] (hpS s1) _
  refine Ex.i1 hq rfl (fun c => ?_) (fun c => ?_)
  · have k := k.1 c
    refine Ex.seg hq 1 (j := 10) (L' := [.ref 55, .int p1, .int p2, .int p3]) (S' := [.int (0 : Int32)]) (h' := hpS s1) rfl ?_
    exact Ex.zr hq rfl rfl (Or.inl rfl) ⟨(0 : Int32), s1, rfl, (Or.inl rfl), rfl, k⟩
  · have k := k.2 c
    refine Ex.seg hq 3 (j := 7) (L' := [.ref 55, .int p1, .int p2, .int p3]) (S' := [.int (1073741823 : Int32), .int (0 : Int32), .int p3]) (h' := hpS s1) rfl ?_
    refine Ex.cl hq rfl rfl ?_
    refine Rn.mono (q_186 (d := d + 0) p3 (0 : Int32) (1073741823 : Int32) s1 k) ?_
    rintro _ _ ⟨r4, s3, rfl, hzr4, rfl, k⟩
    show Ex sc (d + 1) 265 8 [.ref 55, .int p1, .int p2, .int p3] [.int r4] (hpS s3) _
    refine Ex.i1 hq rfl (fun c => ?_) (fun c => ?_)
    · have k := k.1 c
      refine Ex.seg hq 3 (j := 14) (L' := [.ref 55, .int p1, .int p2, .int p3]) (S' := [.int p2, .ref 108]) (h' := hpS s3) rfl ?_
      refine Ex.i1 hq rfl (fun c => ?_) (fun c => ?_)
      · have k := k.1 c
        refine Ex.seg hq 2 (j := 21) (L' := [.ref 55, .int p1, .int p2, .int p3]) (S' := [.int p3, .int p1, .ref 108]) (h' := hpS s3) rfl ?_
        obtain ⟨hin, k⟩ := k
        refine Ex.ias hq rfl rfl hin (h' := hpS (sA s3 108 (upd (s3.2.1 108) (p1).toNatClampNeg p3))) (hset_108 _ _) ?_
        refine Ex.seg hq 1 (j := 23) (L' := [.ref 55, .int p1, .int p2, .int p3]) (S' := [.int (1 : Int32)]) (h' := hpS (sA s3 108 (upd (s3.2.1 108) (p1).toNatClampNeg p3))) rfl ?_
        exact Ex.zr hq rfl rfl (Or.inr rfl) ⟨(1 : Int32), (sA s3 108 (upd (s3.2.1 108) (p1).toNatClampNeg p3)), rfl, (Or.inr rfl), rfl, k⟩
      · have k := k.2 c
        refine Ex.seg hq 5 (j := 21) (L' := [.ref 55, .int p1, .int p2, .int p3]) (S' := [.int p3, .int ((16 : Int32) + p1), .ref 108]) (h' := hpS s3) rfl ?_
        obtain ⟨hin, k⟩ := k
        refine Ex.ias hq rfl rfl hin (h' := hpS (sA s3 108 (upd (s3.2.1 108) (((16 : Int32) + p1)).toNatClampNeg p3))) (hset_108 _ _) ?_
        refine Ex.seg hq 1 (j := 23) (L' := [.ref 55, .int p1, .int p2, .int p3]) (S' := [.int (1 : Int32)]) (h' := hpS (sA s3 108 (upd (s3.2.1 108) (((16 : Int32) + p1)).toNatClampNeg p3))) rfl ?_
        exact Ex.zr hq rfl rfl (Or.inr rfl) ⟨(1 : Int32), (sA s3 108 (upd (s3.2.1 108) (((16 : Int32) + p1)).toNatClampNeg p3)), rfl, (Or.inr rfl), rfl, k⟩
    · have k := k.2 c
      refine Ex.seg hq 1 (j := 10) (L' := [.ref 55, .int p1, .int p2, .int p3]) (S' := [.int (0 : Int32)]) (h' := hpS s3) rfl ?_
      exact Ex.zr hq rfl rfl (Or.inl rfl) ⟨(0 : Int32), s3, rfl, (Or.inl rfl), rfl, k⟩
def w_266_L2 : Nat → Int32 → Int32 → ST → (ST → Prop) → (ST → Prop) → Prop
  | 0, _, _, _, _, _ => False
  | n + 1, x1, x2, s, X17, K => (((36 : Int32) ≤ x2 → X17  s) ∧ (¬ ((36 : Int32) ≤ x2) → ((¬ x2 = x1 → (pin x2 36 = true ∧ w_266_L2 n x1 (x2 + (1 : Int32)) (sA s 109 (upd (s.2.1 109) (x2).toNatClampNeg (vp_nar .boolean (0 : Int32)))) X17 K)) ∧ (¬ (¬ x2 = x1) → (pin x2 36 = true ∧ w_266_L2 n x1 (x2 + (1 : Int32)) (sA s 109 (upd (s.2.1 109) (x2).toNatClampNeg (vp_nar .boolean (1 : Int32)))) X17 K)))))
theorem q_266_L2 {d : Nat} {X17 : ST → Prop} {K : ST → Prop} : ∀ (n : Nat) (x1 : Int32) (x2 : Int32) (s : ST), w_266_L2 n x1 x2 s X17 K → (∀ (s : ST), X17  s → Ex sc (d + 0) 266 17 [.ref 55, pu, pu, pu, pu] [] (hpS s) (kV K)) → Ex sc (d + 0) 266 2 [.ref 55, .int x1, .int x2, pu, pu] [] (hpS s) (kV K) := by
  have hq : prog[266]? = some pm266 := rfl
  intro n
  induction n with
  | zero =>
    intro x1 x2 s k
    exact k.elim
  | succ n ih =>
    intro x1 x2 s k hX17
    rw [w_266_L2] at k
    refine Ex.seg hq 2 (j := 4) (L' := [.ref 55, .int x1, .int x2, pu, pu]) (S' := [.int (36 : Int32), .int x2]) (h' := hpS s) rfl ?_
    refine Ex.i2 hq rfl (fun c => ?_) (fun c => ?_)
    · have k := k.1 c
      refine Ex.fg (L := [.ref 55, pu, pu, pu, pu]) ⟨Or.inl rfl, ⟨Or.inr ⟨rfl, rfl⟩, ⟨Or.inr ⟨rfl, rfl⟩, ⟨Or.inl rfl, ⟨Or.inl rfl, trivial⟩⟩⟩⟩⟩ ?_
      exact hX17  s k
    · have k := k.2 c
      refine Ex.seg hq 5 (j := 10) (L' := [.ref 55, .int x1, .int x2, pu, pu]) (S' := [.int x1, .int x2, .int x2, .ref 109]) (h' := hpS s) rfl ?_
      refine Ex.i2 hq rfl (fun c => ?_) (fun c => ?_)
      · have k := k.1 c
        refine Ex.seg hq 1 (j := 14) (L' := [.ref 55, .int x1, .int x2, pu, pu]) (S' := [.int (0 : Int32), .int x2, .ref 109]) (h' := hpS s) rfl ?_
        obtain ⟨hin, k⟩ := k
        refine Ex.zas hq rfl rfl hin (h' := hpS (sA s 109 (upd (s.2.1 109) (x2).toNatClampNeg (vp_nar .boolean (0 : Int32))))) (hset_109 _ _) ?_
        refine Ex.seg hq 2 (j := 2) (L' := [.ref 55, .int x1, .int (x2 + (1 : Int32)), pu, pu]) (S' := []) (h' := hpS (sA s 109 (upd (s.2.1 109) (x2).toNatClampNeg (vp_nar .boolean (0 : Int32))))) rfl ?_
        exact ih x1 (x2 + (1 : Int32)) (sA s 109 (upd (s.2.1 109) (x2).toNatClampNeg (vp_nar .boolean (0 : Int32)))) k hX17
      · have k := k.2 c
        refine Ex.seg hq 2 (j := 14) (L' := [.ref 55, .int x1, .int x2, pu, pu]) (S' := [.int (1 : Int32), .int x2, .ref 109]) (h' := hpS s) rfl ?_
        obtain ⟨hin, k⟩ := k
        refine Ex.zas hq rfl rfl hin (h' := hpS (sA s 109 (upd (s.2.1 109) (x2).toNatClampNeg (vp_nar .boolean (1 : Int32))))) (hset_109 _ _) ?_
        refine Ex.seg hq 2 (j := 2) (L' := [.ref 55, .int x1, .int (x2 + (1 : Int32)), pu, pu]) (S' := []) (h' := hpS (sA s 109 (upd (s.2.1 109) (x2).toNatClampNeg (vp_nar .boolean (1 : Int32))))) rfl ?_
        exact ih x1 (x2 + (1 : Int32)) (sA s 109 (upd (s.2.1 109) (x2).toNatClampNeg (vp_nar .boolean (1 : Int32)))) k hX17
def w_266_L29 : Nat → Int32 → Int32 → Int32 → ST → (Int32 → Int32 → ST → Prop) → (ST → Prop) → Prop
  | 0, _, _, _, _, _, _ => False
  | n + 1, x2, x3, x4, s, X61, K => (((36 : Int32) ≤ x4 → X61 x2 x3 s) ∧ (¬ ((36 : Int32) ≤ x4) → (pin x3 36 = true ∧ ((((s.2.1 109) (x3).toNatClampNeg) = 0 → X61 x2 x3 s) ∧ (¬ (((s.2.1 109) (x3).toNatClampNeg) = 0) → (pin x4 36 = true ∧ ((¬ ((s.2.1 109) (x4).toNatClampNeg) = 0 → (pin x4 36 = true ∧ w_266_L29 n x2 x3 (x4 + (1 : Int32)) (sA s 109 (upd (s.2.1 109) (x4).toNatClampNeg (vp_nar .boolean (1 : Int32)))) X61 K)) ∧ (¬ (¬ ((s.2.1 109) (x4).toNatClampNeg) = 0) → (pin x3 36 = true ∧ (pin x4 36 = true ∧ (((((s.2.1 108) (x3).toNatClampNeg) &&& ((s.2.1 108) (x4).toNatClampNeg)) = 0 → (pin x4 36 = true ∧ w_266_L29 n x2 x3 (x4 + (1 : Int32)) (sA s 109 (upd (s.2.1 109) (x4).toNatClampNeg (vp_nar .boolean (0 : Int32)))) X61 K)) ∧ (¬ ((((s.2.1 108) (x3).toNatClampNeg) &&& ((s.2.1 108) (x4).toNatClampNeg)) = 0) → (pin x4 36 = true ∧ w_266_L29 n x2 x3 (x4 + (1 : Int32)) (sA s 109 (upd (s.2.1 109) (x4).toNatClampNeg (vp_nar .boolean (1 : Int32)))) X61 K)))))))))))))
theorem q_266_L29 {d : Nat} {X61 : Int32 → Int32 → ST → Prop} {K : ST → Prop} : ∀ (n : Nat) (x2 : Int32) (x3 : Int32) (x4 : Int32) (s : ST), w_266_L29 n x2 x3 x4 s X61 K → (∀ (y2 : Int32) (y3 : Int32) (s : ST), X61 y2 y3 s → Ex sc (d + 0) 266 61 [.ref 55, pu, .int y2, .int y3, pu] [] (hpS s) (kV K)) → Ex sc (d + 0) 266 29 [.ref 55, pu, .int x2, .int x3, .int x4] [] (hpS s) (kV K) := by
  have hq : prog[266]? = some pm266 := rfl
  intro n
  induction n with
  | zero =>
    intro x2 x3 x4 s k
    exact k.elim
  | succ n ih =>
    intro x2 x3 x4 s k hX61
    rw [w_266_L29] at k
    refine Ex.seg hq 2 (j := 31) (L' := [.ref 55, pu, .int x2, .int x3, .int x4]) (S' := [.int (36 : Int32), .int x4]) (h' := hpS s) rfl ?_
    refine Ex.i2 hq rfl (fun c => ?_) (fun c => ?_)
    · have k := k.1 c
      refine Ex.fg (L := [.ref 55, pu, .int x2, .int x3, pu]) ⟨Or.inl rfl, ⟨Or.inl rfl, ⟨Or.inl rfl, ⟨Or.inl rfl, ⟨Or.inr ⟨rfl, rfl⟩, trivial⟩⟩⟩⟩⟩ ?_
      exact hX61 x2 x3 s k
    · have k := k.2 c
      refine Ex.seg hq 3 (j := 35) (L' := [.ref 55, pu, .int x2, .int x3, .int x4]) (S' := [.int x3, .ref 109]) (h' := hpS s) rfl ?_
      obtain ⟨hin, k⟩ := k
      refine Ex.zal hq rfl rfl hin ?_
      refine Ex.i1 hq rfl (fun c => ?_) (fun c => ?_)
      · have k := k.1 c
        refine Ex.fg (L := [.ref 55, pu, .int x2, .int x3, pu]) ⟨Or.inl rfl, ⟨Or.inl rfl, ⟨Or.inl rfl, ⟨Or.inl rfl, ⟨Or.inr ⟨rfl, rfl⟩, trivial⟩⟩⟩⟩⟩ ?_
        exact hX61 x2 x3 s k
      · have k := k.2 c
        refine Ex.seg hq 6 (j := 43) (L' := [.ref 55, pu, .int x2, .int x3, .int x4]) (S' := [.int x4, .ref 109, .int x4, .ref 109]) (h' := hpS s) rfl ?_
        obtain ⟨hin, k⟩ := k
        refine Ex.zal hq rfl rfl hin ?_
        refine Ex.i1 hq rfl (fun c => ?_) (fun c => ?_)
        · have k := k.1 c
          refine Ex.seg hq 2 (j := 58) (L' := [.ref 55, pu, .int x2, .int x3, .int x4]) (S' := [.int (1 : Int32), .int x4, .ref 109]) (h' := hpS s) rfl ?_
          obtain ⟨hin, k⟩ := k
          refine Ex.zas hq rfl rfl hin (h' := hpS (sA s 109 (upd (s.2.1 109) (x4).toNatClampNeg (vp_nar .boolean (1 : Int32))))) (hset_109 _ _) ?_
          refine Ex.seg hq 2 (j := 29) (L' := [.ref 55, pu, .int x2, .int x3, .int (x4 + (1 : Int32))]) (S' := []) (h' := hpS (sA s 109 (upd (s.2.1 109) (x4).toNatClampNeg (vp_nar .boolean (1 : Int32))))) rfl ?_
          exact ih x2 x3 (x4 + (1 : Int32)) (sA s 109 (upd (s.2.1 109) (x4).toNatClampNeg (vp_nar .boolean (1 : Int32)))) k hX61
        · have k := k.2 c
          refine Ex.seg hq 3 (j := 48) (L' := [.ref 55, pu, .int x2, .int x3, .int x4]) (S' := [.int x3, .ref 108, .int x4, .ref 109]) (h' := hpS s) rfl ?_
          obtain ⟨hin, k⟩ := k
          refine Ex.ial hq rfl rfl hin ?_
          refine Ex.seg hq 3 (j := 52) (L' := [.ref 55, pu, .int x2, .int x3, .int x4]) (S' := [.int x4, .ref 108, .int ((s.2.1 108) (x3).toNatClampNeg), .int x4, .ref 109]) (h' := hpS s) rfl ?_
          obtain ⟨hin, k⟩ := k
          refine Ex.ial hq rfl rfl hin ?_
          refine Ex.seg hq 1 (j := 54) (L' := [.ref 55, pu, .int x2, .int x3, .int x4]) (S' := [.int (((s.2.1 108) (x3).toNatClampNeg) &&& ((s.2.1 108) (x4).toNatClampNeg)), .int x4, .ref 109]) (h' := hpS s) rfl ?_
          refine Ex.i1 hq rfl (fun c => ?_) (fun c => ?_)
          · have k := k.1 c
            refine Ex.seg hq 1 (j := 58) (L' := [.ref 55, pu, .int x2, .int x3, .int x4]) (S' := [.int (0 : Int32), .int x4, .ref 109]) (h' := hpS s) rfl ?_
            obtain ⟨hin, k⟩ := k
            refine Ex.zas hq rfl rfl hin (h' := hpS (sA s 109 (upd (s.2.1 109) (x4).toNatClampNeg (vp_nar .boolean (0 : Int32))))) (hset_109 _ _) ?_
            refine Ex.seg hq 2 (j := 29) (L' := [.ref 55, pu, .int x2, .int x3, .int (x4 + (1 : Int32))]) (S' := []) (h' := hpS (sA s 109 (upd (s.2.1 109) (x4).toNatClampNeg (vp_nar .boolean (0 : Int32))))) rfl ?_
            exact ih x2 x3 (x4 + (1 : Int32)) (sA s 109 (upd (s.2.1 109) (x4).toNatClampNeg (vp_nar .boolean (0 : Int32)))) k hX61
          · have k := k.2 c
            refine Ex.seg hq 2 (j := 58) (L' := [.ref 55, pu, .int x2, .int x3, .int x4]) (S' := [.int (1 : Int32), .int x4, .ref 109]) (h' := hpS s) rfl ?_
            obtain ⟨hin, k⟩ := k
            refine Ex.zas hq rfl rfl hin (h' := hpS (sA s 109 (upd (s.2.1 109) (x4).toNatClampNeg (vp_nar .boolean (1 : Int32))))) (hset_109 _ _) ?_
            refine Ex.seg hq 2 (j := 29) (L' := [.ref 55, pu, .int x2, .int x3, .int (x4 + (1 : Int32))]) (S' := []) (h' := hpS (sA s 109 (upd (s.2.1 109) (x4).toNatClampNeg (vp_nar .boolean (1 : Int32))))) rfl ?_
            exact ih x2 x3 (x4 + (1 : Int32)) (sA s 109 (upd (s.2.1 109) (x4).toNatClampNeg (vp_nar .boolean (1 : Int32)))) k hX61
def w_266_L24 : Nat → Int32 → Int32 → ST → (Int32 → ST → Prop) → (ST → Prop) → Prop
  | 0, _, _, _, _, _ => False
  | n + 1, x2, x3, s, X63, K => (((36 : Int32) ≤ x3 → X63 x2 s) ∧ (¬ ((36 : Int32) ≤ x3) → (∃ m, w_266_L29 m x2 x3 (0 : Int32) s (fun y2 y3 s2 => w_266_L24 n y2 (y3 + (1 : Int32)) s2 X63 K) K)))
theorem q_266_L24 {d : Nat} {X63 : Int32 → ST → Prop} {K : ST → Prop} : ∀ (n : Nat) (x2 : Int32) (x3 : Int32) (s : ST), w_266_L24 n x2 x3 s X63 K → (∀ (y2 : Int32) (s : ST), X63 y2 s → Ex sc (d + 0) 266 63 [.ref 55, pu, .int y2, pu, pu] [] (hpS s) (kV K)) → Ex sc (d + 0) 266 24 [.ref 55, pu, .int x2, .int x3, pu] [] (hpS s) (kV K) := by
  have hq : prog[266]? = some pm266 := rfl
  intro n
  induction n with
  | zero =>
    intro x2 x3 s k
    exact k.elim
  | succ n ih =>
    intro x2 x3 s k hX63
    rw [w_266_L24] at k
    refine Ex.seg hq 2 (j := 26) (L' := [.ref 55, pu, .int x2, .int x3, pu]) (S' := [.int (36 : Int32), .int x3]) (h' := hpS s) rfl ?_
    refine Ex.i2 hq rfl (fun c => ?_) (fun c => ?_)
    · have k := k.1 c
      refine Ex.fg (L := [.ref 55, pu, .int x2, pu, pu]) ⟨Or.inl rfl, ⟨Or.inl rfl, ⟨Or.inl rfl, ⟨Or.inr ⟨rfl, rfl⟩, ⟨Or.inl rfl, trivial⟩⟩⟩⟩⟩ ?_
      exact hX63 x2 s k
    · have k := k.2 c
      refine Ex.seg hq 2 (j := 29) (L' := [.ref 55, pu, .int x2, .int x3, .int (0 : Int32)]) (S' := []) (h' := hpS s) rfl ?_
      obtain ⟨m, k⟩ := k
      refine q_266_L29 (d := d) m x2 x3 (0 : Int32) s k ?_
      · intro y2 y3 s2 k
        refine Ex.seg hq 2 (j := 24) (L' := [.ref 55, pu, .int y2, .int (y3 + (1 : Int32)), pu]) (S' := []) (h' := hpS s2) rfl ?_
        exact ih y2 (y3 + (1 : Int32)) s2 k hX63
def w_266_L19 : Nat → Int32 → ST → (ST → Prop) → (ST → Prop) → Prop
  | 0, _, _, _, _ => False
  | n + 1, x2, s, X65, K => (((36 : Int32) ≤ x2 → X65  s) ∧ (¬ ((36 : Int32) ≤ x2) → (∃ m, w_266_L24 m x2 (0 : Int32) s (fun y2 s2 => w_266_L19 n (y2 + (1 : Int32)) s2 X65 K) K)))
theorem q_266_L19 {d : Nat} {X65 : ST → Prop} {K : ST → Prop} : ∀ (n : Nat) (x2 : Int32) (s : ST), w_266_L19 n x2 s X65 K → (∀ (s : ST), X65  s → Ex sc (d + 0) 266 65 [pu, pu, pu, pu, pu] [] (hpS s) (kV K)) → Ex sc (d + 0) 266 19 [.ref 55, pu, .int x2, pu, pu] [] (hpS s) (kV K) := by
  have hq : prog[266]? = some pm266 := rfl
  intro n
  induction n with
  | zero =>
    intro x2 s k
    exact k.elim
  | succ n ih =>
    intro x2 s k hX65
    rw [w_266_L19] at k
    refine Ex.seg hq 2 (j := 21) (L' := [.ref 55, pu, .int x2, pu, pu]) (S' := [.int (36 : Int32), .int x2]) (h' := hpS s) rfl ?_
    refine Ex.i2 hq rfl (fun c => ?_) (fun c => ?_)
    · have k := k.1 c
      refine Ex.fg (L := [pu, pu, pu, pu, pu]) ⟨Or.inr ⟨rfl, rfl⟩, ⟨Or.inl rfl, ⟨Or.inr ⟨rfl, rfl⟩, ⟨Or.inl rfl, ⟨Or.inl rfl, trivial⟩⟩⟩⟩⟩ ?_
      exact hX65  s k
    · have k := k.2 c
      refine Ex.seg hq 2 (j := 24) (L' := [.ref 55, pu, .int x2, .int (0 : Int32), pu]) (S' := []) (h' := hpS s) rfl ?_
      obtain ⟨m, k⟩ := k
      refine q_266_L24 (d := d) m x2 (0 : Int32) s k ?_
      · intro y2 s2 k
        refine Ex.seg hq 2 (j := 19) (L' := [.ref 55, pu, .int (y2 + (1 : Int32)), pu, pu]) (S' := []) (h' := hpS s2) rfl ?_
        exact ih (y2 + (1 : Int32)) s2 k hX65
/-- RowAuditorModel.gathers(I)V -/
def w_266 (p1 : Int32) (s : ST) (K : ST → Prop) : Prop := (∃ m, w_266_L2 m p1 (0 : Int32) s (fun s1 => (∃ m, w_266_L19 m (0 : Int32) s1 (fun s3 => K s3) K)) K)
theorem q_266 {d : Nat} {K : ST → Prop} (p1 : Int32) (s : ST) (k : w_266 p1 s K) : Rn sc (d + 0) 266 [.ref 55, .int p1] (hpS s) (kV K) := by
  have hq : prog[266]? = some pm266 := rfl
  refine Rn.of (L := [.ref 55, .int p1, pu, pu, pu]) hq rfl rfl ?_
  unfold w_266 at k
  refine Ex.seg hq 2 (j := 2) (L' := [.ref 55, .int p1, .int (0 : Int32), pu, pu]) (S' := []) (h' := hpS s) rfl ?_
  obtain ⟨m, k⟩ := k
  refine q_266_L2 (d := d) m p1 (0 : Int32) s k ?_
  · intro s1 k
    refine Ex.seg hq 2 (j := 19) (L' := [.ref 55, pu, .int (0 : Int32), pu, pu]) (S' := []) (h' := hpS s1) rfl ?_
    obtain ⟨m, k⟩ := k
    refine q_266_L19 (d := d) m (0 : Int32) s1 k ?_
    · intro s3 k
      exact Ex.rt hq rfl rfl ⟨s3, rfl, rfl, k⟩
end WP
