/-! ===== weakest preconditions, printed by wip/whole/genwp.py ===== -/
section WP
variable {sc : Nat × (Nat → Int32)}
/-- RowAuditorModel.behind(IZIZ)I -/
def w_267 (p1 : Int32) (p2 : Int32) (p3 : Int32) (p4 : Int32) (s : ST) (K : Int32 → ST → Prop) : Prop := w_264 p1 p2 s (fun r2 s1 => ((r2 = 0 → K (-1 : Int32) s1) ∧ (¬ (r2 = 0) → w_264 p3 p4 s1 (fun r4 s3 => ((¬ r4 = 0 → ((p2 = 0 → w_266 p1 s3 (fun s5 => ((p4 = 0 → (pin p3 36 = true ∧ ((((s5.2.1 109) (p3).toNatClampNeg) = 0 → K (0 : Int32) s5) ∧ (¬ (((s5.2.1 109) (p3).toNatClampNeg) = 0) → K (1 : Int32) s5)))) ∧ (¬ (p4 = 0) → (pin ((16 : Int32) + p3) 36 = true ∧ ((((s5.2.1 109) (((16 : Int32) + p3)).toNatClampNeg) = 0 → K (0 : Int32) s5) ∧ (¬ (((s5.2.1 109) (((16 : Int32) + p3)).toNatClampNeg) = 0) → K (1 : Int32) s5))))))) ∧ (¬ (p2 = 0) → w_266 ((16 : Int32) + p1) s3 (fun s7 => ((p4 = 0 → (pin p3 36 = true ∧ ((((s7.2.1 109) (p3).toNatClampNeg) = 0 → K (0 : Int32) s7) ∧ (¬ (((s7.2.1 109) (p3).toNatClampNeg) = 0) → K (1 : Int32) s7)))) ∧ (¬ (p4 = 0) → (pin ((16 : Int32) + p3) 36 = true ∧ ((((s7.2.1 109) (((16 : Int32) + p3)).toNatClampNeg) = 0 → K (0 : Int32) s7) ∧ (¬ (((s7.2.1 109) (((16 : Int32) + p3)).toNatClampNeg) = 0) → K (1 : Int32) s7))))))))) ∧ (¬ (¬ r4 = 0) → K (-1 : Int32) s3))))))
theorem q_267 {d : Nat} {K : Int32 → ST → Prop} (p1 : Int32) (p2 : Int32) (p3 : Int32) (p4 : Int32) (s : ST) (k : w_267 p1 p2 p3 p4 s K) : Rn sc (d + 1) 267 [.ref 55, .int p1, .int p2, .int p3, .int p4] (hpS s) (kI K) := by
  have hq : prog[267]? = some pm267 := rfl
  refine Rn.of (L := [.ref 55, .int p1, .int p2, .int p3, .int p4]) hq rfl rfl ?_
  unfold w_267 at k
  refine Ex.seg hq 2 (j := 2) (L' := [.ref 55, .int p1, .int p2, .int p3, .int p4]) (S' := [.int p2, .int p1]) (h' := hpS s) rfl ?_
  refine Ex.cl hq rfl rfl ?_
  refine Rn.mono (q_264 (d := d + 0) p1 p2 s k) ?_
  rintro _ _ ⟨r2, s1, rfl, hzr2, rfl, k⟩
  show Ex sc (d + 1) 267 3 [.ref 55, .int p1, .int p2, .int p3, .int p4] [.int r2] (hpS s1) _
  refine Ex.i1 hq rfl (fun c => ?_) (fun c => ?_)
  · have k := k.1 c
    refine Ex.seg hq 1 (j := 9) (L' := [.ref 55, .int p1, .int p2, .int p3, .int p4]) (S' := [.int (-1 : Int32)]) (h' := hpS s1) rfl ?_
    exact Ex.rt hq rfl rfl ⟨(-1 : Int32), s1, rfl, rfl, k⟩
  · have k := k.2 c
    refine Ex.seg hq 2 (j := 6) (L' := [.ref 55, .int p1, .int p2, .int p3, .int p4]) (S' := [.int p4, .int p3]) (h' := hpS s1) rfl ?_
    refine Ex.cl hq rfl rfl ?_
    refine Rn.mono (q_264 (d := d + 0) p3 p4 s1 k) ?_
    rintro _ _ ⟨r4, s3, rfl, hzr4, rfl, k⟩
    show Ex sc (d + 1) 267 7 [.ref 55, .int p1, .int p2, .int p3, .int p4] [.int r4] (hpS s3) _
    refine Ex.i1 hq rfl (fun c => ?_) (fun c => ?_)
    · have k := k.1 c
      refine Ex.seg hq 2 (j := 12) (L' := [.ref 55, .int p1, .int p2, .int p3, .int p4]) (S' := [.int p2, .ref 55]) (h' := hpS s3) rfl ?_
      refine Ex.i1 hq rfl (fun c => ?_) (fun c => ?_)
      · have k := k.1 c
        refine Ex.seg hq 1 (j := 18) (L' := [.ref 55, .int p1, .int p2, .int p3, .int p4]) (S' := [.int p1, .ref 55]) (h' := hpS s3) rfl ?_
        refine Ex.cl hq rfl rfl ?_
        refine Rn.mono (q_266 (d := d + 0) p1 s3 k) ?_
        rintro _ _ ⟨s5, rfl, rfl, k⟩
        show Ex sc (d + 1) 267 19 [.ref 55, .int p1, .int p2, .int p3, .int p4] [] (hpS s5) _
        refine Ex.seg hq 3 (j := 22) (L' := [.ref 55, .int p1, .int p2, .int p3, .int p4]) (S' := [.int p4, .ref 109]) (h' := hpS s5) rfl ?_
        refine Ex.i1 hq rfl (fun c => ?_) (fun c => ?_)
        · have k := k.1 c
          refine Ex.seg hq 1 (j := 28) (L' := [.ref 55, .int p1, .int p2, .int p3, .int p4]) (S' := [.int p3, .ref 109]) (h' := hpS s5) rfl ?_
          obtain ⟨hin, k⟩ := k
          refine Ex.zal hq rfl rfl hin ?_
          refine Ex.i1 hq rfl (fun c => ?_) (fun c => ?_)
          · have k := k.1 c
            refine Ex.seg hq 1 (j := 33) (L' := [.ref 55, .int p1, .int p2, .int p3, .int p4]) (S' := [.int (0 : Int32)]) (h' := hpS s5) rfl ?_
            exact Ex.rt hq rfl rfl ⟨(0 : Int32), s5, rfl, rfl, k⟩
          · have k := k.2 c
            refine Ex.seg hq 2 (j := 33) (L' := [.ref 55, .int p1, .int p2, .int p3, .int p4]) (S' := [.int (1 : Int32)]) (h' := hpS s5) rfl ?_
            exact Ex.rt hq rfl rfl ⟨(1 : Int32), s5, rfl, rfl, k⟩
        · have k := k.2 c
          refine Ex.seg hq 4 (j := 28) (L' := [.ref 55, .int p1, .int p2, .int p3, .int p4]) (S' := [.int ((16 : Int32) + p3), .ref 109]) (h' := hpS s5) rfl ?_
          obtain ⟨hin, k⟩ := k
          refine Ex.zal hq rfl rfl hin ?_
          refine Ex.i1 hq rfl (fun c => ?_) (fun c => ?_)
          · have k := k.1 c
            refine Ex.seg hq 1 (j := 33) (L' := [.ref 55, .int p1, .int p2, .int p3, .int p4]) (S' := [.int (0 : Int32)]) (h' := hpS s5) rfl ?_
            exact Ex.rt hq rfl rfl ⟨(0 : Int32), s5, rfl, rfl, k⟩
          · have k := k.2 c
            refine Ex.seg hq 2 (j := 33) (L' := [.ref 55, .int p1, .int p2, .int p3, .int p4]) (S' := [.int (1 : Int32)]) (h' := hpS s5) rfl ?_
            exact Ex.rt hq rfl rfl ⟨(1 : Int32), s5, rfl, rfl, k⟩
      · have k := k.2 c
        refine Ex.seg hq 4 (j := 18) (L' := [.ref 55, .int p1, .int p2, .int p3, .int p4]) (S' := [.int ((16 : Int32) + p1), .ref 55]) (h' := hpS s3) rfl ?_
        refine Ex.cl hq rfl rfl ?_
        refine Rn.mono (q_266 (d := d + 0) ((16 : Int32) + p1) s3 k) ?_
        rintro _ _ ⟨s7, rfl, rfl, k⟩
        show Ex sc (d + 1) 267 19 [.ref 55, .int p1, .int p2, .int p3, .int p4] [] (hpS s7) _
        refine Ex.seg hq 3 (j := 22) (L' := [.ref 55, .int p1, .int p2, .int p3, .int p4]) (S' := [.int p4, .ref 109]) (h' := hpS s7) rfl ?_
        refine Ex.i1 hq rfl (fun c => ?_) (fun c => ?_)
        · have k := k.1 c
          refine Ex.seg hq 1 (j := 28) (L' := [.ref 55, .int p1, .int p2, .int p3, .int p4]) (S' := [.int p3, .ref 109]) (h' := hpS s7) rfl ?_
          obtain ⟨hin, k⟩ := k
          refine Ex.zal hq rfl rfl hin ?_
          refine Ex.i1 hq rfl (fun c => ?_) (fun c => ?_)
          · have k := k.1 c
            refine Ex.seg hq 1 (j := 33) (L' := [.ref 55, .int p1, .int p2, .int p3, .int p4]) (S' := [.int (0 : Int32)]) (h' := hpS s7) rfl ?_
            exact Ex.rt hq rfl rfl ⟨(0 : Int32), s7, rfl, rfl, k⟩
          · have k := k.2 c
            refine Ex.seg hq 2 (j := 33) (L' := [.ref 55, .int p1, .int p2, .int p3, .int p4]) (S' := [.int (1 : Int32)]) (h' := hpS s7) rfl ?_
            exact Ex.rt hq rfl rfl ⟨(1 : Int32), s7, rfl, rfl, k⟩
        · have k := k.2 c
          refine Ex.seg hq 4 (j := 28) (L' := [.ref 55, .int p1, .int p2, .int p3, .int p4]) (S' := [.int ((16 : Int32) + p3), .ref 109]) (h' := hpS s7) rfl ?_
          obtain ⟨hin, k⟩ := k
          refine Ex.zal hq rfl rfl hin ?_
          refine Ex.i1 hq rfl (fun c => ?_) (fun c => ?_)
          · have k := k.1 c
            refine Ex.seg hq 1 (j := 33) (L' := [.ref 55, .int p1, .int p2, .int p3, .int p4]) (S' := [.int (0 : Int32)]) (h' := hpS s7) rfl ?_
            exact Ex.rt hq rfl rfl ⟨(0 : Int32), s7, rfl, rfl, k⟩
          · have k := k.2 c
            refine Ex.seg hq 2 (j := 33) (L' := [.ref 55, .int p1, .int p2, .int p3, .int p4]) (S' := [.int (1 : Int32)]) (h' := hpS s7) rfl ?_
            exact Ex.rt hq rfl rfl ⟨(1 : Int32), s7, rfl, rfl, k⟩
    · have k := k.2 c
      refine Ex.seg hq 1 (j := 9) (L' := [.ref 55, .int p1, .int p2, .int p3, .int p4]) (S' := [.int (-1 : Int32)]) (h' := hpS s3) rfl ?_
      exact Ex.rt hq rfl rfl ⟨(-1 : Int32), s3, rfl, rfl, k⟩
def w_268_L16 : Nat → Int32 → Int32 → ST → (Int32 → ST → Prop) → (Int32 → ST → Prop) → Prop
  | 0, _, _, _, _, _ => False
  | n + 1, x2, x3, s, X62, K => (((s.1 5520) ≤ x3 → X62 x2 s) ∧ (¬ ((s.1 5520) ≤ x3) → (pin x3 150 = true ∧ w_229 ((s.2.1 72) (x3).toNatClampNeg) s (fun r8 s7 => ((r8 = (-1 : Int32) → w_268_L16 n x2 (x3 + (1 : Int32)) s7 X62 K) ∧ (¬ (r8 = (-1 : Int32)) → (pin ((s.2.1 72) (x3).toNatClampNeg) 150 = true ∧ (pin ((16 : Int32) + ((s7.2.1 59) (((s.2.1 72) (x3).toNatClampNeg)).toNatClampNeg)) 36 = true ∧ ((¬ ((s7.2.1 109) (((16 : Int32) + ((s7.2.1 59) (((s.2.1 72) (x3).toNatClampNeg)).toNatClampNeg))).toNatClampNeg) = 0 → (pin ((s.2.1 72) (x3).toNatClampNeg) 150 = true ∧ ((¬ ((s7.2.1 57) (((s.2.1 72) (x3).toNatClampNeg)).toNatClampNeg) = (1 : Int32) → (pin ((s.2.1 72) (x3).toNatClampNeg) 150 = true ∧ w_268_L16 n (x2 + (-((s7.2.1 73) (((s.2.1 72) (x3).toNatClampNeg)).toNatClampNeg))) (x3 + (1 : Int32)) s7 X62 K)) ∧ (¬ (¬ ((s7.2.1 57) (((s.2.1 72) (x3).toNatClampNeg)).toNatClampNeg) = (1 : Int32)) → (pin ((s.2.1 72) (x3).toNatClampNeg) 150 = true ∧ w_268_L16 n (x2 + ((s7.2.1 73) (((s.2.1 72) (x3).toNatClampNeg)).toNatClampNeg)) (x3 + (1 : Int32)) s7 X62 K))))) ∧ (¬ (¬ ((s7.2.1 109) (((16 : Int32) + ((s7.2.1 59) (((s.2.1 72) (x3).toNatClampNeg)).toNatClampNeg))).toNatClampNeg) = 0) → w_268_L16 n x2 (x3 + (1 : Int32)) s7 X62 K))))))))))
theorem q_268_L16 {d : Nat} {X62 : Int32 → ST → Prop} {K : Int32 → ST → Prop} : ∀ (n : Nat) (x2 : Int32) (x3 : Int32) (s : ST), w_268_L16 n x2 x3 s X62 K → (∀ (y2 : Int32) (s : ST), X62 y2 s → Ex sc (d + 2) 268 62 [pu, pu, .int y2, pu, pu] [] (hpS s) (kI K)) → Ex sc (d + 2) 268 16 [.ref 55, pu, .int x2, .int x3, pu] [] (hpS s) (kI K) := by
  have hq : prog[268]? = some pm268 := rfl
  intro n
  induction n with
  | zero =>
    intro x2 x3 s k
    exact k.elim
  | succ n ih =>
    intro x2 x3 s k hX62
    rw [w_268_L16] at k
    refine Ex.seg hq 3 (j := 19) (L' := [.ref 55, pu, .int x2, .int x3, pu]) (S' := [.int (s.1 5520), .int x3]) (h' := hpS s) rfl ?_
    refine Ex.i2 hq rfl (fun c => ?_) (fun c => ?_)
    · have k := k.1 c
      refine Ex.fg (L := [pu, pu, .int x2, pu, pu]) ⟨Or.inr ⟨rfl, rfl⟩, ⟨Or.inl rfl, ⟨Or.inl rfl, ⟨Or.inr ⟨rfl, rfl⟩, ⟨Or.inl rfl, trivial⟩⟩⟩⟩⟩ ?_
      exact hX62 x2 s k
    · have k := k.2 c
      refine Ex.seg hq 3 (j := 23) (L' := [.ref 55, pu, .int x2, .int x3, pu]) (S' := [.int x3, .ref 72]) (h' := hpS s) rfl ?_
      obtain ⟨hin, k⟩ := k
      refine Ex.ial hq rfl rfl hin ?_
      refine Ex.seg hq 3 (j := 27) (L' := [.ref 55, pu, .int x2, .int x3, .int ((s.2.1 72) (x3).toNatClampNeg)]) (S' := [.int ((s.2.1 72) (x3).toNatClampNeg), .ref 55]) (h' := hpS s) rfl ?_
      refine Ex.cl hq rfl rfl ?_
      refine Rn.mono (q_229 (d := d + 1) ((s.2.1 72) (x3).toNatClampNeg) s k) ?_
      rintro _ _ ⟨r8, s7, rfl, rfl, k⟩
      show Ex sc (d + 2) 268 28 [.ref 55, pu, .int x2, .int x3, .int ((s.2.1 72) (x3).toNatClampNeg)] [.int r8] (hpS s7) _
      refine Ex.seg hq 1 (j := 29) (L' := [.ref 55, pu, .int x2, .int x3, .int ((s.2.1 72) (x3).toNatClampNeg)]) (S' := [.int (-1 : Int32), .int r8]) (h' := hpS s7) rfl ?_
      refine Ex.i2 hq rfl (fun c => ?_) (fun c => ?_)
      · have k := k.1 c
        refine Ex.seg hq 2 (j := 16) (L' := [.ref 55, pu, .int x2, .int (x3 + (1 : Int32)), .int ((s.2.1 72) (x3).toNatClampNeg)]) (S' := []) (h' := hpS s7) rfl ?_
        refine Ex.fg (L := [.ref 55, pu, .int x2, .int (x3 + (1 : Int32)), pu]) ⟨Or.inl rfl, ⟨Or.inl rfl, ⟨Or.inl rfl, ⟨Or.inl rfl, ⟨Or.inr ⟨rfl, rfl⟩, trivial⟩⟩⟩⟩⟩ ?_
        exact ih x2 (x3 + (1 : Int32)) s7 k hX62
      · have k := k.2 c
        refine Ex.seg hq 6 (j := 36) (L' := [.ref 55, pu, .int x2, .int x3, .int ((s.2.1 72) (x3).toNatClampNeg)]) (S' := [.int ((s.2.1 72) (x3).toNatClampNeg), .ref 59, .int (16 : Int32), .ref 109]) (h' := hpS s7) rfl ?_
        obtain ⟨hin, k⟩ := k
        refine Ex.ial hq rfl rfl hin ?_
        refine Ex.seg hq 1 (j := 38) (L' := [.ref 55, pu, .int x2, .int x3, .int ((s.2.1 72) (x3).toNatClampNeg)]) (S' := [.int ((16 : Int32) + ((s7.2.1 59) (((s.2.1 72) (x3).toNatClampNeg)).toNatClampNeg)), .ref 109]) (h' := hpS s7) rfl ?_
        obtain ⟨hin, k⟩ := k
        refine Ex.zal hq rfl rfl hin ?_
        refine Ex.i1 hq rfl (fun c => ?_) (fun c => ?_)
        · have k := k.1 c
          refine Ex.seg hq 4 (j := 45) (L' := [.ref 55, pu, .int x2, .int x3, .int ((s.2.1 72) (x3).toNatClampNeg)]) (S' := [.int ((s.2.1 72) (x3).toNatClampNeg), .ref 57, .int x2]) (h' := hpS s7) rfl ?_
          obtain ⟨hin, k⟩ := k
          refine Ex.ial hq rfl rfl hin ?_
          refine Ex.seg hq 1 (j := 47) (L' := [.ref 55, pu, .int x2, .int x3, .int ((s.2.1 72) (x3).toNatClampNeg)]) (S' := [.int (1 : Int32), .int ((s7.2.1 57) (((s.2.1 72) (x3).toNatClampNeg)).toNatClampNeg), .int x2]) (h' := hpS s7) rfl ?_
          refine Ex.i2 hq rfl (fun c => ?_) (fun c => ?_)
          · have k := k.1 c
            refine Ex.seg hq 3 (j := 56) (L' := [.ref 55, pu, .int x2, .int x3, .int ((s.2.1 72) (x3).toNatClampNeg)]) (S' := [.int ((s.2.1 72) (x3).toNatClampNeg), .ref 73, .int x2]) (h' := hpS s7) rfl ?_
            obtain ⟨hin, k⟩ := k
            refine Ex.ial hq rfl rfl hin ?_
            refine Ex.seg hq 5 (j := 16) (L' := [.ref 55, pu, .int (x2 + (-((s7.2.1 73) (((s.2.1 72) (x3).toNatClampNeg)).toNatClampNeg))), .int (x3 + (1 : Int32)), .int ((s.2.1 72) (x3).toNatClampNeg)]) (S' := []) (h' := hpS s7) rfl ?_
            refine Ex.fg (L := [.ref 55, pu, .int (x2 + (-((s7.2.1 73) (((s.2.1 72) (x3).toNatClampNeg)).toNatClampNeg))), .int (x3 + (1 : Int32)), pu]) ⟨Or.inl rfl, ⟨Or.inl rfl, ⟨Or.inl rfl, ⟨Or.inl rfl, ⟨Or.inr ⟨rfl, rfl⟩, trivial⟩⟩⟩⟩⟩ ?_
            exact ih (x2 + (-((s7.2.1 73) (((s.2.1 72) (x3).toNatClampNeg)).toNatClampNeg))) (x3 + (1 : Int32)) s7 k hX62
          · have k := k.2 c
            refine Ex.seg hq 3 (j := 51) (L' := [.ref 55, pu, .int x2, .int x3, .int ((s.2.1 72) (x3).toNatClampNeg)]) (S' := [.int ((s.2.1 72) (x3).toNatClampNeg), .ref 73, .int x2]) (h' := hpS s7) rfl ?_
            obtain ⟨hin, k⟩ := k
            refine Ex.ial hq rfl rfl hin ?_
            refine Ex.seg hq 5 (j := 16) (L' := [.ref 55, pu, .int (x2 + ((s7.2.1 73) (((s.2.1 72) (x3).toNatClampNeg)).toNatClampNeg)), .int (x3 + (1 : Int32)), .int ((s.2.1 72) (x3).toNatClampNeg)]) (S' := []) (h' := hpS s7) rfl ?_
            refine Ex.fg (L := [.ref 55, pu, .int (x2 + ((s7.2.1 73) (((s.2.1 72) (x3).toNatClampNeg)).toNatClampNeg)), .int (x3 + (1 : Int32)), pu]) ⟨Or.inl rfl, ⟨Or.inl rfl, ⟨Or.inl rfl, ⟨Or.inl rfl, ⟨Or.inr ⟨rfl, rfl⟩, trivial⟩⟩⟩⟩⟩ ?_
            exact ih (x2 + ((s7.2.1 73) (((s.2.1 72) (x3).toNatClampNeg)).toNatClampNeg)) (x3 + (1 : Int32)) s7 k hX62
        · have k := k.2 c
          refine Ex.seg hq 3 (j := 16) (L' := [.ref 55, pu, .int x2, .int (x3 + (1 : Int32)), .int ((s.2.1 72) (x3).toNatClampNeg)]) (S' := []) (h' := hpS s7) rfl ?_
          refine Ex.fg (L := [.ref 55, pu, .int x2, .int (x3 + (1 : Int32)), pu]) ⟨Or.inl rfl, ⟨Or.inl rfl, ⟨Or.inl rfl, ⟨Or.inl rfl, ⟨Or.inr ⟨rfl, rfl⟩, trivial⟩⟩⟩⟩⟩ ?_
          exact ih x2 (x3 + (1 : Int32)) s7 k hX62
/-- RowAuditorModel.grown(I)I -/
def w_268 (p1 : Int32) (s : ST) (K : Int32 → ST → Prop) : Prop := w_191 p1 s (fun r2 s1 => ((¬ r2 = 0 → w_266 p1 s1 (fun s3 => w_197 (s3.1 5500) s3 (fun s5 => (∃ m, w_268_L16 m (0 : Int32) (0 : Int32) s5 (fun y2 s9 => K y2 s9) K)))) ∧ (¬ (¬ r2 = 0) → K (-1000000000 : Int32) s1)))
theorem q_268 {d : Nat} {K : Int32 → ST → Prop} (p1 : Int32) (s : ST) (k : w_268 p1 s K) : Rn sc (d + 2) 268 [.ref 55, .int p1] (hpS s) (kI K) := by
  have hq : prog[268]? = some pm268 := rfl
  refine Rn.of (L := [.ref 55, .int p1, pu, pu, pu]) hq rfl rfl ?_
  unfold w_268 at k
  refine Ex.seg hq 1 (j := 1) (L' := [.ref 55, .int p1, pu, pu, pu]) (S' := [.int p1]) (h' := hpS s) rfl ?_
  refine Ex.cl hq rfl rfl ?_
  refine Rn.mono (q_191 (d := d + 1) p1 s k) ?_
  rintro _ _ ⟨r2, s1, rfl, hzr2, rfl, k⟩
  show Ex sc (d + 2) 268 2 [.ref 55, .int p1, pu, pu, pu] [.int r2] (hpS s1) _
  refine Ex.i1 hq rfl (fun c => ?_) (fun c => ?_)
  · have k := k.1 c
    refine Ex.seg hq 2 (j := 7) (L' := [.ref 55, .int p1, pu, pu, pu]) (S' := [.int p1, .ref 55]) (h' := hpS s1) rfl ?_
    refine Ex.cl hq rfl rfl ?_
    refine Rn.mono (q_266 (d := d + 1) p1 s1 k) ?_
    rintro _ _ ⟨s3, rfl, rfl, k⟩
    show Ex sc (d + 2) 268 8 [.ref 55, .int p1, pu, pu, pu] [] (hpS s3) _
    refine Ex.seg hq 3 (j := 11) (L' := [.ref 55, .int p1, pu, pu, pu]) (S' := [.int (s3.1 5500), .ref 55]) (h' := hpS s3) rfl ?_
    refine Ex.cl hq rfl rfl ?_
    refine Rn.mono (q_197 (d := d + 0) (s3.1 5500) s3 k) ?_
    rintro _ _ ⟨s5, rfl, rfl, k⟩
    show Ex sc (d + 2) 268 12 [.ref 55, .int p1, pu, pu, pu] [] (hpS s5) _
    refine Ex.seg hq 4 (j := 16) (L' := [.ref 55, .int p1, .int (0 : Int32), .int (0 : Int32), pu]) (S' := []) (h' := hpS s5) rfl ?_
    obtain ⟨m, k⟩ := k
    refine Ex.fg (L := [.ref 55, pu, .int (0 : Int32), .int (0 : Int32), pu]) ⟨Or.inl rfl, ⟨Or.inr ⟨rfl, rfl⟩, ⟨Or.inl rfl, ⟨Or.inl rfl, ⟨Or.inl rfl, trivial⟩⟩⟩⟩⟩ ?_
    refine q_268_L16 (d := d) m (0 : Int32) (0 : Int32) s5 k ?_
    · intro y2 s9 k
      refine Ex.seg hq 1 (j := 63) (L' := [pu, pu, .int y2, pu, pu]) (S' := [.int y2]) (h' := hpS s9) rfl ?_
      exact Ex.rt hq rfl rfl ⟨y2, s9, rfl, rfl, k⟩
  · have k := k.2 c
    refine Ex.seg hq 1 (j := 4) (L' := [.ref 55, .int p1, pu, pu, pu]) (S' := [.int (-1000000000 : Int32)]) (h' := hpS s1) rfl ?_
    exact Ex.rt hq rfl rfl ⟨(-1000000000 : Int32), s1, rfl, rfl, k⟩
/-- RowAuditorModel.ask(III)I -/
def w_270 (p1 : Int32) (p2 : Int32) (p3 : Int32) (s : ST) (K : Int32 → ST → Prop) : Prop := w_191 p1 s (fun r2 s1 => ((r2 = 0 → K (-1 : Int32) s1) ∧ (¬ (r2 = 0) → w_190 p2 s1 (fun r4 s3 => ((r4 = 0 → K (-1 : Int32) s3) ∧ (¬ (r4 = 0) → w_186 p3 ((s3.1 5500) + (1 : Int32)) (3999 : Int32) s3 (fun r6 s5 => ((r6 = 0 → K (-1 : Int32) s5) ∧ (¬ (r6 = 0) → ((¬ (s5.1 5578) = (60 : Int32) → (pin (s5.1 5578) 60 = true ∧ (pin (s5.1 5578) 60 = true ∧ (pin (s5.1 5578) 60 = true ∧ (pin (s5.1 5578) 60 = true ∧ K (((s5.1 5578) + (1 : Int32)) - (1 : Int32)) (sA (sA (sA (sA (sI s5 5578 ((s5.1 5578) + (1 : Int32))) 111 (upd (s5.2.1 111) ((s5.1 5578)).toNatClampNeg p1)) 112 (upd (s5.2.1 112) ((s5.1 5578)).toNatClampNeg p2)) 113 (upd (s5.2.1 113) ((s5.1 5578)).toNatClampNeg p3)) 114 (upd (s5.2.1 114) ((s5.1 5578)).toNatClampNeg (-1 : Int32)))))))) ∧ (¬ (¬ (s5.1 5578) = (60 : Int32)) → K (-1 : Int32) s5)))))))))))
theorem q_270 {d : Nat} {K : Int32 → ST → Prop} (p1 : Int32) (p2 : Int32) (p3 : Int32) (s : ST) (k : w_270 p1 p2 p3 s K) : Rn sc (d + 1) 270 [.ref 55, .int p1, .int p2, .int p3] (hpS s) (kI K) := by
  have hq : prog[270]? = some pm270 := rfl
  refine Rn.of (L := [.ref 55, .int p1, .int p2, .int p3]) hq rfl rfl ?_
  unfold w_270 at k
  refine Ex.seg hq 1 (j := 1) (L' := [.ref 55, .int p1, .int p2, .int p3]) (S' := [.int p1]) (h' := hpS s) rfl ?_
  refine Ex.cl hq rfl rfl ?_
  refine Rn.mono (q_191 (d := d + 0) p1 s k) ?_
  rintro _ _ ⟨r2, s1, rfl, hzr2, rfl, k⟩
  show Ex sc (d + 1) 270 2 [.ref 55, .int p1, .int p2, .int p3] [.int r2] (hpS s1) _
  refine Ex.i1 hq rfl (fun c => ?_) (fun c => ?_)
  · have k := k.1 c
    refine Ex.seg hq 1 (j := 20) (L' := [.ref 55, .int p1, .int p2, .int p3]) (S' := [.int (-1 : Int32)]) (h' := hpS s1) rfl ?_
    exact Ex.rt hq rfl rfl ⟨(-1 : Int32), s1, rfl, rfl, k⟩
  · have k := k.2 c
    refine Ex.seg hq 2 (j := 5) (L' := [.ref 55, .int p1, .int p2, .int p3]) (S' := [.int p2, .ref 55]) (h' := hpS s1) rfl ?_
    refine Ex.cl hq rfl rfl ?_
    refine Rn.mono (q_190 (d := d + 0) p2 s1 k) ?_
    rintro _ _ ⟨r4, s3, rfl, hzr4, rfl, k⟩
    show Ex sc (d + 1) 270 6 [.ref 55, .int p1, .int p2, .int p3] [.int r4] (hpS s3) _
    refine Ex.i1 hq rfl (fun c => ?_) (fun c => ?_)
    · have k := k.1 c
      refine Ex.seg hq 1 (j := 20) (L' := [.ref 55, .int p1, .int p2, .int p3]) (S' := [.int (-1 : Int32)]) (h' := hpS s3) rfl ?_
      exact Ex.rt hq rfl rfl ⟨(-1 : Int32), s3, rfl, rfl, k⟩
    · have k := k.2 c
      refine Ex.seg hq 6 (j := 13) (L' := [.ref 55, .int p1, .int p2, .int p3]) (S' := [.int (3999 : Int32), .int ((s3.1 5500) + (1 : Int32)), .int p3]) (h' := hpS s3) rfl ?_
      refine Ex.cl hq rfl rfl ?_
      refine Rn.mono (q_186 (d := d + 0) p3 ((s3.1 5500) + (1 : Int32)) (3999 : Int32) s3 k) ?_
      rintro _ _ ⟨r6, s5, rfl, hzr6, rfl, k⟩
      show Ex sc (d + 1) 270 14 [.ref 55, .int p1, .int p2, .int p3] [.int r6] (hpS s5) _
      refine Ex.i1 hq rfl (fun c => ?_) (fun c => ?_)
      · have k := k.1 c
        refine Ex.seg hq 1 (j := 20) (L' := [.ref 55, .int p1, .int p2, .int p3]) (S' := [.int (-1 : Int32)]) (h' := hpS s5) rfl ?_
        exact Ex.rt hq rfl rfl ⟨(-1 : Int32), s5, rfl, rfl, k⟩
      · have k := k.2 c
        refine Ex.seg hq 3 (j := 18) (L' := [.ref 55, .int p1, .int p2, .int p3]) (S' := [.int (60 : Int32), .int (s5.1 5578)]) (h' := hpS s5) rfl ?_
        refine Ex.i2 hq rfl (fun c => ?_) (fun c => ?_)
        · have k := k.1 c
          refine Ex.seg hq 5 (j := 26) (L' := [.ref 55, .int p1, .int p2, .int p3]) (S' := [.int p1, .int (s5.1 5578), .ref 111]) (h' := hpS s5) rfl ?_
          obtain ⟨hin, k⟩ := k
          refine Ex.ias hq rfl rfl hin (h' := hpS (sA s5 111 (upd (s5.2.1 111) ((s5.1 5578)).toNatClampNeg p1))) (hset_111 _ _) ?_
          refine Ex.seg hq 5 (j := 32) (L' := [.ref 55, .int p1, .int p2, .int p3]) (S' := [.int p2, .int (s5.1 5578), .ref 112]) (h' := hpS (sA s5 111 (upd (s5.2.1 111) ((s5.1 5578)).toNatClampNeg p1))) rfl ?_
          obtain ⟨hin, k⟩ := k
          refine Ex.ias hq rfl rfl hin (h' := hpS (sA (sA s5 111 (upd (s5.2.1 111) ((s5.1 5578)).toNatClampNeg p1)) 112 (upd (s5.2.1 112) ((s5.1 5578)).toNatClampNeg p2))) (hset_112 _ _) ?_
          refine Ex.seg hq 5 (j := 38) (L' := [.ref 55, .int p1, .int p2, .int p3]) (S' := [.int p3, .int (s5.1 5578), .ref 113]) (h' := hpS (sA (sA s5 111 (upd (s5.2.1 111) ((s5.1 5578)).toNatClampNeg p1)) 112 (upd (s5.2.1 112) ((s5.1 5578)).toNatClampNeg p2))) rfl ?_
          obtain ⟨hin, k⟩ := k
          refine Ex.ias hq rfl rfl hin (h' := hpS (sA (sA (sA s5 111 (upd (s5.2.1 111) ((s5.1 5578)).toNatClampNeg p1)) 112 (upd (s5.2.1 112) ((s5.1 5578)).toNatClampNeg p2)) 113 (upd (s5.2.1 113) ((s5.1 5578)).toNatClampNeg p3))) (hset_113 _ _) ?_
          refine Ex.seg hq 5 (j := 44) (L' := [.ref 55, .int p1, .int p2, .int p3]) (S' := [.int (-1 : Int32), .int (s5.1 5578), .ref 114]) (h' := hpS (sA (sA (sA s5 111 (upd (s5.2.1 111) ((s5.1 5578)).toNatClampNeg p1)) 112 (upd (s5.2.1 112) ((s5.1 5578)).toNatClampNeg p2)) 113 (upd (s5.2.1 113) ((s5.1 5578)).toNatClampNeg p3))) rfl ?_
          obtain ⟨hin, k⟩ := k
          refine Ex.ias hq rfl rfl hin (h' := hpS (sA (sA (sA (sA s5 111 (upd (s5.2.1 111) ((s5.1 5578)).toNatClampNeg p1)) 112 (upd (s5.2.1 112) ((s5.1 5578)).toNatClampNeg p2)) 113 (upd (s5.2.1 113) ((s5.1 5578)).toNatClampNeg p3)) 114 (upd (s5.2.1 114) ((s5.1 5578)).toNatClampNeg (-1 : Int32)))) (hset_114 _ _) ?_
          refine Ex.seg hq 10 (j := 55) (L' := [.ref 55, .int p1, .int p2, .int p3]) (S' := [.int (((s5.1 5578) + (1 : Int32)) - (1 : Int32))]) (h' := hpS (sA (sA (sA (sA (sI s5 5578 ((s5.1 5578) + (1 : Int32))) 111 (upd (s5.2.1 111) ((s5.1 5578)).toNatClampNeg p1)) 112 (upd (s5.2.1 112) ((s5.1 5578)).toNatClampNeg p2)) 113 (upd (s5.2.1 113) ((s5.1 5578)).toNatClampNeg p3)) 114 (upd (s5.2.1 114) ((s5.1 5578)).toNatClampNeg (-1 : Int32)))) rfl ?_
          exact Ex.rt hq rfl rfl ⟨(((s5.1 5578) + (1 : Int32)) - (1 : Int32)), (sA (sA (sA (sA (sI s5 5578 ((s5.1 5578) + (1 : Int32))) 111 (upd (s5.2.1 111) ((s5.1 5578)).toNatClampNeg p1)) 112 (upd (s5.2.1 112) ((s5.1 5578)).toNatClampNeg p2)) 113 (upd (s5.2.1 113) ((s5.1 5578)).toNatClampNeg p3)) 114 (upd (s5.2.1 114) ((s5.1 5578)).toNatClampNeg (-1 : Int32))), rfl, rfl, k⟩
        · have k := k.2 c
          refine Ex.seg hq 1 (j := 20) (L' := [.ref 55, .int p1, .int p2, .int p3]) (S' := [.int (-1 : Int32)]) (h' := hpS s5) rfl ?_
          exact Ex.rt hq rfl rfl ⟨(-1 : Int32), s5, rfl, rfl, k⟩
/-- RowAuditorModel.isAsking(I)Z -/
def w_271 (p1 : Int32) (s : ST) (K : Int32 → ST → Prop) : Prop := ((p1 < 0 → K (0 : Int32) s) ∧ (¬ (p1 < 0) → (((s.1 5578) ≤ p1 → K (0 : Int32) s) ∧ (¬ ((s.1 5578) ≤ p1) → K (1 : Int32) s))))
theorem q_271 {d : Nat} {K : Int32 → ST → Prop} (p1 : Int32) (s : ST) (k : w_271 p1 s K) : Rn sc (d + 0) 271 [.ref 55, .int p1] (hpS s) (kZ K) := by
  have hq : prog[271]? = some pm271 := rfl
  refine Rn.of (L := [.ref 55, .int p1]) hq rfl rfl ?_
  unfold w_271 at k
  refine Ex.seg hq 1 (j := 1) (L' := [.ref 55, .int p1]) (S' := [.int p1]) (h' := hpS s) rfl ?_
  refine Ex.i1 hq rfl (fun c => ?_) (fun c => ?_)
  · have k := k.1 c
    refine Ex.seg hq 1 (j := 9) (L' := [.ref 55, .int p1]) (S' := [.int (0 : Int32)]) (h' := hpS s) rfl ?_
    exact Ex.zr hq rfl rfl (Or.inl rfl) ⟨(0 : Int32), s, rfl, (Or.inl rfl), rfl, k⟩
  · have k := k.2 c
    refine Ex.seg hq 3 (j := 5) (L' := [.ref 55, .int p1]) (S' := [.int (s.1 5578), .int p1]) (h' := hpS s) rfl ?_
    refine Ex.i2 hq rfl (fun c => ?_) (fun c => ?_)
    · have k := k.1 c
      refine Ex.seg hq 1 (j := 9) (L' := [.ref 55, .int p1]) (S' := [.int (0 : Int32)]) (h' := hpS s) rfl ?_
      exact Ex.zr hq rfl rfl (Or.inl rfl) ⟨(0 : Int32), s, rfl, (Or.inl rfl), rfl, k⟩
    · have k := k.2 c
      refine Ex.seg hq 2 (j := 9) (L' := [.ref 55, .int p1]) (S' := [.int (1 : Int32)]) (h' := hpS s) rfl ?_
      exact Ex.zr hq rfl rfl (Or.inr rfl) ⟨(1 : Int32), s, rfl, (Or.inr rfl), rfl, k⟩
/-- RowAuditorModel.answer(II)Z -/
def w_272 (p1 : Int32) (p2 : Int32) (s : ST) (K : Int32 → ST → Prop) : Prop := w_271 p1 s (fun r2 s1 => ((r2 = 0 → K (0 : Int32) s1) ∧ (¬ (r2 = 0) → w_186 p2 (0 : Int32) (1000000 : Int32) s1 (fun r4 s3 => ((r4 = 0 → K (0 : Int32) s3) ∧ (¬ (r4 = 0) → (pin p1 60 = true ∧ ((((s3.2.1 114) (p1).toNatClampNeg) = (-1 : Int32) → (pin p1 60 = true ∧ K (1 : Int32) (sA s3 114 (upd (s3.2.1 114) (p1).toNatClampNeg p2)))) ∧ (¬ (((s3.2.1 114) (p1).toNatClampNeg) = (-1 : Int32)) → K (0 : Int32) s3)))))))))
theorem q_272 {d : Nat} {K : Int32 → ST → Prop} (p1 : Int32) (p2 : Int32) (s : ST) (k : w_272 p1 p2 s K) : Rn sc (d + 1) 272 [.ref 55, .int p1, .int p2] (hpS s) (kZ K) := by
  have hq : prog[272]? = some pm272 := rfl
  refine Rn.of (L := [.ref 55, .int p1, .int p2]) hq rfl rfl ?_
  unfold w_272 at k
  refine Ex.seg hq 2 (j := 2) (L' := [.ref 55, .int p1, .int p2]) (S' := [.int p1, .ref 55]) (h' := hpS s) rfl ?_
  refine Ex.cl hq rfl rfl ?_
  refine Rn.mono (q_271 (d := d + 0) p1 s k) ?_
  rintro _ _ ⟨r2, s1, rfl, hzr2, rfl, k⟩
  show Ex sc (d + 1) 272 3 [.ref 55, .int p1, .int p2] [.int r2] (hpS s1) _
  refine Ex.i1 hq rfl (fun c => ?_) (fun c => ?_)
  · have k := k.1 c
    refine Ex.seg hq 1 (j := 16) (L' := [.ref 55, .int p1, .int p2]) (S' := [.int (0 : Int32)]) (h' := hpS s1) rfl ?_
    exact Ex.zr hq rfl rfl (Or.inl rfl) ⟨(0 : Int32), s1, rfl, (Or.inl rfl), rfl, k⟩
  · have k := k.2 c
    refine Ex.seg hq 3 (j := 7) (L' := [.ref 55, .int p1, .int p2]) (S' := [.int (1000000 : Int32), .int (0 : Int32), .int p2]) (h' := hpS s1) rfl ?_
    refine Ex.cl hq rfl rfl ?_
    refine Rn.mono (q_186 (d := d + 0) p2 (0 : Int32) (1000000 : Int32) s1 k) ?_
    rintro _ _ ⟨r4, s3, rfl, hzr4, rfl, k⟩
    show Ex sc (d + 1) 272 8 [.ref 55, .int p1, .int p2] [.int r4] (hpS s3) _
    refine Ex.i1 hq rfl (fun c => ?_) (fun c => ?_)
    · have k := k.1 c
      refine Ex.seg hq 1 (j := 16) (L' := [.ref 55, .int p1, .int p2]) (S' := [.int (0 : Int32)]) (h' := hpS s3) rfl ?_
      exact Ex.zr hq rfl rfl (Or.inl rfl) ⟨(0 : Int32), s3, rfl, (Or.inl rfl), rfl, k⟩
    · have k := k.2 c
      refine Ex.seg hq 3 (j := 12) (L' := [.ref 55, .int p1, .int p2]) (S' := [.int p1, .ref 114]) (h' := hpS s3) rfl ?_
      obtain ⟨hin, k⟩ := k
      refine Ex.ial hq rfl rfl hin ?_
      refine Ex.seg hq 1 (j := 14) (L' := [.ref 55, .int p1, .int p2]) (S' := [.int (-1 : Int32), .int ((s3.2.1 114) (p1).toNatClampNeg)]) (h' := hpS s3) rfl ?_
      refine Ex.i2 hq rfl (fun c => ?_) (fun c => ?_)
      · have k := k.1 c
        refine Ex.seg hq 4 (j := 21) (L' := [.ref 55, .int p1, .int p2]) (S' := [.int p2, .int p1, .ref 114]) (h' := hpS s3) rfl ?_
        obtain ⟨hin, k⟩ := k
        refine Ex.ias hq rfl rfl hin (h' := hpS (sA s3 114 (upd (s3.2.1 114) (p1).toNatClampNeg p2))) (hset_114 _ _) ?_
        refine Ex.seg hq 1 (j := 23) (L' := [.ref 55, .int p1, .int p2]) (S' := [.int (1 : Int32)]) (h' := hpS (sA s3 114 (upd (s3.2.1 114) (p1).toNatClampNeg p2))) rfl ?_
        exact Ex.zr hq rfl rfl (Or.inr rfl) ⟨(1 : Int32), (sA s3 114 (upd (s3.2.1 114) (p1).toNatClampNeg p2)), rfl, (Or.inr rfl), rfl, k⟩
      · have k := k.2 c
        refine Ex.seg hq 1 (j := 16) (L' := [.ref 55, .int p1, .int p2]) (S' := [.int (0 : Int32)]) (h' := hpS s3) rfl ?_
        exact Ex.zr hq rfl rfl (Or.inl rfl) ⟨(0 : Int32), s3, rfl, (Or.inl rfl), rfl, k⟩
/-- RowAuditorModel.asked(I)I -/
def w_273 (p1 : Int32) (s : ST) (K : Int32 → ST → Prop) : Prop := w_271 p1 s (fun r2 s1 => ((¬ r2 = 0 → (pin p1 60 = true ∧ ((¬ ((s1.2.1 114) (p1).toNatClampNeg) = (-1 : Int32) → (pin p1 60 = true ∧ w_194 ((s1.2.1 112) (p1).toNatClampNeg) (s1.1 5500) s1 (fun r4 s3 => ((r4 = 0 → K (2 : Int32) s3) ∧ (¬ (r4 = 0) → (pin p1 60 = true ∧ ((r4 = ((s3.2.1 114) (p1).toNatClampNeg) → K (3 : Int32) s3) ∧ (¬ (r4 = ((s3.2.1 114) (p1).toNatClampNeg)) → K (2 : Int32) s3)))))))) ∧ (¬ (¬ ((s1.2.1 114) (p1).toNatClampNeg) = (-1 : Int32)) → (pin p1 60 = true ∧ (((s1.1 5500) ≤ ((s1.2.1 113) (p1).toNatClampNeg) → K (0 : Int32) s1) ∧ (¬ ((s1.1 5500) ≤ ((s1.2.1 113) (p1).toNatClampNeg)) → K (1 : Int32) s1))))))) ∧ (¬ (¬ r2 = 0) → K (-1 : Int32) s1)))
theorem q_273 {d : Nat} {K : Int32 → ST → Prop} (p1 : Int32) (s : ST) (k : w_273 p1 s K) : Rn sc (d + 1) 273 [.ref 55, .int p1] (hpS s) (kI K) := by
  have hq : prog[273]? = some pm273 := rfl
  refine Rn.of (L := [.ref 55, .int p1, pu]) hq rfl rfl ?_
  unfold w_273 at k
  refine Ex.seg hq 2 (j := 2) (L' := [.ref 55, .int p1, pu]) (S' := [.int p1, .ref 55]) (h' := hpS s) rfl ?_
  refine Ex.cl hq rfl rfl ?_
  refine Rn.mono (q_271 (d := d + 0) p1 s k) ?_
  rintro _ _ ⟨r2, s1, rfl, hzr2, rfl, k⟩
  show Ex sc (d + 1) 273 3 [.ref 55, .int p1, pu] [.int r2] (hpS s1) _
  refine Ex.i1 hq rfl (fun c => ?_) (fun c => ?_)
  · have k := k.1 c
    refine Ex.seg hq 3 (j := 9) (L' := [.ref 55, .int p1, pu]) (S' := [.int p1, .ref 114]) (h' := hpS s1) rfl ?_
    obtain ⟨hin, k⟩ := k
    refine Ex.ial hq rfl rfl hin ?_
    refine Ex.seg hq 1 (j := 11) (L' := [.ref 55, .int p1, pu]) (S' := [.int (-1 : Int32), .int ((s1.2.1 114) (p1).toNatClampNeg)]) (h' := hpS s1) rfl ?_
    refine Ex.i2 hq rfl (fun c => ?_) (fun c => ?_)
    · have k := k.1 c
      refine Ex.seg hq 4 (j := 27) (L' := [.ref 55, .int p1, pu]) (S' := [.int p1, .ref 112, .ref 55]) (h' := hpS s1) rfl ?_
      obtain ⟨hin, k⟩ := k
      refine Ex.ial hq rfl rfl hin ?_
      refine Ex.seg hq 2 (j := 30) (L' := [.ref 55, .int p1, pu]) (S' := [.int (s1.1 5500), .int ((s1.2.1 112) (p1).toNatClampNeg), .ref 55]) (h' := hpS s1) rfl ?_
      refine Ex.cl hq rfl rfl ?_
      refine Rn.mono (q_194 (d := d + 0) ((s1.2.1 112) (p1).toNatClampNeg) (s1.1 5500) s1 k) ?_
      rintro _ _ ⟨r4, s3, rfl, rfl, k⟩
      show Ex sc (d + 1) 273 31 [.ref 55, .int p1, pu] [.int r4] (hpS s3) _
      refine Ex.seg hq 2 (j := 33) (L' := [.ref 55, .int p1, .int r4]) (S' := [.int r4]) (h' := hpS s3) rfl ?_
      refine Ex.i1 hq rfl (fun c => ?_) (fun c => ?_)
      · have k := k.1 c
        refine Ex.seg hq 2 (j := 43) (L' := [.ref 55, .int p1, .int r4]) (S' := [.int (2 : Int32)]) (h' := hpS s3) rfl ?_
        exact Ex.rt hq rfl rfl ⟨(2 : Int32), s3, rfl, rfl, k⟩
      · have k := k.2 c
        refine Ex.seg hq 4 (j := 38) (L' := [.ref 55, .int p1, .int r4]) (S' := [.int p1, .ref 114, .int r4]) (h' := hpS s3) rfl ?_
        obtain ⟨hin, k⟩ := k
        refine Ex.ial hq rfl rfl hin ?_
        refine Ex.i2 hq rfl (fun c => ?_) (fun c => ?_)
        · have k := k.1 c
          refine Ex.seg hq 1 (j := 43) (L' := [.ref 55, .int p1, .int r4]) (S' := [.int (3 : Int32)]) (h' := hpS s3) rfl ?_
          exact Ex.rt hq rfl rfl ⟨(3 : Int32), s3, rfl, rfl, k⟩
        · have k := k.2 c
          refine Ex.seg hq 2 (j := 43) (L' := [.ref 55, .int p1, .int r4]) (S' := [.int (2 : Int32)]) (h' := hpS s3) rfl ?_
          exact Ex.rt hq rfl rfl ⟨(2 : Int32), s3, rfl, rfl, k⟩
    · have k := k.2 c
      refine Ex.seg hq 3 (j := 15) (L' := [.ref 55, .int p1, pu]) (S' := [.int p1, .ref 113]) (h' := hpS s1) rfl ?_
      obtain ⟨hin, k⟩ := k
      refine Ex.ial hq rfl rfl hin ?_
      refine Ex.seg hq 2 (j := 18) (L' := [.ref 55, .int p1, pu]) (S' := [.int (s1.1 5500), .int ((s1.2.1 113) (p1).toNatClampNeg)]) (h' := hpS s1) rfl ?_
      refine Ex.i2 hq rfl (fun c => ?_) (fun c => ?_)
      · have k := k.1 c
        refine Ex.seg hq 1 (j := 22) (L' := [.ref 55, .int p1, pu]) (S' := [.int (0 : Int32)]) (h' := hpS s1) rfl ?_
        exact Ex.rt hq rfl rfl ⟨(0 : Int32), s1, rfl, rfl, k⟩
      · have k := k.2 c
        refine Ex.seg hq 2 (j := 22) (L' := [.ref 55, .int p1, pu]) (S' := [.int (1 : Int32)]) (h' := hpS s1) rfl ?_
        exact Ex.rt hq rfl rfl ⟨(1 : Int32), s1, rfl, rfl, k⟩
  · have k := k.2 c
    refine Ex.seg hq 1 (j := 5) (L' := [.ref 55, .int p1, pu]) (S' := [.int (-1 : Int32)]) (h' := hpS s1) rfl ?_
    exact Ex.rt hq rfl rfl ⟨(-1 : Int32), s1, rfl, rfl, k⟩
/-- RowAuditorModel.putIn(I)Z -/
def w_274 (p1 : Int32) (s : ST) (K : Int32 → ST → Prop) : Prop := w_190 p1 s (fun r2 s1 => ((r2 = 0 → K (0 : Int32) s1) ∧ (¬ (r2 = 0) → (pin p1 150 = true ∧ ((((s1.2.1 68) (p1).toNatClampNeg) = 0 → (pin p1 150 = true ∧ K (1 : Int32) (sA s1 68 (upd (s1.2.1 68) (p1).toNatClampNeg (vp_nar .boolean (1 : Int32)))))) ∧ (¬ (((s1.2.1 68) (p1).toNatClampNeg) = 0) → K (0 : Int32) s1))))))
theorem q_274 {d : Nat} {K : Int32 → ST → Prop} (p1 : Int32) (s : ST) (k : w_274 p1 s K) : Rn sc (d + 1) 274 [.ref 55, .int p1] (hpS s) (kZ K) := by
  have hq : prog[274]? = some pm274 := rfl
  refine Rn.of (L := [.ref 55, .int p1]) hq rfl rfl ?_
  unfold w_274 at k
  refine Ex.seg hq 2 (j := 2) (L' := [.ref 55, .int p1]) (S' := [.int p1, .ref 55]) (h' := hpS s) rfl ?_
  refine Ex.cl hq rfl rfl ?_
  refine Rn.mono (q_190 (d := d + 0) p1 s k) ?_
  rintro _ _ ⟨r2, s1, rfl, hzr2, rfl, k⟩
  show Ex sc (d + 1) 274 3 [.ref 55, .int p1] [.int r2] (hpS s1) _
  refine Ex.i1 hq rfl (fun c => ?_) (fun c => ?_)
  · have k := k.1 c
    refine Ex.seg hq 1 (j := 10) (L' := [.ref 55, .int p1]) (S' := [.int (0 : Int32)]) (h' := hpS s1) rfl ?_
    exact Ex.zr hq rfl rfl (Or.inl rfl) ⟨(0 : Int32), s1, rfl, (Or.inl rfl), rfl, k⟩
  · have k := k.2 c
    refine Ex.seg hq 3 (j := 7) (L' := [.ref 55, .int p1]) (S' := [.int p1, .ref 68]) (h' := hpS s1) rfl ?_
    obtain ⟨hin, k⟩ := k
    refine Ex.zal hq rfl rfl hin ?_
    refine Ex.i1 hq rfl (fun c => ?_) (fun c => ?_)
    · have k := k.1 c
      refine Ex.seg hq 4 (j := 15) (L' := [.ref 55, .int p1]) (S' := [.int (1 : Int32), .int p1, .ref 68]) (h' := hpS s1) rfl ?_
      obtain ⟨hin, k⟩ := k
      refine Ex.zas hq rfl rfl hin (h' := hpS (sA s1 68 (upd (s1.2.1 68) (p1).toNatClampNeg (vp_nar .boolean (1 : Int32))))) (hset_68 _ _) ?_
      refine Ex.seg hq 1 (j := 17) (L' := [.ref 55, .int p1]) (S' := [.int (1 : Int32)]) (h' := hpS (sA s1 68 (upd (s1.2.1 68) (p1).toNatClampNeg (vp_nar .boolean (1 : Int32))))) rfl ?_
      exact Ex.zr hq rfl rfl (Or.inr rfl) ⟨(1 : Int32), (sA s1 68 (upd (s1.2.1 68) (p1).toNatClampNeg (vp_nar .boolean (1 : Int32)))), rfl, (Or.inr rfl), rfl, k⟩
    · have k := k.2 c
      refine Ex.seg hq 1 (j := 10) (L' := [.ref 55, .int p1]) (S' := [.int (0 : Int32)]) (h' := hpS s1) rfl ?_
      exact Ex.zr hq rfl rfl (Or.inl rfl) ⟨(0 : Int32), s1, rfl, (Or.inl rfl), rfl, k⟩
def w_275_L15 : Nat → Int32 → Int32 → Int32 → ST → (Int32 → ST → Prop) → (Int32 → ST → Prop) → Prop
  | 0, _, _, _, _, _, _ => False
  | n + 1, x1, x2, x3, s, X46, K => (((s.1 5520) ≤ x3 → X46 x2 s) ∧ (¬ ((s.1 5520) ≤ x3) → (pin x3 150 = true ∧ (pin ((s.2.1 72) (x3).toNatClampNeg) 150 = true ∧ ((((s.2.1 68) (((s.2.1 72) (x3).toNatClampNeg)).toNatClampNeg) = 0 → w_275_L15 n x1 (x2 + (0 : Int32)) (x3 + (1 : Int32)) s X46 K) ∧ (¬ (((s.2.1 68) (((s.2.1 72) (x3).toNatClampNeg)).toNatClampNeg) = 0) → ((x1 = 0 → w_275_L15 n x1 (x2 + (1 : Int32)) (x3 + (1 : Int32)) s X46 K) ∧ (¬ (x1 = 0) → (pin x3 150 = true ∧ w_239 ((s.2.1 72) (x3).toNatClampNeg) (s.1 5500) s (fun r6 s5 => ((r6 = 0 → w_275_L15 n x1 (x2 + (0 : Int32)) (x3 + (1 : Int32)) s5 X46 K) ∧ (¬ (r6 = 0) → w_275_L15 n x1 (x2 + (1 : Int32)) (x3 + (1 : Int32)) s5 X46 K))))))))))))
theorem q_275_L15 {d : Nat} {X46 : Int32 → ST → Prop} {K : Int32 → ST → Prop} : ∀ (n : Nat) (x1 : Int32) (x2 : Int32) (x3 : Int32) (s : ST), w_275_L15 n x1 x2 x3 s X46 K → (∀ (y2 : Int32) (s : ST), X46 y2 s → Ex sc (d + 5) 275 46 [pu, pu, .int y2, pu] [] (hpS s) (kI K)) → Ex sc (d + 5) 275 15 [.ref 55, .int x1, .int x2, .int x3] [] (hpS s) (kI K) := by
  have hq : prog[275]? = some pm275 := rfl
  intro n
  induction n with
  | zero =>
    intro x1 x2 x3 s k
    exact k.elim
  | succ n ih =>
    intro x1 x2 x3 s k hX46
    rw [w_275_L15] at k
    refine Ex.seg hq 3 (j := 18) (L' := [.ref 55, .int x1, .int x2, .int x3]) (S' := [.int (s.1 5520), .int x3]) (h' := hpS s) rfl ?_
    refine Ex.i2 hq rfl (fun c => ?_) (fun c => ?_)
    · have k := k.1 c
      refine Ex.fg (L := [pu, pu, .int x2, pu]) ⟨Or.inr ⟨rfl, rfl⟩, ⟨Or.inr ⟨rfl, rfl⟩, ⟨Or.inl rfl, ⟨Or.inr ⟨rfl, rfl⟩, trivial⟩⟩⟩⟩ ?_
      exact hX46 x2 s k
    · have k := k.2 c
      refine Ex.seg hq 6 (j := 25) (L' := [.ref 55, .int x1, .int x2, .int x3]) (S' := [.int x3, .ref 72, .ref 68, .int x2]) (h' := hpS s) rfl ?_
      obtain ⟨hin, k⟩ := k
      refine Ex.ial hq rfl rfl hin ?_
      obtain ⟨hin, k⟩ := k
      refine Ex.zal hq rfl rfl hin ?_
      refine Ex.i1 hq rfl (fun c => ?_) (fun c => ?_)
      · have k := k.1 c
        refine Ex.seg hq 5 (j := 15) (L' := [.ref 55, .int x1, .int (x2 + (0 : Int32)), .int (x3 + (1 : Int32))]) (S' := []) (h' := hpS s) rfl ?_
        exact ih x1 (x2 + (0 : Int32)) (x3 + (1 : Int32)) s k hX46
      · have k := k.2 c
        refine Ex.seg hq 1 (j := 29) (L' := [.ref 55, .int x1, .int x2, .int x3]) (S' := [.int x1, .int x2]) (h' := hpS s) rfl ?_
        refine Ex.i1 hq rfl (fun c => ?_) (fun c => ?_)
        · have k := k.1 c
          refine Ex.seg hq 6 (j := 15) (L' := [.ref 55, .int x1, .int (x2 + (1 : Int32)), .int (x3 + (1 : Int32))]) (S' := []) (h' := hpS s) rfl ?_
          exact ih x1 (x2 + (1 : Int32)) (x3 + (1 : Int32)) s k hX46
        · have k := k.2 c
          refine Ex.seg hq 4 (j := 34) (L' := [.ref 55, .int x1, .int x2, .int x3]) (S' := [.int x3, .ref 72, .ref 55, .int x2]) (h' := hpS s) rfl ?_
          obtain ⟨hin, k⟩ := k
          refine Ex.ial hq rfl rfl hin ?_
          refine Ex.seg hq 2 (j := 37) (L' := [.ref 55, .int x1, .int x2, .int x3]) (S' := [.int (s.1 5500), .int ((s.2.1 72) (x3).toNatClampNeg), .ref 55, .int x2]) (h' := hpS s) rfl ?_
          refine Ex.cl hq rfl rfl ?_
          refine Rn.mono (q_239 (d := d + 0) ((s.2.1 72) (x3).toNatClampNeg) (s.1 5500) s k) ?_
          rintro _ _ ⟨r6, s5, rfl, hzr6, rfl, k⟩
          show Ex sc (d + 5) 275 38 [.ref 55, .int x1, .int x2, .int x3] [.int r6, .int x2] (hpS s5) _
          refine Ex.i1 hq rfl (fun c => ?_) (fun c => ?_)
          · have k := k.1 c
            refine Ex.seg hq 5 (j := 15) (L' := [.ref 55, .int x1, .int (x2 + (0 : Int32)), .int (x3 + (1 : Int32))]) (S' := []) (h' := hpS s5) rfl ?_
            exact ih x1 (x2 + (0 : Int32)) (x3 + (1 : Int32)) s5 k hX46
          · have k := k.2 c
            refine Ex.seg hq 6 (j := 15) (L' := [.ref 55, .int x1, .int (x2 + (1 : Int32)), .int (x3 + (1 : Int32))]) (S' := []) (h' := hpS s5) rfl ?_
            exact ih x1 (x2 + (1 : Int32)) (x3 + (1 : Int32)) s5 k hX46
/-- RowAuditorModel.found(I)I -/
def w_275 (p1 : Int32) (s : ST) (K : Int32 → ST → Prop) : Prop := w_186 p1 (0 : Int32) (1 : Int32) s (fun r2 s1 => ((¬ r2 = 0 → w_197 (s1.1 5500) s1 (fun s3 => (∃ m, w_275_L15 m p1 (0 : Int32) (0 : Int32) s3 (fun y2 s7 => K y2 s7) K))) ∧ (¬ (¬ r2 = 0) → K (-1 : Int32) s1)))
theorem q_275 {d : Nat} {K : Int32 → ST → Prop} (p1 : Int32) (s : ST) (k : w_275 p1 s K) : Rn sc (d + 5) 275 [.ref 55, .int p1] (hpS s) (kI K) := by
  have hq : prog[275]? = some pm275 := rfl
  refine Rn.of (L := [.ref 55, .int p1, pu, pu]) hq rfl rfl ?_
  unfold w_275 at k
  refine Ex.seg hq 3 (j := 3) (L' := [.ref 55, .int p1, pu, pu]) (S' := [.int (1 : Int32), .int (0 : Int32), .int p1]) (h' := hpS s) rfl ?_
  refine Ex.cl hq rfl rfl ?_
  refine Rn.mono (q_186 (d := d + 4) p1 (0 : Int32) (1 : Int32) s k) ?_
  rintro _ _ ⟨r2, s1, rfl, hzr2, rfl, k⟩
  show Ex sc (d + 5) 275 4 [.ref 55, .int p1, pu, pu] [.int r2] (hpS s1) _
  refine Ex.i1 hq rfl (fun c => ?_) (fun c => ?_)
  · have k := k.1 c
    refine Ex.seg hq 3 (j := 10) (L' := [.ref 55, .int p1, pu, pu]) (S' := [.int (s1.1 5500), .ref 55]) (h' := hpS s1) rfl ?_
    refine Ex.cl hq rfl rfl ?_
    refine Rn.mono (q_197 (d := d + 3) (s1.1 5500) s1 k) ?_
    rintro _ _ ⟨s3, rfl, rfl, k⟩
    show Ex sc (d + 5) 275 11 [.ref 55, .int p1, pu, pu] [] (hpS s3) _
    refine Ex.seg hq 4 (j := 15) (L' := [.ref 55, .int p1, .int (0 : Int32), .int (0 : Int32)]) (S' := []) (h' := hpS s3) rfl ?_
    obtain ⟨m, k⟩ := k
    refine q_275_L15 (d := d) m p1 (0 : Int32) (0 : Int32) s3 k ?_
    · intro y2 s7 k
      refine Ex.seg hq 1 (j := 47) (L' := [pu, pu, .int y2, pu]) (S' := [.int y2]) (h' := hpS s7) rfl ?_
      exact Ex.rt hq rfl rfl ⟨y2, s7, rfl, rfl, k⟩
  · have k := k.2 c
    refine Ex.seg hq 1 (j := 6) (L' := [.ref 55, .int p1, pu, pu]) (S' := [.int (-1 : Int32)]) (h' := hpS s1) rfl ?_
    exact Ex.rt hq rfl rfl ⟨(-1 : Int32), s1, rfl, rfl, k⟩
/-- RowAuditorModel.reading(III)I -/
def w_276 (p1 : Int32) (p2 : Int32) (p3 : Int32) (s : ST) (K : Int32 → ST → Prop) : Prop := w_186 p1 (1 : Int32) (1000 : Int32) s (fun r2 s1 => ((r2 = 0 → K (-1 : Int32) s1) ∧ (¬ (r2 = 0) → w_186 p2 (0 : Int32) (100000 : Int32) s1 (fun r4 s3 => ((r4 = 0 → K (-1 : Int32) s3) ∧ (¬ (r4 = 0) → w_186 p3 (-1 : Int32) ((s3.1 5579) - (1 : Int32)) s3 (fun r6 s5 => ((r6 = 0 → K (-1 : Int32) s5) ∧ (¬ (r6 = 0) → ((¬ (s5.1 5579) = (9 : Int32) → (pin (s5.1 5579) 9 = true ∧ (pin (s5.1 5579) 9 = true ∧ (pin (s5.1 5579) 9 = true ∧ K (((s5.1 5579) + (1 : Int32)) - (1 : Int32)) (sA (sA (sA (sI s5 5579 ((s5.1 5579) + (1 : Int32))) 115 (upd (s5.2.1 115) ((s5.1 5579)).toNatClampNeg p1)) 116 (upd (s5.2.1 116) ((s5.1 5579)).toNatClampNeg p2)) 117 (upd (s5.2.1 117) ((s5.1 5579)).toNatClampNeg p3)))))) ∧ (¬ (¬ (s5.1 5579) = (9 : Int32)) → K (-1 : Int32) s5)))))))))))
theorem q_276 {d : Nat} {K : Int32 → ST → Prop} (p1 : Int32) (p2 : Int32) (p3 : Int32) (s : ST) (k : w_276 p1 p2 p3 s K) : Rn sc (d + 1) 276 [.ref 55, .int p1, .int p2, .int p3] (hpS s) (kI K) := by
  have hq : prog[276]? = some pm276 := rfl
  refine Rn.of (L := [.ref 55, .int p1, .int p2, .int p3]) hq rfl rfl ?_
  unfold w_276 at k
  refine Ex.seg hq 3 (j := 3) (L' := [.ref 55, .int p1, .int p2, .int p3]) (S' := [.int (1000 : Int32), .int (1 : Int32), .int p1]) (h' := hpS s) rfl ?_
  refine Ex.cl hq rfl rfl ?_
  refine Rn.mono (q_186 (d := d + 0) p1 (1 : Int32) (1000 : Int32) s k) ?_
  rintro _ _ ⟨r2, s1, rfl, hzr2, rfl, k⟩
  show Ex sc (d + 1) 276 4 [.ref 55, .int p1, .int p2, .int p3] [.int r2] (hpS s1) _
  refine Ex.i1 hq rfl (fun c => ?_) (fun c => ?_)
  · have k := k.1 c
    refine Ex.seg hq 1 (j := 23) (L' := [.ref 55, .int p1, .int p2, .int p3]) (S' := [.int (-1 : Int32)]) (h' := hpS s1) rfl ?_
    exact Ex.rt hq rfl rfl ⟨(-1 : Int32), s1, rfl, rfl, k⟩
  · have k := k.2 c
    refine Ex.seg hq 3 (j := 8) (L' := [.ref 55, .int p1, .int p2, .int p3]) (S' := [.int (100000 : Int32), .int (0 : Int32), .int p2]) (h' := hpS s1) rfl ?_
    refine Ex.cl hq rfl rfl ?_
    refine Rn.mono (q_186 (d := d + 0) p2 (0 : Int32) (100000 : Int32) s1 k) ?_
    rintro _ _ ⟨r4, s3, rfl, hzr4, rfl, k⟩
    show Ex sc (d + 1) 276 9 [.ref 55, .int p1, .int p2, .int p3] [.int r4] (hpS s3) _
    refine Ex.i1 hq rfl (fun c => ?_) (fun c => ?_)
    · have k := k.1 c
      refine Ex.seg hq 1 (j := 23) (L' := [.ref 55, .int p1, .int p2, .int p3]) (S' := [.int (-1 : Int32)]) (h' := hpS s3) rfl ?_
      exact Ex.rt hq rfl rfl ⟨(-1 : Int32), s3, rfl, rfl, k⟩
    · have k := k.2 c
      refine Ex.seg hq 6 (j := 16) (L' := [.ref 55, .int p1, .int p2, .int p3]) (S' := [.int ((s3.1 5579) - (1 : Int32)), .int (-1 : Int32), .int p3]) (h' := hpS s3) rfl ?_
      refine Ex.cl hq rfl rfl ?_
      refine Rn.mono (q_186 (d := d + 0) p3 (-1 : Int32) ((s3.1 5579) - (1 : Int32)) s3 k) ?_
      rintro _ _ ⟨r6, s5, rfl, hzr6, rfl, k⟩
      show Ex sc (d + 1) 276 17 [.ref 55, .int p1, .int p2, .int p3] [.int r6] (hpS s5) _
      refine Ex.i1 hq rfl (fun c => ?_) (fun c => ?_)
      · have k := k.1 c
        refine Ex.seg hq 1 (j := 23) (L' := [.ref 55, .int p1, .int p2, .int p3]) (S' := [.int (-1 : Int32)]) (h' := hpS s5) rfl ?_
        exact Ex.rt hq rfl rfl ⟨(-1 : Int32), s5, rfl, rfl, k⟩
      · have k := k.2 c
        refine Ex.seg hq 3 (j := 21) (L' := [.ref 55, .int p1, .int p2, .int p3]) (S' := [.int (9 : Int32), .int (s5.1 5579)]) (h' := hpS s5) rfl ?_
        refine Ex.i2 hq rfl (fun c => ?_) (fun c => ?_)
        · have k := k.1 c
          refine Ex.seg hq 5 (j := 29) (L' := [.ref 55, .int p1, .int p2, .int p3]) (S' := [.int p1, .int (s5.1 5579), .ref 115]) (h' := hpS s5) rfl ?_
          obtain ⟨hin, k⟩ := k
          refine Ex.ias hq rfl rfl hin (h' := hpS (sA s5 115 (upd (s5.2.1 115) ((s5.1 5579)).toNatClampNeg p1))) (hset_115 _ _) ?_
          refine Ex.seg hq 5 (j := 35) (L' := [.ref 55, .int p1, .int p2, .int p3]) (S' := [.int p2, .int (s5.1 5579), .ref 116]) (h' := hpS (sA s5 115 (upd (s5.2.1 115) ((s5.1 5579)).toNatClampNeg p1))) rfl ?_
          obtain ⟨hin, k⟩ := k
          refine Ex.ias hq rfl rfl hin (h' := hpS (sA (sA s5 115 (upd (s5.2.1 115) ((s5.1 5579)).toNatClampNeg p1)) 116 (upd (s5.2.1 116) ((s5.1 5579)).toNatClampNeg p2))) (hset_116 _ _) ?_
          refine Ex.seg hq 5 (j := 41) (L' := [.ref 55, .int p1, .int p2, .int p3]) (S' := [.int p3, .int (s5.1 5579), .ref 117]) (h' := hpS (sA (sA s5 115 (upd (s5.2.1 115) ((s5.1 5579)).toNatClampNeg p1)) 116 (upd (s5.2.1 116) ((s5.1 5579)).toNatClampNeg p2))) rfl ?_
          obtain ⟨hin, k⟩ := k
          refine Ex.ias hq rfl rfl hin (h' := hpS (sA (sA (sA s5 115 (upd (s5.2.1 115) ((s5.1 5579)).toNatClampNeg p1)) 116 (upd (s5.2.1 116) ((s5.1 5579)).toNatClampNeg p2)) 117 (upd (s5.2.1 117) ((s5.1 5579)).toNatClampNeg p3))) (hset_117 _ _) ?_
          refine Ex.seg hq 10 (j := 52) (L' := [.ref 55, .int p1, .int p2, .int p3]) (S' := [.int (((s5.1 5579) + (1 : Int32)) - (1 : Int32))]) (h' := hpS (sA (sA (sA (sI s5 5579 ((s5.1 5579) + (1 : Int32))) 115 (upd (s5.2.1 115) ((s5.1 5579)).toNatClampNeg p1)) 116 (upd (s5.2.1 116) ((s5.1 5579)).toNatClampNeg p2)) 117 (upd (s5.2.1 117) ((s5.1 5579)).toNatClampNeg p3))) rfl ?_
          exact Ex.rt hq rfl rfl ⟨(((s5.1 5579) + (1 : Int32)) - (1 : Int32)), (sA (sA (sA (sI s5 5579 ((s5.1 5579) + (1 : Int32))) 115 (upd (s5.2.1 115) ((s5.1 5579)).toNatClampNeg p1)) 116 (upd (s5.2.1 116) ((s5.1 5579)).toNatClampNeg p2)) 117 (upd (s5.2.1 117) ((s5.1 5579)).toNatClampNeg p3)), rfl, rfl, k⟩
        · have k := k.2 c
          refine Ex.seg hq 1 (j := 23) (L' := [.ref 55, .int p1, .int p2, .int p3]) (S' := [.int (-1 : Int32)]) (h' := hpS s5) rfl ?_
          exact Ex.rt hq rfl rfl ⟨(-1 : Int32), s5, rfl, rfl, k⟩
def w_277_L2 : Nat → Int32 → Int32 → ST → (ST → Prop) → (ST → Prop) → (Int32 → ST → Prop) → Prop
  | 0, _, _, _, _, _, _ => False
  | n + 1, x1, x2, s, X32, X28, K => (((s.1 5579) ≤ x2 → X32  s) ∧ (¬ ((s.1 5579) ≤ x2) → ((¬ ((x1 >>> (x2 &&& 31)) &&& (1 : Int32)) = (1 : Int32) → w_277_L2 n x1 (x2 + (1 : Int32)) s X32 X28 K) ∧ (¬ (¬ ((x1 >>> (x2 &&& 31)) &&& (1 : Int32)) = (1 : Int32)) → (pin x2 9 = true ∧ ((((s.2.1 117) (x2).toNatClampNeg) = (-1 : Int32) → w_277_L2 n x1 (x2 + (1 : Int32)) s X32 X28 K) ∧ (¬ (((s.2.1 117) (x2).toNatClampNeg) = (-1 : Int32)) → (pin x2 9 = true ∧ ((¬ ((x1 >>> (((s.2.1 117) (x2).toNatClampNeg) &&& 31)) &&& (1 : Int32)) = 0 → w_277_L2 n x1 (x2 + (1 : Int32)) s X32 X28 K) ∧ (¬ (¬ ((x1 >>> (((s.2.1 117) (x2).toNatClampNeg) &&& 31)) &&& (1 : Int32)) = 0) → X28  s))))))))))
theorem q_277_L2 {d : Nat} {X32 : ST → Prop} {X28 : ST → Prop} {K : Int32 → ST → Prop} : ∀ (n : Nat) (x1 : Int32) (x2 : Int32) (s : ST), w_277_L2 n x1 x2 s X32 X28 K → (∀ (s : ST), X32  s → Ex sc (d + 0) 277 32 [pu, pu, pu] [] (hpS s) (kZ K)) → (∀ (s : ST), X28  s → Ex sc (d + 0) 277 28 [pu, pu, pu] [] (hpS s) (kZ K)) → Ex sc (d + 0) 277 2 [.ref 55, .int x1, .int x2] [] (hpS s) (kZ K) := by
  have hq : prog[277]? = some pm277 := rfl
  intro n
  induction n with
  | zero =>
    intro x1 x2 s k
    exact k.elim
  | succ n ih =>
    intro x1 x2 s k hX32 hX28
    rw [w_277_L2] at k
    refine Ex.seg hq 3 (j := 5) (L' := [.ref 55, .int x1, .int x2]) (S' := [.int (s.1 5579), .int x2]) (h' := hpS s) rfl ?_
    refine Ex.i2 hq rfl (fun c => ?_) (fun c => ?_)
    · have k := k.1 c
      refine Ex.fg (L := [pu, pu, pu]) ⟨Or.inr ⟨rfl, rfl⟩, ⟨Or.inr ⟨rfl, rfl⟩, ⟨Or.inr ⟨rfl, rfl⟩, trivial⟩⟩⟩ ?_
      exact hX32  s k
    · have k := k.2 c
      refine Ex.seg hq 6 (j := 12) (L' := [.ref 55, .int x1, .int x2]) (S' := [.int (1 : Int32), .int ((x1 >>> (x2 &&& 31)) &&& (1 : Int32))]) (h' := hpS s) rfl ?_
      refine Ex.i2 hq rfl (fun c => ?_) (fun c => ?_)
      · have k := k.1 c
        refine Ex.seg hq 2 (j := 2) (L' := [.ref 55, .int x1, .int (x2 + (1 : Int32))]) (S' := []) (h' := hpS s) rfl ?_
        exact ih x1 (x2 + (1 : Int32)) s k hX32 hX28
      · have k := k.2 c
        refine Ex.seg hq 3 (j := 16) (L' := [.ref 55, .int x1, .int x2]) (S' := [.int x2, .ref 117]) (h' := hpS s) rfl ?_
        obtain ⟨hin, k⟩ := k
        refine Ex.ial hq rfl rfl hin ?_
        refine Ex.seg hq 1 (j := 18) (L' := [.ref 55, .int x1, .int x2]) (S' := [.int (-1 : Int32), .int ((s.2.1 117) (x2).toNatClampNeg)]) (h' := hpS s) rfl ?_
        refine Ex.i2 hq rfl (fun c => ?_) (fun c => ?_)
        · have k := k.1 c
          refine Ex.seg hq 2 (j := 2) (L' := [.ref 55, .int x1, .int (x2 + (1 : Int32))]) (S' := []) (h' := hpS s) rfl ?_
          exact ih x1 (x2 + (1 : Int32)) s k hX32 hX28
        · have k := k.2 c
          refine Ex.seg hq 4 (j := 23) (L' := [.ref 55, .int x1, .int x2]) (S' := [.int x2, .ref 117, .int x1]) (h' := hpS s) rfl ?_
          obtain ⟨hin, k⟩ := k
          refine Ex.ial hq rfl rfl hin ?_
          refine Ex.seg hq 3 (j := 27) (L' := [.ref 55, .int x1, .int x2]) (S' := [.int ((x1 >>> (((s.2.1 117) (x2).toNatClampNeg) &&& 31)) &&& (1 : Int32))]) (h' := hpS s) rfl ?_
          refine Ex.i1 hq rfl (fun c => ?_) (fun c => ?_)
          · have k := k.1 c
            refine Ex.seg hq 2 (j := 2) (L' := [.ref 55, .int x1, .int (x2 + (1 : Int32))]) (S' := []) (h' := hpS s) rfl ?_
            exact ih x1 (x2 + (1 : Int32)) s k hX32 hX28
          · have k := k.2 c
            refine Ex.fg (L := [pu, pu, pu]) ⟨Or.inr ⟨rfl, rfl⟩, ⟨Or.inr ⟨rfl, rfl⟩, ⟨Or.inr ⟨rfl, rfl⟩, trivial⟩⟩⟩ ?_
            exact hX28  s k
/-- RowAuditorModel.isWhole(I)Z -/
def w_277 (p1 : Int32) (s : ST) (K : Int32 → ST → Prop) : Prop := (∃ m, w_277_L2 m p1 (0 : Int32) s (fun s1 => K (1 : Int32) s1) (fun s2 => K (0 : Int32) s2) K)
theorem q_277 {d : Nat} {K : Int32 → ST → Prop} (p1 : Int32) (s : ST) (k : w_277 p1 s K) : Rn sc (d + 0) 277 [.ref 55, .int p1] (hpS s) (kZ K) := by
  have hq : prog[277]? = some pm277 := rfl
  refine Rn.of (L := [.ref 55, .int p1, pu]) hq rfl rfl ?_
  unfold w_277 at k
  refine Ex.seg hq 2 (j := 2) (L' := [.ref 55, .int p1, .int (0 : Int32)]) (S' := []) (h' := hpS s) rfl ?_
  obtain ⟨m, k⟩ := k
  refine q_277_L2 (d := d) m p1 (0 : Int32) s k ?_ ?_
  · intro s1 k
    refine Ex.seg hq 1 (j := 33) (L' := [pu, pu, pu]) (S' := [.int (1 : Int32)]) (h' := hpS s1) rfl ?_
    exact Ex.zr hq rfl rfl (Or.inr rfl) ⟨(1 : Int32), s1, rfl, (Or.inr rfl), rfl, k⟩
  · intro s2 k
    refine Ex.seg hq 1 (j := 29) (L' := [pu, pu, pu]) (S' := [.int (0 : Int32)]) (h' := hpS s2) rfl ?_
    exact Ex.zr hq rfl rfl (Or.inl rfl) ⟨(0 : Int32), s2, rfl, (Or.inl rfl), rfl, k⟩
def w_278_L4 : Nat → Int32 → Int32 → Int32 → Int32 → ST → (Int32 → ST → Prop) → (Int32 → ST → Prop) → Prop
  | 0, _, _, _, _, _, _, _ => False
  | n + 1, x1, x2, x3, x4, s, X32, K => (((s.1 5579) ≤ x4 → X32 x3 s) ∧ (¬ ((s.1 5579) ≤ x4) → ((¬ ((x1 >>> (x4 &&& 31)) &&& (1 : Int32)) = 0 → ((x2 = 0 → (pin x4 9 = true ∧ w_278_L4 n x1 x2 (x3 + ((s.2.1 116) (x4).toNatClampNeg)) (x4 + (1 : Int32)) s X32 K)) ∧ (¬ (x2 = 0) → (pin x4 9 = true ∧ w_278_L4 n x1 x2 (x3 + ((s.2.1 115) (x4).toNatClampNeg)) (x4 + (1 : Int32)) s X32 K)))) ∧ (¬ (¬ ((x1 >>> (x4 &&& 31)) &&& (1 : Int32)) = 0) → w_278_L4 n x1 x2 (x3 + (0 : Int32)) (x4 + (1 : Int32)) s X32 K))))
theorem q_278_L4 {d : Nat} {X32 : Int32 → ST → Prop} {K : Int32 → ST → Prop} : ∀ (n : Nat) (x1 : Int32) (x2 : Int32) (x3 : Int32) (x4 : Int32) (s : ST), w_278_L4 n x1 x2 x3 x4 s X32 K → (∀ (y3 : Int32) (s : ST), X32 y3 s → Ex sc (d + 0) 278 32 [pu, pu, pu, .int y3, pu] [] (hpS s) (kI K)) → Ex sc (d + 0) 278 4 [.ref 55, .int x1, .int x2, .int x3, .int x4] [] (hpS s) (kI K) := by
  have hq : prog[278]? = some pm278 := rfl
  intro n
  induction n with
  | zero =>
    intro x1 x2 x3 x4 s k
    exact k.elim
  | succ n ih =>
    intro x1 x2 x3 x4 s k hX32
    rw [w_278_L4] at k
    refine Ex.seg hq 3 (j := 7) (L' := [.ref 55, .int x1, .int x2, .int x3, .int x4]) (S' := [.int (s.1 5579), .int x4]) (h' := hpS s) rfl ?_
    refine Ex.i2 hq rfl (fun c => ?_) (fun c => ?_)
    · have k := k.1 c
      refine Ex.fg (L := [pu, pu, pu, .int x3, pu]) ⟨Or.inr ⟨rfl, rfl⟩, ⟨Or.inr ⟨rfl, rfl⟩, ⟨Or.inr ⟨rfl, rfl⟩, ⟨Or.inl rfl, ⟨Or.inr ⟨rfl, rfl⟩, trivial⟩⟩⟩⟩⟩ ?_
      exact hX32 x3 s k
    · have k := k.2 c
      refine Ex.seg hq 6 (j := 14) (L' := [.ref 55, .int x1, .int x2, .int x3, .int x4]) (S' := [.int ((x1 >>> (x4 &&& 31)) &&& (1 : Int32)), .int x3]) (h' := hpS s) rfl ?_
      refine Ex.i1 hq rfl (fun c => ?_) (fun c => ?_)
      · have k := k.1 c
        refine Ex.seg hq 1 (j := 18) (L' := [.ref 55, .int x1, .int x2, .int x3, .int x4]) (S' := [.int x2, .int x3]) (h' := hpS s) rfl ?_
        refine Ex.i1 hq rfl (fun c => ?_) (fun c => ?_)
        · have k := k.1 c
          refine Ex.seg hq 3 (j := 27) (L' := [.ref 55, .int x1, .int x2, .int x3, .int x4]) (S' := [.int x4, .ref 116, .int x3]) (h' := hpS s) rfl ?_
          obtain ⟨hin, k⟩ := k
          refine Ex.ial hq rfl rfl hin ?_
          refine Ex.seg hq 4 (j := 4) (L' := [.ref 55, .int x1, .int x2, .int (x3 + ((s.2.1 116) (x4).toNatClampNeg)), .int (x4 + (1 : Int32))]) (S' := []) (h' := hpS s) rfl ?_
          exact ih x1 x2 (x3 + ((s.2.1 116) (x4).toNatClampNeg)) (x4 + (1 : Int32)) s k hX32
        · have k := k.2 c
          refine Ex.seg hq 3 (j := 22) (L' := [.ref 55, .int x1, .int x2, .int x3, .int x4]) (S' := [.int x4, .ref 115, .int x3]) (h' := hpS s) rfl ?_
          obtain ⟨hin, k⟩ := k
          refine Ex.ial hq rfl rfl hin ?_
          refine Ex.seg hq 5 (j := 4) (L' := [.ref 55, .int x1, .int x2, .int (x3 + ((s.2.1 115) (x4).toNatClampNeg)), .int (x4 + (1 : Int32))]) (S' := []) (h' := hpS s) rfl ?_
          exact ih x1 x2 (x3 + ((s.2.1 115) (x4).toNatClampNeg)) (x4 + (1 : Int32)) s k hX32
      · have k := k.2 c
        refine Ex.seg hq 6 (j := 4) (L' := [.ref 55, .int x1, .int x2, .int (x3 + (0 : Int32)), .int (x4 + (1 : Int32))]) (S' := []) (h' := hpS s) rfl ?_
        exact ih x1 x2 (x3 + (0 : Int32)) (x4 + (1 : Int32)) s k hX32
/-- RowAuditorModel.together(IZ)I -/
def w_278 (p1 : Int32) (p2 : Int32) (s : ST) (K : Int32 → ST → Prop) : Prop := (∃ m, w_278_L4 m p1 p2 (0 : Int32) (0 : Int32) s (fun y3 s1 => K y3 s1) K)
theorem q_278 {d : Nat} {K : Int32 → ST → Prop} (p1 : Int32) (p2 : Int32) (s : ST) (k : w_278 p1 p2 s K) : Rn sc (d + 0) 278 [.ref 55, .int p1, .int p2] (hpS s) (kI K) := by
  have hq : prog[278]? = some pm278 := rfl
  refine Rn.of (L := [.ref 55, .int p1, .int p2, pu, pu]) hq rfl rfl ?_
  unfold w_278 at k
  refine Ex.seg hq 4 (j := 4) (L' := [.ref 55, .int p1, .int p2, .int (0 : Int32), .int (0 : Int32)]) (S' := []) (h' := hpS s) rfl ?_
  obtain ⟨m, k⟩ := k
  refine q_278_L4 (d := d) m p1 p2 (0 : Int32) (0 : Int32) s k ?_
  · intro y3 s1 k
    refine Ex.seg hq 1 (j := 33) (L' := [pu, pu, pu, .int y3, pu]) (S' := [.int y3]) (h' := hpS s1) rfl ?_
    exact Ex.rt hq rfl rfl ⟨y3, s1, rfl, rfl, k⟩
def w_279_L11 : Nat → Int32 → Int32 → Int32 → ST → (Int32 → ST → Prop) → (Int32 → ST → Prop) → Prop
  | 0, _, _, _, _, _, _ => False
  | n + 1, x1, x2, x3, s, X55, K => ((((1 : Int32) <<< ((s.1 5579) &&& 31)) ≤ x3 → X55 x2 s) ∧ (¬ (((1 : Int32) <<< ((s.1 5579) &&& 31)) ≤ x3) → w_277 x3 s (fun r4 s3 => ((r4 = 0 → w_279_L11 n x1 x2 (x3 + (1 : Int32)) s3 X55 K) ∧ (¬ (r4 = 0) → w_278 x3 (1 : Int32) s3 (fun r6 s5 => ((r6 ≤ x1 → w_278 x3 (0 : Int32) s5 (fun r8 s7 => w_278 x2 (0 : Int32) s7 (fun r10 s9 => ((0 < (r8 - r10) → w_279_L11 n x1 x3 (x3 + (1 : Int32)) s9 X55 K) ∧ (¬ (0 < (r8 - r10)) → ((¬ (r8 - r10) = 0 → w_279_L11 n x1 x2 (x3 + (1 : Int32)) s9 X55 K) ∧ (¬ (¬ (r8 - r10) = 0) → w_278 x3 (1 : Int32) s9 (fun r12 s11 => w_278 x2 (1 : Int32) s11 (fun r14 s13 => ((r14 ≤ r12 → w_279_L11 n x1 x2 (x3 + (1 : Int32)) s13 X55 K) ∧ (¬ (r14 ≤ r12) → w_279_L11 n x1 x3 (x3 + (1 : Int32)) s13 X55 K))))))))))) ∧ (¬ (r6 ≤ x1) → w_279_L11 n x1 x2 (x3 + (1 : Int32)) s5 X55 K))))))))
theorem q_279_L11 {d : Nat} {X55 : Int32 → ST → Prop} {K : Int32 → ST → Prop} : ∀ (n : Nat) (x1 : Int32) (x2 : Int32) (x3 : Int32) (s : ST), w_279_L11 n x1 x2 x3 s X55 K → (∀ (y2 : Int32) (s : ST), X55 y2 s → Ex sc (d + 1) 279 55 [pu, pu, .int y2, pu, pu] [] (hpS s) (kI K)) → Ex sc (d + 1) 279 11 [.ref 55, .int x1, .int x2, .int x3, pu] [] (hpS s) (kI K) := by
  have hq : prog[279]? = some pm279 := rfl
  intro n
  induction n with
  | zero =>
    intro x1 x2 x3 s k
    exact k.elim
  | succ n ih =>
    intro x1 x2 x3 s k hX55
    rw [w_279_L11] at k
    refine Ex.seg hq 5 (j := 16) (L' := [.ref 55, .int x1, .int x2, .int x3, pu]) (S' := [.int ((1 : Int32) <<< ((s.1 5579) &&& 31)), .int x3]) (h' := hpS s) rfl ?_
    refine Ex.i2 hq rfl (fun c => ?_) (fun c => ?_)
    · have k := k.1 c
      refine Ex.fg (L := [pu, pu, .int x2, pu, pu]) ⟨Or.inr ⟨rfl, rfl⟩, ⟨Or.inr ⟨rfl, rfl⟩, ⟨Or.inl rfl, ⟨Or.inr ⟨rfl, rfl⟩, ⟨Or.inl rfl, trivial⟩⟩⟩⟩⟩ ?_
      exact hX55 x2 s k
    · have k := k.2 c
      refine Ex.seg hq 2 (j := 19) (L' := [.ref 55, .int x1, .int x2, .int x3, pu]) (S' := [.int x3, .ref 55]) (h' := hpS s) rfl ?_
      refine Ex.cl hq rfl rfl ?_
      refine Rn.mono (q_277 (d := d + 0) x3 s k) ?_
      rintro _ _ ⟨r4, s3, rfl, hzr4, rfl, k⟩
      show Ex sc (d + 1) 279 20 [.ref 55, .int x1, .int x2, .int x3, pu] [.int r4] (hpS s3) _
      refine Ex.i1 hq rfl (fun c => ?_) (fun c => ?_)
      · have k := k.1 c
        refine Ex.seg hq 2 (j := 11) (L' := [.ref 55, .int x1, .int x2, .int (x3 + (1 : Int32)), pu]) (S' := []) (h' := hpS s3) rfl ?_
        exact ih x1 x2 (x3 + (1 : Int32)) s3 k hX55
      · have k := k.2 c
        refine Ex.seg hq 3 (j := 24) (L' := [.ref 55, .int x1, .int x2, .int x3, pu]) (S' := [.int (1 : Int32), .int x3, .ref 55]) (h' := hpS s3) rfl ?_
        refine Ex.cl hq rfl rfl ?_
        refine Rn.mono (q_278 (d := d + 0) x3 (1 : Int32) s3 k) ?_
        rintro _ _ ⟨r6, s5, rfl, rfl, k⟩
        show Ex sc (d + 1) 279 25 [.ref 55, .int x1, .int x2, .int x3, pu] [.int r6] (hpS s5) _
        refine Ex.seg hq 1 (j := 26) (L' := [.ref 55, .int x1, .int x2, .int x3, pu]) (S' := [.int x1, .int r6]) (h' := hpS s5) rfl ?_
        refine Ex.i2 hq rfl (fun c => ?_) (fun c => ?_)
        · have k := k.1 c
          refine Ex.seg hq 3 (j := 31) (L' := [.ref 55, .int x1, .int x2, .int x3, pu]) (S' := [.int (0 : Int32), .int x3, .ref 55]) (h' := hpS s5) rfl ?_
          refine Ex.cl hq rfl rfl ?_
          refine Rn.mono (q_278 (d := d + 0) x3 (0 : Int32) s5 k) ?_
          rintro _ _ ⟨r8, s7, rfl, rfl, k⟩
          show Ex sc (d + 1) 279 32 [.ref 55, .int x1, .int x2, .int x3, pu] [.int r8] (hpS s7) _
          refine Ex.seg hq 3 (j := 35) (L' := [.ref 55, .int x1, .int x2, .int x3, pu]) (S' := [.int (0 : Int32), .int x2, .ref 55, .int r8]) (h' := hpS s7) rfl ?_
          refine Ex.cl hq rfl rfl ?_
          refine Rn.mono (q_278 (d := d + 0) x2 (0 : Int32) s7 k) ?_
          rintro _ _ ⟨r10, s9, rfl, rfl, k⟩
          show Ex sc (d + 1) 279 36 [.ref 55, .int x1, .int x2, .int x3, pu] [.int r10, .int r8] (hpS s9) _
          refine Ex.seg hq 3 (j := 39) (L' := [.ref 55, .int x1, .int x2, .int x3, .int (r8 - r10)]) (S' := [.int (r8 - r10)]) (h' := hpS s9) rfl ?_
          refine Ex.i1 hq rfl (fun c => ?_) (fun c => ?_)
          · have k := k.1 c
            refine Ex.seg hq 4 (j := 11) (L' := [.ref 55, .int x1, .int x3, .int (x3 + (1 : Int32)), .int (r8 - r10)]) (S' := []) (h' := hpS s9) rfl ?_
            refine Ex.fg (L := [.ref 55, .int x1, .int x3, .int (x3 + (1 : Int32)), pu]) ⟨Or.inl rfl, ⟨Or.inl rfl, ⟨Or.inl rfl, ⟨Or.inl rfl, ⟨Or.inr ⟨rfl, rfl⟩, trivial⟩⟩⟩⟩⟩ ?_
            exact ih x1 x3 (x3 + (1 : Int32)) s9 k hX55
          · have k := k.2 c
            refine Ex.seg hq 1 (j := 41) (L' := [.ref 55, .int x1, .int x2, .int x3, .int (r8 - r10)]) (S' := [.int (r8 - r10)]) (h' := hpS s9) rfl ?_
            refine Ex.i1 hq rfl (fun c => ?_) (fun c => ?_)
            · have k := k.1 c
              refine Ex.seg hq 2 (j := 11) (L' := [.ref 55, .int x1, .int x2, .int (x3 + (1 : Int32)), .int (r8 - r10)]) (S' := []) (h' := hpS s9) rfl ?_
              refine Ex.fg (L := [.ref 55, .int x1, .int x2, .int (x3 + (1 : Int32)), pu]) ⟨Or.inl rfl, ⟨Or.inl rfl, ⟨Or.inl rfl, ⟨Or.inl rfl, ⟨Or.inr ⟨rfl, rfl⟩, trivial⟩⟩⟩⟩⟩ ?_
              exact ih x1 x2 (x3 + (1 : Int32)) s9 k hX55
            · have k := k.2 c
              refine Ex.seg hq 3 (j := 45) (L' := [.ref 55, .int x1, .int x2, .int x3, .int (r8 - r10)]) (S' := [.int (1 : Int32), .int x3, .ref 55]) (h' := hpS s9) rfl ?_
              refine Ex.cl hq rfl rfl ?_
              refine Rn.mono (q_278 (d := d + 0) x3 (1 : Int32) s9 k) ?_
              rintro _ _ ⟨r12, s11, rfl, rfl, k⟩
              show Ex sc (d + 1) 279 46 [.ref 55, .int x1, .int x2, .int x3, .int (r8 - r10)] [.int r12] (hpS s11) _
              refine Ex.seg hq 3 (j := 49) (L' := [.ref 55, .int x1, .int x2, .int x3, .int (r8 - r10)]) (S' := [.int (1 : Int32), .int x2, .ref 55, .int r12]) (h' := hpS s11) rfl ?_
              refine Ex.cl hq rfl rfl ?_
              refine Rn.mono (q_278 (d := d + 0) x2 (1 : Int32) s11 k) ?_
              rintro _ _ ⟨r14, s13, rfl, rfl, k⟩
              show Ex sc (d + 1) 279 50 [.ref 55, .int x1, .int x2, .int x3, .int (r8 - r10)] [.int r14, .int r12] (hpS s13) _
              refine Ex.i2 hq rfl (fun c => ?_) (fun c => ?_)
              · have k := k.1 c
                refine Ex.seg hq 2 (j := 11) (L' := [.ref 55, .int x1, .int x2, .int (x3 + (1 : Int32)), .int (r8 - r10)]) (S' := []) (h' := hpS s13) rfl ?_
                refine Ex.fg (L := [.ref 55, .int x1, .int x2, .int (x3 + (1 : Int32)), pu]) ⟨Or.inl rfl, ⟨Or.inl rfl, ⟨Or.inl rfl, ⟨Or.inl rfl, ⟨Or.inr ⟨rfl, rfl⟩, trivial⟩⟩⟩⟩⟩ ?_
                exact ih x1 x2 (x3 + (1 : Int32)) s13 k hX55
              · have k := k.2 c
                refine Ex.seg hq 4 (j := 11) (L' := [.ref 55, .int x1, .int x3, .int (x3 + (1 : Int32)), .int (r8 - r10)]) (S' := []) (h' := hpS s13) rfl ?_
                refine Ex.fg (L := [.ref 55, .int x1, .int x3, .int (x3 + (1 : Int32)), pu]) ⟨Or.inl rfl, ⟨Or.inl rfl, ⟨Or.inl rfl, ⟨Or.inl rfl, ⟨Or.inr ⟨rfl, rfl⟩, trivial⟩⟩⟩⟩⟩ ?_
                exact ih x1 x3 (x3 + (1 : Int32)) s13 k hX55
        · have k := k.2 c
          refine Ex.seg hq 3 (j := 11) (L' := [.ref 55, .int x1, .int x2, .int (x3 + (1 : Int32)), pu]) (S' := []) (h' := hpS s5) rfl ?_
          exact ih x1 x2 (x3 + (1 : Int32)) s5 k hX55
/-- RowAuditorModel.best(I)I -/
def w_279 (p1 : Int32) (s : ST) (K : Int32 → ST → Prop) : Prop := w_186 p1 (0 : Int32) (10000 : Int32) s (fun r2 s1 => ((¬ r2 = 0 → (∃ m, w_279_L11 m p1 (0 : Int32) (1 : Int32) s1 (fun y2 s15 => K y2 s15) K)) ∧ (¬ (¬ r2 = 0) → K (-1 : Int32) s1)))
theorem q_279 {d : Nat} {K : Int32 → ST → Prop} (p1 : Int32) (s : ST) (k : w_279 p1 s K) : Rn sc (d + 1) 279 [.ref 55, .int p1] (hpS s) (kI K) := by
  have hq : prog[279]? = some pm279 := rfl
  refine Rn.of (L := [.ref 55, .int p1, pu, pu, pu]) hq rfl rfl ?_
  unfold w_279 at k
  refine Ex.seg hq 3 (j := 3) (L' := [.ref 55, .int p1, pu, pu, pu]) (S' := [.int (10000 : Int32), .int (0 : Int32), .int p1]) (h' := hpS s) rfl ?_
  refine Ex.cl hq rfl rfl ?_
  refine Rn.mono (q_186 (d := d + 0) p1 (0 : Int32) (10000 : Int32) s k) ?_
  rintro _ _ ⟨r2, s1, rfl, hzr2, rfl, k⟩
  show Ex sc (d + 1) 279 4 [.ref 55, .int p1, pu, pu, pu] [.int r2] (hpS s1) _
  refine Ex.i1 hq rfl (fun c => ?_) (fun c => ?_)
  · have k := k.1 c
    refine Ex.seg hq 4 (j := 11) (L' := [.ref 55, .int p1, .int (0 : Int32), .int (1 : Int32), pu]) (S' := []) (h' := hpS s1) rfl ?_
    obtain ⟨m, k⟩ := k
    refine q_279_L11 (d := d) m p1 (0 : Int32) (1 : Int32) s1 k ?_
    · intro y2 s15 k
      refine Ex.seg hq 1 (j := 56) (L' := [pu, pu, .int y2, pu, pu]) (S' := [.int y2]) (h' := hpS s15) rfl ?_
      exact Ex.rt hq rfl rfl ⟨y2, s15, rfl, rfl, k⟩
  · have k := k.2 c
    refine Ex.seg hq 1 (j := 6) (L' := [.ref 55, .int p1, pu, pu, pu]) (S' := [.int (-1 : Int32)]) (h' := hpS s1) rfl ?_
    exact Ex.rt hq rfl rfl ⟨(-1 : Int32), s1, rfl, rfl, k⟩
/-- RowAuditorModel.judge(I)I -/
def w_280 (p1 : Int32) (s : ST) (K : Int32 → ST → Prop) : Prop := w_186 p1 (0 : Int32) (((1 : Int32) <<< ((s.1 5579) &&& 31)) - (1 : Int32)) s (fun r2 s1 => ((¬ r2 = 0 → w_277 p1 s1 (fun r4 s3 => ((r4 = 0 → K (-2 : Int32) s3) ∧ (¬ (r4 = 0) → w_278 p1 (0 : Int32) s3 (fun r6 s5 => K r6 s5))))) ∧ (¬ (¬ r2 = 0) → K (-1 : Int32) s1)))
theorem q_280 {d : Nat} {K : Int32 → ST → Prop} (p1 : Int32) (s : ST) (k : w_280 p1 s K) : Rn sc (d + 1) 280 [.ref 55, .int p1] (hpS s) (kI K) := by
  have hq : prog[280]? = some pm280 := rfl
  refine Rn.of (L := [.ref 55, .int p1]) hq rfl rfl ?_
  unfold w_280 at k
  refine Ex.seg hq 8 (j := 8) (L' := [.ref 55, .int p1]) (S' := [.int (((1 : Int32) <<< ((s.1 5579) &&& 31)) - (1 : Int32)), .int (0 : Int32), .int p1]) (h' := hpS s) rfl ?_
  refine Ex.cl hq rfl rfl ?_
  refine Rn.mono (q_186 (d := d + 0) p1 (0 : Int32) (((1 : Int32) <<< ((s.1 5579) &&& 31)) - (1 : Int32)) s k) ?_
  rintro _ _ ⟨r2, s1, rfl, hzr2, rfl, k⟩
  show Ex sc (d + 1) 280 9 [.ref 55, .int p1] [.int r2] (hpS s1) _
  refine Ex.i1 hq rfl (fun c => ?_) (fun c => ?_)
  · have k := k.1 c
    refine Ex.seg hq 2 (j := 14) (L' := [.ref 55, .int p1]) (S' := [.int p1, .ref 55]) (h' := hpS s1) rfl ?_
    refine Ex.cl hq rfl rfl ?_
    refine Rn.mono (q_277 (d := d + 0) p1 s1 k) ?_
    rintro _ _ ⟨r4, s3, rfl, hzr4, rfl, k⟩
    show Ex sc (d + 1) 280 15 [.ref 55, .int p1] [.int r4] (hpS s3) _
    refine Ex.i1 hq rfl (fun c => ?_) (fun c => ?_)
    · have k := k.1 c
      refine Ex.seg hq 1 (j := 22) (L' := [.ref 55, .int p1]) (S' := [.int (-2 : Int32)]) (h' := hpS s3) rfl ?_
      exact Ex.rt hq rfl rfl ⟨(-2 : Int32), s3, rfl, rfl, k⟩
    · have k := k.2 c
      refine Ex.seg hq 3 (j := 19) (L' := [.ref 55, .int p1]) (S' := [.int (0 : Int32), .int p1, .ref 55]) (h' := hpS s3) rfl ?_
      refine Ex.cl hq rfl rfl ?_
      refine Rn.mono (q_278 (d := d + 0) p1 (0 : Int32) s3 k) ?_
      rintro _ _ ⟨r6, s5, rfl, rfl, k⟩
      show Ex sc (d + 1) 280 20 [.ref 55, .int p1] [.int r6] (hpS s5) _
      refine Ex.seg hq 1 (j := 22) (L' := [.ref 55, .int p1]) (S' := [.int r6]) (h' := hpS s5) rfl ?_
      exact Ex.rt hq rfl rfl ⟨r6, s5, rfl, rfl, k⟩
  · have k := k.2 c
    refine Ex.seg hq 1 (j := 11) (L' := [.ref 55, .int p1]) (S' := [.int (-1 : Int32)]) (h' := hpS s1) rfl ?_
    exact Ex.rt hq rfl rfl ⟨(-1 : Int32), s1, rfl, rfl, k⟩
/-- RowAuditorModel.look(II)I -/
def w_281 (p1 : Int32) (p2 : Int32) (s : ST) (K : Int32 → ST → Prop) : Prop := w_190 p1 s (fun r2 s1 => ((¬ r2 = 0 → (((p2).toInt < 0 ∨ 10 < (p2).toInt → K (-1 : Int32) s1) ∧ (p2 = (0 : Int32) → (pin p1 150 = true ∧ K ((s1.2.1 57) (p1).toNatClampNeg) s1)) ∧ (p2 = (1 : Int32) → (pin p1 150 = true ∧ K ((s1.2.1 58) (p1).toNatClampNeg) s1)) ∧ (p2 = (2 : Int32) → (pin p1 150 = true ∧ K ((s1.2.1 59) (p1).toNatClampNeg) s1)) ∧ (p2 = (3 : Int32) → (pin p1 150 = true ∧ K ((s1.2.1 60) (p1).toNatClampNeg) s1)) ∧ (p2 = (4 : Int32) → (pin p1 150 = true ∧ K ((s1.2.1 61) (p1).toNatClampNeg) s1)) ∧ (p2 = (5 : Int32) → (pin p1 150 = true ∧ K ((s1.2.1 62) (p1).toNatClampNeg) s1)) ∧ (p2 = (6 : Int32) → (pin p1 150 = true ∧ K ((s1.2.1 63) (p1).toNatClampNeg) s1)) ∧ (p2 = (7 : Int32) → (pin p1 150 = true ∧ K ((s1.2.1 64) (p1).toNatClampNeg) s1)) ∧ (p2 = (8 : Int32) → (pin p1 150 = true ∧ K ((s1.2.1 65) (p1).toNatClampNeg) s1)) ∧ (p2 = (9 : Int32) → (pin p1 150 = true ∧ K ((s1.2.1 66) (p1).toNatClampNeg) s1)) ∧ (p2 = (10 : Int32) → (pin p1 150 = true ∧ K ((s1.2.1 67) (p1).toNatClampNeg) s1)))) ∧ (¬ (¬ r2 = 0) → K (-1 : Int32) s1)))
theorem q_281 {d : Nat} {K : Int32 → ST → Prop} (p1 : Int32) (p2 : Int32) (s : ST) (k : w_281 p1 p2 s K) : Rn sc (d + 1) 281 [.ref 55, .int p1, .int p2] (hpS s) (kI K) := by
  have hq : prog[281]? = some pm281 := rfl
  refine Rn.of (L := [.ref 55, .int p1, .int p2]) hq rfl rfl ?_
  unfold w_281 at k
  refine Ex.seg hq 2 (j := 2) (L' := [.ref 55, .int p1, .int p2]) (S' := [.int p1, .ref 55]) (h' := hpS s) rfl ?_
  refine Ex.cl hq rfl rfl ?_
  refine Rn.mono (q_190 (d := d + 0) p1 s k) ?_
  rintro _ _ ⟨r2, s1, rfl, hzr2, rfl, k⟩
  show Ex sc (d + 1) 281 3 [.ref 55, .int p1, .int p2] [.int r2] (hpS s1) _
  refine Ex.i1 hq rfl (fun c => ?_) (fun c => ?_)
  · have k := k.1 c
    refine Ex.seg hq 1 (j := 7) (L' := [.ref 55, .int p1, .int p2]) (S' := [.int p2]) (h' := hpS s1) rfl ?_
    refine Ex.tsw hq rfl (fun c => ?_) (fun t c ht => ?_) (by decide)
    · have k := k.1 c
      refine Ex.seg hq 1 (j := 64) (L' := [.ref 55, .int p1, .int p2]) (S' := [.int (-1 : Int32)]) (h' := hpS s1) rfl ?_
      exact Ex.rt hq rfl rfl ⟨(-1 : Int32), s1, rfl, rfl, k⟩
    · have k := k.2
      rcases (show (p2).toInt = 0 ∨ (p2).toInt = 1 ∨ (p2).toInt = 2 ∨ (p2).toInt = 3 ∨ (p2).toInt = 4 ∨ (p2).toInt = 5 ∨ (p2).toInt = 6 ∨ (p2).toInt = 7 ∨ (p2).toInt = 8 ∨ (p2).toInt = 9 ∨ (p2).toInt = 10 by omega) with e | e | e | e | e | e | e | e | e | e | e
      · have cx : p2 = (0 : Int32) := Int32.toInt_inj.mp (by rw [e]; rfl)
        have k := k.1 cx
        rw [e] at ht
        have ht : (some 8 : Option Nat) = some t := ht
        cases ht
        refine Ex.seg hq 3 (j := 11) (L' := [.ref 55, .int p1, .int p2]) (S' := [.int p1, .ref 57]) (h' := hpS s1) rfl ?_
        obtain ⟨hin, k⟩ := k
        refine Ex.ial hq rfl rfl hin ?_
        exact Ex.rt hq rfl rfl ⟨((s1.2.1 57) (p1).toNatClampNeg), s1, rfl, rfl, k⟩
      · have cx : p2 = (1 : Int32) := Int32.toInt_inj.mp (by rw [e]; rfl)
        have k := k.2.1 cx
        rw [e] at ht
        have ht : (some 13 : Option Nat) = some t := ht
        cases ht
        refine Ex.seg hq 3 (j := 16) (L' := [.ref 55, .int p1, .int p2]) (S' := [.int p1, .ref 58]) (h' := hpS s1) rfl ?_
        obtain ⟨hin, k⟩ := k
        refine Ex.ial hq rfl rfl hin ?_
        exact Ex.rt hq rfl rfl ⟨((s1.2.1 58) (p1).toNatClampNeg), s1, rfl, rfl, k⟩
      · have cx : p2 = (2 : Int32) := Int32.toInt_inj.mp (by rw [e]; rfl)
        have k := k.2.2.1 cx
        rw [e] at ht
        have ht : (some 18 : Option Nat) = some t := ht
        cases ht
        refine Ex.seg hq 3 (j := 21) (L' := [.ref 55, .int p1, .int p2]) (S' := [.int p1, .ref 59]) (h' := hpS s1) rfl ?_
        obtain ⟨hin, k⟩ := k
        refine Ex.ial hq rfl rfl hin ?_
        exact Ex.rt hq rfl rfl ⟨((s1.2.1 59) (p1).toNatClampNeg), s1, rfl, rfl, k⟩
      · have cx : p2 = (3 : Int32) := Int32.toInt_inj.mp (by rw [e]; rfl)
        have k := k.2.2.2.1 cx
        rw [e] at ht
        have ht : (some 23 : Option Nat) = some t := ht
        cases ht
        refine Ex.seg hq 3 (j := 26) (L' := [.ref 55, .int p1, .int p2]) (S' := [.int p1, .ref 60]) (h' := hpS s1) rfl ?_
        obtain ⟨hin, k⟩ := k
        refine Ex.ial hq rfl rfl hin ?_
        exact Ex.rt hq rfl rfl ⟨((s1.2.1 60) (p1).toNatClampNeg), s1, rfl, rfl, k⟩
      · have cx : p2 = (4 : Int32) := Int32.toInt_inj.mp (by rw [e]; rfl)
        have k := k.2.2.2.2.1 cx
        rw [e] at ht
        have ht : (some 28 : Option Nat) = some t := ht
        cases ht
        refine Ex.seg hq 3 (j := 31) (L' := [.ref 55, .int p1, .int p2]) (S' := [.int p1, .ref 61]) (h' := hpS s1) rfl ?_
        obtain ⟨hin, k⟩ := k
        refine Ex.ial hq rfl rfl hin ?_
        exact Ex.rt hq rfl rfl ⟨((s1.2.1 61) (p1).toNatClampNeg), s1, rfl, rfl, k⟩
      · have cx : p2 = (5 : Int32) := Int32.toInt_inj.mp (by rw [e]; rfl)
        have k := k.2.2.2.2.2.1 cx
        rw [e] at ht
        have ht : (some 33 : Option Nat) = some t := ht
        cases ht
        refine Ex.seg hq 3 (j := 36) (L' := [.ref 55, .int p1, .int p2]) (S' := [.int p1, .ref 62]) (h' := hpS s1) rfl ?_
        obtain ⟨hin, k⟩ := k
        refine Ex.ial hq rfl rfl hin ?_
        exact Ex.rt hq rfl rfl ⟨((s1.2.1 62) (p1).toNatClampNeg), s1, rfl, rfl, k⟩
      · have cx : p2 = (6 : Int32) := Int32.toInt_inj.mp (by rw [e]; rfl)
        have k := k.2.2.2.2.2.2.1 cx
        rw [e] at ht
        have ht : (some 38 : Option Nat) = some t := ht
        cases ht
        refine Ex.seg hq 3 (j := 41) (L' := [.ref 55, .int p1, .int p2]) (S' := [.int p1, .ref 63]) (h' := hpS s1) rfl ?_
        obtain ⟨hin, k⟩ := k
        refine Ex.ial hq rfl rfl hin ?_
        exact Ex.rt hq rfl rfl ⟨((s1.2.1 63) (p1).toNatClampNeg), s1, rfl, rfl, k⟩
      · have cx : p2 = (7 : Int32) := Int32.toInt_inj.mp (by rw [e]; rfl)
        have k := k.2.2.2.2.2.2.2.1 cx
        rw [e] at ht
        have ht : (some 43 : Option Nat) = some t := ht
        cases ht
        refine Ex.seg hq 3 (j := 46) (L' := [.ref 55, .int p1, .int p2]) (S' := [.int p1, .ref 64]) (h' := hpS s1) rfl ?_
        obtain ⟨hin, k⟩ := k
        refine Ex.ial hq rfl rfl hin ?_
        exact Ex.rt hq rfl rfl ⟨((s1.2.1 64) (p1).toNatClampNeg), s1, rfl, rfl, k⟩
      · have cx : p2 = (8 : Int32) := Int32.toInt_inj.mp (by rw [e]; rfl)
        have k := k.2.2.2.2.2.2.2.2.1 cx
        rw [e] at ht
        have ht : (some 48 : Option Nat) = some t := ht
        cases ht
        refine Ex.seg hq 3 (j := 51) (L' := [.ref 55, .int p1, .int p2]) (S' := [.int p1, .ref 65]) (h' := hpS s1) rfl ?_
        obtain ⟨hin, k⟩ := k
        refine Ex.ial hq rfl rfl hin ?_
        exact Ex.rt hq rfl rfl ⟨((s1.2.1 65) (p1).toNatClampNeg), s1, rfl, rfl, k⟩
      · have cx : p2 = (9 : Int32) := Int32.toInt_inj.mp (by rw [e]; rfl)
        have k := k.2.2.2.2.2.2.2.2.2.1 cx
        rw [e] at ht
        have ht : (some 53 : Option Nat) = some t := ht
        cases ht
        refine Ex.seg hq 3 (j := 56) (L' := [.ref 55, .int p1, .int p2]) (S' := [.int p1, .ref 66]) (h' := hpS s1) rfl ?_
        obtain ⟨hin, k⟩ := k
        refine Ex.ial hq rfl rfl hin ?_
        exact Ex.rt hq rfl rfl ⟨((s1.2.1 66) (p1).toNatClampNeg), s1, rfl, rfl, k⟩
      · have cx : p2 = (10 : Int32) := Int32.toInt_inj.mp (by rw [e]; rfl)
        have k := k.2.2.2.2.2.2.2.2.2.2 cx
        rw [e] at ht
        have ht : (some 58 : Option Nat) = some t := ht
        cases ht
        refine Ex.seg hq 3 (j := 61) (L' := [.ref 55, .int p1, .int p2]) (S' := [.int p1, .ref 67]) (h' := hpS s1) rfl ?_
        obtain ⟨hin, k⟩ := k
        refine Ex.ial hq rfl rfl hin ?_
        exact Ex.rt hq rfl rfl ⟨((s1.2.1 67) (p1).toNatClampNeg), s1, rfl, rfl, k⟩
  · have k := k.2 c
    refine Ex.seg hq 1 (j := 5) (L' := [.ref 55, .int p1, .int p2]) (S' := [.int (-1 : Int32)]) (h' := hpS s1) rfl ?_
    exact Ex.rt hq rfl rfl ⟨(-1 : Int32), s1, rfl, rfl, k⟩
end WP
