/-! ===== weakest preconditions, printed by wip/whole/genwp.py ===== -/
section WP
variable {sc : Nat × (Nat → Int32)}
/-- RowAuditorModel.behind(IZIZ)I -/
def w_267 (p1 : Int32) (p2 : Int32) (p3 : Int32) (p4 : Int32) (s : ST) (K : Int32 → ST → Prop) : Prop := w_264 p1 p2 s (fun r2 s1 => ((r2 = 0 → K (-1 : Int32) s1) ∧ (¬ (r2 = 0) → w_264 p3 p4 s1 (fun r4 s3 => ((¬ r4 = 0 → ((p2 = 0 → w_266 p1 s3 (fun s5 => ((p4 = 0 → (pin p3 36 = true ∧ ((((s5.2.1 109) (p3).toNatClampNeg) = 0 → K (0 : Int32) s5) ∧ (¬ (((s5.2.1 109) (p3).toNatClampNeg) = 0) → K (1 : Int32) s5)))) ∧ (¬ (p4 = 0) → (pin ((16 : Int32) + p3) 36 = true ∧ ((((s5.2.1 109) (((16 : Int32) + p3)).toNatClampNeg) = 0 → K (0 : Int32) s5) ∧ (¬ (((s5.2.1 109) (((16 : Int32) + p3)).toNatClampNeg) = 0) → K (1 : Int32) s5))))))) ∧ (¬ (p2 = 0) → w_266 ((16 : Int32) + p1) s3 (fun s7 => ((p4 = 0 → (pin p3 36 = true ∧ ((((s7.2.1 109) (p3).toNatClampNeg) = 0 → K (0 : Int32) s7) ∧ (¬ (((s7.2.1 109) (p3).toNatClampNeg) = 0) → K (1 : Int32) s7)))) ∧ (¬ (p4 = 0) → (pin ((16 : Int32) + p3) 36 = true ∧ ((((s7.2.1 109) (((16 : Int32) + p3)).toNatClampNeg) = 0 → K (0 : Int32) s7) ∧ (¬ (((s7.2.1 109) (((16 : Int32) + p3)).toNatClampNeg) = 0) → K (1 : Int32) s7))))))))) ∧ (¬ (¬ r4 = 0) → K (-1 : Int32) s3))))))
theorem q_267 {d : Nat} {K : Int32 → ST → Prop} (p1 : Int32) (p2 : Int32) (p3 : Int32) (p4 : Int32) (s : ST) (k : w_267 p1 p2 p3 p4 s K) : Rn sc (d + 1) 267 [.ref 55, .int p1, .int p2, .int p3, .int p4] (hpS s) (kI K) := by
  have hq : prog[267]? = some pm267 := rfl
  refine Rn.of (L := [.ref 55, .int p1, .int p2, .int p3, .int p4]) hq rfl rfl ?_
  unfold w_267 at k
  refine Ex.seg hq 2 (j := 2) (L' := [.ref 55, .int p1, .int p2, .int p3, .int p4]) (S' := [.int p2, .int p1]) (h' := hpS s) rfl ?_
  refine Ex.cl hq rfl rfl ?_
  refine Rn.mono (q_264 (d := d + 0) p1 p2 s k) ?_
  rintro _ _ ⟨r2, s1, rfl, hzr2, rfl, k⟩
  show Ex sc (d + 1) 267 3 [.ref 55, .int p1, .int p2, .int p3, .int p4] [.int r2] (hpS s1) _
  refine Ex.i1 hq rfl (fun c => ?_) (fun c => ?_)
  · have k := k.1 c
    refine Ex.seg hq 1 (j := 9) (L' := [.ref 55, .int p1, .int p2, .int p3, .int p4]) (S' := [.int (-1 : Int32)]) (h' := hpS s1) rfl ?_
    exact Ex.rt hq rfl rfl ⟨(-1 : Int32), s1, rfl, rfl, k⟩
  · have k := k.2 c
    refine Ex.seg hq 2 (j := 6) (L' := [.ref 55, .int p1, .int p2, .int p3, .int p4]) (S' := [.int p4, .int p3]) (h' := hpS s1) rfl ?_
    refine Ex.cl hq rfl rfl ?_
    refine Rn.mono (q_264 (d := d + 0) p3 p4 s1 k) ?_
    rintro _ _ ⟨r4, s3, rfl, hzr4, rfl, k⟩
    show Ex sc (d + 1) 267 7 [.ref 55, .int p1, .int p2, .int p3, .int p4] [.int r4] (hpS s3) _
    refine Ex.i1 hq rfl (fun c => ?_) (fun c => ?_)
    · have k := k.1 c
      refine Ex.seg hq 2 (j := 12) (L' := [.ref 55, .int p1, .int p2, .int p3, .int p4]) (S' := [.int p2, .ref 55]) (h' := hpS s3) rfl ?_
      refine Ex.i1 hq rfl (fun c => ?_) (fun c => ?_)
      · have k := k.1 c
        refine Ex.seg hq 1 (j := 18) (L' := [.ref 55, .int p1, .int p2, .int p3, .int p4]) (S' := [.int p1, .ref 55]) (h' := hpS s3) rfl ?_
        refine Ex.cl hq rfl rfl ?_
        refine Rn.mono (q_266 (d := d + 0) p1 s3 k) ?_
        rintro _ _ ⟨s5, rfl, rfl, k⟩
        show Ex sc (d + 1) 267 19 [.ref 55, .int p1, .int p2, .int p3, .int p4] [] (hpS s5) _
        refine Ex.seg hq 3 (j := 22) (L' := [.ref 55, .int p1, .int p2, .int p3, .int p4]) (S' := [.int p4, .ref 109]) (h' := hpS s5) rfl ?_
        refine Ex.i1 hq rfl (fun c => ?_) (fun c => ?_)
        · have k := k.1 c
          refine Ex.seg hq 1 (j := 28) (L' := [.ref 55, .int p1, .int p2, .int p3, .int p4]) (S' := [.int p3, .ref 109]) (h' := hpS s5) rfl ?_
          obtain ⟨hin, k⟩ := k
          refine Ex.zal hq rfl rfl hin ?_
          refine Ex.i1 hq rfl (fun c => ?_) (fun c => ?_)
          · have k := k.1 c
            refine Ex.seg hq 1 (j := 33) (L' := [.ref 55, .int p1, .int p2, .int p3, .int p4]) (S' := [.int (0 : Int32)]) (h' := hpS s5) rfl ?_
            exact Ex.rt hq rfl rfl ⟨(0 : Int32), s5, rfl, rfl, k⟩
          · have k := k.2 c
            refine Ex.seg hq 2 (j := 33) (L' := [.ref 55, .int p1, .int p2, .int p3, .int p4]) (S' := [.int (1 : Int32)]) (h' := hpS s5) rfl ?_
            exact Ex.rt hq rfl rfl ⟨(1 : Int32), s5, rfl, rfl, k⟩
        · have k := k.2 c
          refine Ex.seg hq 4 (j := 28) (L' := [.ref 55, .int p1, .int p2, .int p3, .int p4]) (S' := [.int ((16 : Int32) + p3), .ref 109]) (h' := hpS s5) rfl ?_
          obtain ⟨hin, k⟩ := k
          refine Ex.zal hq rfl rfl hin ?_
          refine Ex.i1 hq rfl (fun c => ?_) (fun c => ?_)
          · have k := k.1 c
            refine Ex.seg hq 1 (j := 33) (L' := [.ref 55, .int p1, .int p2, .int p3, .int p4]) (S' := [.int (0 : Int32)]) (h' := hpS s5) rfl ?_
            exact Ex.rt hq rfl rfl ⟨(0 : Int32), s5, rfl, rfl, k⟩
          · have k := k.2 c
            refine Ex.seg hq 2 (j := 33) (L' := [.ref 55, .int p1, .int p2, .int p3, .int p4]) (S' := [.int (1 : Int32)]) (h' := hpS s5) rfl ?_
            exact Ex.rt hq rfl rfl ⟨(1 : Int32), s5, rfl, rfl, k⟩
      · have k := k.2 c
        refine Ex.seg hq 4 (j := 18) (L' := [.ref 55, .int p1, .int p2, .int p3, .int p4]) (S' := [.int ((16 : Int32) + p1), .ref 55]) (h' := hpS s3) rfl ?_
        refine Ex.cl hq rfl rfl ?_
        refine Rn.mono (q_266 (d := d + 0) ((16 : Int32) + p1) s3 k) ?_
        rintro _ _ ⟨s7, rfl, rfl, k⟩
        show Ex sc (d + 1) 267 19 [.ref 55, .int p1, .int p2, .int p3, .int p4] [] (hpS s7) _
        refine Ex.seg hq 3 (j := 22) (L' := [.ref 55, .int p1, .int p2, .int p3, .int p4]) (S' := [.int p4, .ref 109]) (h' := hpS s7) rfl ?_
        refine Ex.i1 hq rfl (fun c => ?_) (fun c => ?_)
        · have k := k.1 c
          refine Ex.seg hq 1 (j := 28) (L' := [.ref 55, .int p1, .int p2, .int p3, .int p4]) (S' := [.int p3, .ref 109]) (h' := hpS s7) rfl ?_
          obtain ⟨hin, k⟩ := k
          refine Ex.zal hq rfl rfl hin ?_
          refine Ex.i1 hq rfl (fun c => ?_) (fun c => ?_)
          · have k := k.1 c
            refine Ex.seg hq 1 (j := 33) (L' := [.ref 55, .int p1, .int p2, .int p3, .int p4]) (S' := [.int (0 : Int32)]) (h' := hpS s7) rfl ?_
            exact Ex.rt hq rfl rfl ⟨(0 : Int32), s7, rfl, rfl, k⟩
          · have k := k.2 c
            refine Ex.seg hq 2 (j := 33) (L' := [.ref 55, .int p1, .int p2, .int p3, .int p4]) (S' := [.int (1 : Int32)]) (h' := hpS s7) rfl ?_
            exact Ex.rt hq rfl rfl ⟨(1 : Int32), s7, rfl, rfl, k⟩
        · have k := k.2 c
          refine Ex.seg hq 4 (j := 28) (L' := [.ref 55, .int p1, .int p2, .int p3, .int p4]) (S' := [.int ((16 : Int32) + p3), .ref 109]) (h' := hpS s7) rfl ?_
          obtain ⟨hin, k⟩ := k
          refine Ex.zal hq rfl rfl hin ?_
          refine Ex.i1 hq rfl (fun c => ?_) (fun c => ?_)
          · have k := k.1 c
            refine Ex.seg hq 1 (j := 33) (L' := [.ref 55, .int p1, .int p2, .int p3, .int p4]) (S' := [.int (0 : Int32)]) (h' := hpS s7) rfl ?_
            exact Ex.rt hq rfl rfl ⟨(0 : Int32), s7, rfl, rfl, k⟩
          · have k := k.2 c
            refine Ex.seg hq 2 (j := 33) (L' := [.ref 55, .int p1, .int p2, .int p3, .int p4]) (S' := [.int (1 : Int32)]) (h' := hpS s7) rfl ?_
            exact Ex.rt hq rfl rfl ⟨(1 : Int32), s7, rfl, rfl, k⟩
    · have k := k.2 c
      refine Ex.seg hq 1 (j := 9) (L' := [.ref 55, .int p1, .int p2, .int p3, .int p4]) (S' := [.int (-1 : Int32)]) (h' := hpS s3) rfl ?_
      exact Ex.rt hq rfl rfl ⟨(-1 : Int32), s3, rfl, rfl, k⟩
def w_268_L16 : Nat → Int32 → Int32 → ST → (Int32 → ST → Prop) → (Int32 → ST → Prop) → Prop
  | 0, _, _, _, _, _ => False
  | n + 1, x2, x3, s, X62, K => (((s.1 5520) ≤ x3 → X62 x2 s) ∧ (¬ ((s.1 5520) ≤ x3) → (pin x3 150 = true ∧ w_229 ((s.2.1 72) (x3).toNatClampNeg) s (fun r8 s7 => ((r8 = (-1 : Int32) → w_268_L16 n x2 (x3 + (1 : Int32)) s7 X62 K) ∧ (¬ (r8 = (-1 : Int32)) → (pin ((s.2.1 72) (x3).toNatClampNeg) 150 = true ∧ (pin ((16 : Int32) + ((s7.2.1 59) (((s.2.1 72) (x3).toNatClampNeg)).toNatClampNeg)) 36 = true ∧ ((¬ ((s7.2.1 109) (((16 : Int32) + ((s7.2.1 59) (((s.2.1 72) (x3).toNatClampNeg)).toNatClampNeg))).toNatClampNeg) = 0 → (pin ((s.2.1 72) (x3).toNatClampNeg) 150 = true ∧ ((¬ ((s7.2.1 57) (((s.2.1 72) (x3).toNatClampNeg)).toNatClampNeg) = (1 : Int32) → (pin ((s.2.1 72) (x3).toNatClampNeg) 150 = true ∧ w_268_L16 n (x2 + (-((s7.2.1 73) (((s.2.1 72) (x3).toNatClampNeg)).toNatClampNeg))) (x3 + (1 : Int32)) s7 X62 K)) ∧ (¬ (¬ ((s7.2.1 57) (((s.2.1 72) (x3).toNatClampNeg)).toNatClampNeg) = (1 : Int32)) → (pin ((s.2.1 72) (x3).toNatClampNeg) 150 = true ∧ w_268_L16 n (x2 + ((s7.2.1 73) (((s.2.1 72) (x3).toNatClampNeg)).toNatClampNeg)) (x3 + (1 : Int32)) s7 X62 K))))) ∧ (¬ (¬ ((s7.2.1 109) (((16 : Int32) + ((s7.2.1 59) (((s.2.1 72) (x3).toNatClampNeg)).toNatClampNeg))).toNatClampNeg) = 0) → w_268_L16 n x2 (x3 + (1 : Int32)) s7 X62 K))))))))))
theorem q_268_L16 {d : Nat} {X62 : Int32 → ST → Prop} {K : Int32 → ST → Prop} : ∀ (n : Nat) (x2 : Int32) (x3 : Int32) (s : ST), w_268_L16 n x2 x3 s X62 K → (∀ (y2 : Int32) (s : ST), X62 y2 s → Ex sc (d + 2) 268 62 [pu, pu, .int y2, pu, pu] [] (hpS s) (kI K)) → Ex sc (d + 2) 268 16 [.ref 55, pu, .int x2, .int x3, pu] [] (hpS s) (kI K) := by
  have hq : prog[268]? = some pm268 := rfl
  intro n
  induction n with
  | zero =>
    intro x2 x3 s k
    exact k.elim
  | succ n ih =>
    intro x2 x3 s k hX62
    rw [w_268_L16] at k
    refine Ex.seg hq 3 (j := 19) (L' := [.ref 55, pu, .int x2, .int x3, pu]) (S' := [.int (s.1 5520), .int x3]) (h' := hpS s) rfl ?_
    refine Ex.i2 hq rfl (fun c => ?_) (fun c => ?_)
    · have k := k.1 c
      refine Ex.fg (L := [pu, pu, .int x2, pu, pu]) ⟨Or.inr ⟨rfl, rfl⟩, ⟨Or.inl rfl, ⟨Or.inl rfl, ⟨Or.inr ⟨rfl, rfl⟩, ⟨Or.inl rfl, trivial⟩⟩⟩⟩⟩ ?_
      exact hX62 x2 s k
    · have k := k.2 c
      refine Ex.seg hq 3 (j := 23) (L' := [.ref 55, pu, .int x2, .int x3, pu]) (S' := [.int x3, .ref 72]) (h' := hpS s) rfl ?_
      obtain ⟨hin, k⟩ := k
      refine Ex.ial hq rfl rfl hin ?_
      refine Ex.seg hq 3 (j := 27) (L' := [.ref 55, pu, .int x2, .int x3, .int ((s.2.1 72) (x3).toNatClampNeg)]) (S' := [.int ((s.2.1 72) (x3).toNatClampNeg), .ref 55]) (h' := hpS s) rfl ?_
      refine Ex.cl hq rfl rfl ?_
      refine Rn.mono (q_229 (d := d + 1) ((s.2.1 72) (x3).toNatClampNeg) s k) ?_
      rintro _ _ ⟨r8, s7, rfl, rfl, k⟩
      show Ex sc (d + 2) 268 28 [.ref 55, pu, .int x2, .int x3, .int ((s.2.1 72) (x3).toNatClampNeg)] [.int r8] (hpS s7) _
      refine Ex.seg hq 1 (j := 29) (L' := [.ref 55, pu, .int x2, .int x3, .int ((s.2.1 72) (x3).toNatClampNeg)]) (S' := [.int (-1 : Int32), .int r8]) (h' := hpS s7) rfl ?_
      refine Ex.i2 hq rfl (fun c => ?_) (fun c => ?_)
      · have k := k.1 c
        refine Ex.seg hq 2 (j := 16) (L' := [.ref 55, pu, .int x2, .int (x3 + (1 : Int32)), .int ((s.2.1 72) (x3).toNatClampNeg)]) (S' := []) (h' := hpS s7) rfl ?_
        refine Ex.fg (L := [.ref 55, pu, .int x2, .int (x3 + (1 : Int32)), pu]) ⟨Or.inl rfl, ⟨Or.inl rfl, ⟨Or.inl rfl, ⟨Or.inl rfl, ⟨Or.inr ⟨rfl, rfl⟩, trivial⟩⟩⟩⟩⟩ ?_
        exact ih x2 (x3 + (1 : Int32)) s7 k hX62
      · have k := k.2 c
        refine Ex.seg hq 6 (j := 36) (L' := [.ref 55, pu, .int x2, .int x3, .int ((s.2.1 72) (x3).toNatClampNeg)]) (S' := [.int ((s.2.1 72) (x3).toNatClampNeg), .ref 59, .int (16 : Int32), .ref 109]) (h' := hpS s7) rfl ?_
        obtain ⟨hin, k⟩ := k
        refine Ex.ial hq rfl rfl hin ?_
        refine Ex.seg hq 1 (j := 38) (L' := [.ref 55, pu, .int x2, .int x3, .int ((s.2.1 72) (x3).toNatClampNeg)]) (S' := [.int ((16 : Int32) + ((s7.2.1 59) (((s.2.1 72) (x3).toNatClampNeg)).toNatClampNeg)), .ref 109]) (h' := hpS s7) rfl ?_
        obtain ⟨hin, k⟩ := k
        refine Ex.zal hq rfl rfl hin ?_
        refine Ex.i1 hq rfl (fun c => ?_) (fun c => ?_)
        · have k := k.1 c
          refine Ex.seg hq 4 (j := 45) (L' := [.ref 55, pu, .int x2, .int x3, .int ((s.2.1 72) (x3).toNatClampNeg)]) (S' := [.int ((s.2.1 72) (x3).toNatClampNeg), .ref 57, .int x2]) (h' := hpS s7) rfl ?_
          obtain ⟨hin, k⟩ := k
          refine Ex.ial hq rfl rfl hin ?_
          refine Ex.seg hq 1 (j := 47) (L' := [.ref 55, pu, .int x2, .int x3, .int ((s.2.1 72) (x3).toNatClampNeg)]) (S' := [.int (1 : Int32), .int ((s7.2.1 57) (((s.2.1 72) (x3).toNatClampNeg)).toNatClampNeg), .int x2]) (h' := hpS s7) rfl ?_
          refine Ex.i2 hq rfl (fun c => ?_) (fun c => ?_)
          · have k := k.1 c
            refine Ex.seg hq 3 (j := 56) (L' := [.ref 55, pu, .int x2, .int x3, .int ((s.2.1 72) (x3).toNatClampNeg)]) (S' := [.int ((s.2.1 72) (x3).toNatClampNeg), .ref 73, .int x2]) (h' := hpS s7) rfl ?_
            obtain ⟨hin, k⟩ := k
            refine Ex.ial hq rfl rfl hin ?_
            refine Ex.seg hq 5 (j := 16) (L' := [.ref 55, pu, .int (x2 + (-((s7.2.1 73) (((s.2.1 72) (x3).toNatClampNeg)).toNatClampNeg))), .int (x3 + (1 : Int32)), .int ((s.2.1 72) (x3).toNatClampNeg)]) (S' := []) (h' := hpS s7) rfl ?_
            refine Ex.fg (L := [.ref 55, pu, .int (x2 + (-((s7.2.1 73) (((s.2.1 72) (x3).toNatClampNeg)).toNatClampNeg))), .int (x3 + (1 : Int32)), pu]) ⟨Or.inl rfl, ⟨Or.inl rfl, ⟨Or.inl rfl, ⟨Or.inl rfl, ⟨Or.inr ⟨rfl, rfl⟩, trivial⟩⟩⟩⟩⟩ ?_
            exact ih (x2 + (-((s7.2.1 73) (((s.2.1 72) (x3).toNatClampNeg)).toNatClampNeg))) (x3 + (1 : Int32)) s7 k hX62
          · have k := k.2 c
            refine Ex.seg hq 3 (j := 51) (L' := [.ref 55, pu, .int x2, .int x3, .int ((s.2.1 72) (x3).toNatClampNeg)]) (S' := [.int ((s.2.1 72) (x3).toNatClampNeg), .ref 73, .int x2]) (h' := hpS s7) rfl ?_
            obtain ⟨hin, k⟩ := k
            refine Ex.ial hq rfl rfl hin ?_
            refine Ex.seg hq 5 (j := 16) (L' := [.ref 55, pu, .int (x2 + ((s7.2.1 73) (((s.2.1 72) (x3).toNatClampNeg)).toNatClampNeg)), .int (x3 + (1 : Int32)), .int ((s.2.1 72) (x3).toNatClampNeg)]) (S' := []) (h' := hpS s7) rfl ?_
            refine Ex.fg (L := [.ref 55, pu, .int (x2 + ((s7.2.1 73) (((s.2.1 72) (x3).toNatClampNeg)).toNatClampNeg)), .int (x3 + (1 : Int32)), pu]) ⟨Or.inl rfl, ⟨Or.inl rfl, ⟨Or.inl rfl, ⟨Or.inl rfl, ⟨Or.inr ⟨rfl, rfl⟩, trivial⟩⟩⟩⟩⟩ ?_
            exact ih (x2 + ((s7.2.1 73) (((s.2.1 72) (x3).toNatClampNeg)).toNatClampNeg)) (x3 + (1 : Int32)) s7 k hX62
        · have k := k.2 c
          refine Ex.seg hq 3 (j := 16) (L' := [.ref 55, pu, .int x2, .int (x3 + (1 : Int32)), .int ((s.2.1 72) (x3).toNatClampNeg)]) (S' := []) (h' := hpS s7) rfl ?_
          refine Ex.fg (L := [.ref 55, pu, .int x2, .int (x3 + (1 : Int32)), pu]) ⟨Or.inl rfl, ⟨Or.inl rfl, ⟨Or.inl rfl, ⟨Or.inl rfl, ⟨Or.inr ⟨rfl, rfl⟩, trivial⟩⟩⟩⟩⟩ ?_
          exact ih x2 (x3 + (1 : Int32)) s7 k hX62
/-- RowAuditorModel.grown(I)I -/
def w_268 (p1 : Int32) (s : ST) (K : Int32 → ST → Prop) : Prop := w_191 p1 s (fun r2 s1 => ((¬ r2 = 0 → w_266 p1 s1 (fun s3 => w_197 (s3.1 5500) s3 (fun s5 => (∃ m, w_268_L16 m (0 : Int32) (0 : Int32) s5 (fun y2 s9 => K y2 s9) K)))) ∧ (¬ (¬ r2 = 0) → K (-1000000000 : Int32) s1)))
theorem q_268 {d : Nat} {K : Int32 → ST → Prop} (p1 : Int32) (s : ST) (k : w_268 p1 s K) : Rn sc (d + 2) 268 [.ref 55, .int p1] (hpS s) (kI K) := by
  have hq : prog[268]? = some pm268 := rfl
  refine Rn.of (L := [.ref 55, .int p1, pu, pu, pu]) hq rfl rfl ?_
  unfold w_268 at k
  refine Ex.seg hq 1 (j := 1) (L' := [.ref 55, .int p1, pu, pu, pu]) (S' := [.int p1]) (h' := hpS s) rfl ?_
  refine Ex.cl hq rfl rfl ?_
  refine Rn.mono (q_191 (d := d + 1) p1 s k) ?_
  rintro _ _ ⟨r2, s1, rfl, hzr2, rfl, k⟩
  show Ex sc (d + 2) 268 2 [.ref 55, .int p1, pu, pu, pu] [.int r2] (hpS s1) _
  refine Ex.i1 hq rfl (fun c => ?_) (fun c => ?_)
  · have k := k.1 c
    refine Ex.seg hq 2 (j := 7) (L' := [.ref 55, .int p1, pu, pu, pu]) (S' := [.int p1, .ref 55]) (h' := hpS s1) rfl ?_
    refine Ex.cl hq rfl rfl ?_
    refine Rn.mono (q_266 (d := d + 1) p1 s1 k) ?_
    rintro _ _ ⟨s3, rfl, rfl, k⟩
    show Ex sc (d + 2) 268 8 [.ref 55, .int p1, pu, pu, pu] [] (hpS s3) _
    refine Ex.seg hq 3 (j := 11) (L' := [.ref 55, .int p1, pu, pu, pu]) (S' := [.int (s3.1 5500), .ref 55]) (h' := hpS s3) rfl ?_
    refine Ex.cl hq rfl rfl ?_
    refine Rn.mono (q_197 (d := d + 0) (s3.1 5500) s3 k) ?_
    rintro _ _ ⟨s5, rfl, rfl, k⟩
    show Ex sc (d + 2) 268 12 [.ref 55, .int p1, pu, pu, pu] [] (hpS s5) _
    refine Ex.seg hq 4 (j := 16) (L' := [.ref 55, .int p1, .int (0 : Int32), .int (0 : Int32), pu]) (S' := []) (h' := hpS s5) rfl ?_
    obtain ⟨m, k⟩ := k
    refine Ex.fg (L := [.ref 55, pu, .int (0 : Int32), .int (0 : Int32), pu]) ⟨Or.inl rfl, ⟨Or.inr ⟨rfl, rfl⟩, ⟨Or.inl rfl, ⟨Or.inl rfl, ⟨Or.inl rfl, trivial⟩⟩⟩⟩⟩ ?_
    refine q_268_L16 (d := d) m (0 : Int32) (0 : Int32) s5 k ?_
    · intro y2 s9 k
      refine Ex.seg hq 1 (j := 63) (L' := [pu, pu, .int y2, pu, pu]) (S' := [.int y2]) (h' := hpS s9) rfl ?_
      exact Ex.rt hq rfl rfl ⟨y2, s9, rfl, rfl, k⟩
  · have k := k.2 c
    refine Ex.seg hq 1 (j := 4) (L' := [.ref 55, .int p1, pu, pu, pu]) (S' := [.int (-1000000000 : Int32)]) (h' := hpS s1) rfl ?_
    exact Ex.rt hq rfl rfl ⟨(-1000000000 : Int32), s1, rfl, rfl, k⟩
def w_269_L25 : Nat → Int32 → Int32 → Int32 → Int64 → Int32 → ST → (Int32 → Int32 → Int32 → Int64 → ST → Prop) → (Int32 → ST → Prop) → Prop
  | 0, _, _, _, _, _, _, _, _ => False
  | n + 1, x1, x2, x3, x4, x6, s, X47, K => (((s.1 5520) ≤ x6 → X47 x1 x2 x3 x4 s) ∧ (¬ ((s.1 5520) ≤ x6) → (pin x6 150 = true ∧ (pin x6 150 = true ∧ (pin ((s.2.1 72) (x6).toNatClampNeg) 150 = true ∧ w_269_L25 n x1 x2 x3 (x4 + ((((s.2.1 73) (((s.2.1 72) (x6).toNatClampNeg)).toNatClampNeg)).toInt64)) (x6 + (1 : Int32)) (sA s 110 (upd (s.2.1 110) (x6).toNatClampNeg (vp_nar .boolean (0 : Int32)))) X47 K)))))
theorem q_269_L25 {d : Nat} {X47 : Int32 → Int32 → Int32 → Int64 → ST → Prop} {K : Int32 → ST → Prop} : ∀ (n : Nat) (x1 : Int32) (x2 : Int32) (x3 : Int32) (x4 : Int64) (x6 : Int32) (s : ST), w_269_L25 n x1 x2 x3 x4 x6 s X47 K → (∀ (y1 : Int32) (y2 : Int32) (y3 : Int32) (y4 : Int64) (s : ST), X47 y1 y2 y3 y4 s → Ex sc (d + 5) 269 47 [.ref 55, .int y1, .int y2, .int y3, .long y4, pu, pu, pu, pu, pu, pu, pu, pu, pu, pu] [] (hpS s) (kI K)) → Ex sc (d + 5) 269 25 [.ref 55, .int x1, .int x2, .int x3, .long x4, pu, .int x6, pu, pu, pu, pu, pu, pu, pu, pu] [] (hpS s) (kI K) := by
  have hq : prog[269]? = some pm269 := rfl
  intro n
  induction n with
  | zero =>
    intro x1 x2 x3 x4 x6 s k
    exact k.elim
  | succ n ih =>
    intro x1 x2 x3 x4 x6 s k hX47
    rw [w_269_L25] at k
    refine Ex.seg hq 3 (j := 28) (L' := [.ref 55, .int x1, .int x2, .int x3, .long x4, pu, .int x6, pu, pu, pu, pu, pu, pu, pu, pu]) (S' := [.int (s.1 5520), .int x6]) (h' := hpS s) rfl ?_
    refine Ex.i2 hq rfl (fun c => ?_) (fun c => ?_)
    · have k := k.1 c
      refine Ex.fg (L := [.ref 55, .int x1, .int x2, .int x3, .long x4, pu, pu, pu, pu, pu, pu, pu, pu, pu, pu]) ⟨Or.inl rfl, ⟨Or.inl rfl, ⟨Or.inl rfl, ⟨Or.inl rfl, ⟨Or.inl rfl, ⟨Or.inl rfl, ⟨Or.inr ⟨rfl, rfl⟩, ⟨Or.inl rfl, ⟨Or.inl rfl, ⟨Or.inl rfl, ⟨Or.inl rfl, ⟨Or.inl rfl, ⟨Or.inl rfl, ⟨Or.inl rfl, ⟨Or.inl rfl, trivial⟩⟩⟩⟩⟩⟩⟩⟩⟩⟩⟩⟩⟩⟩⟩ ?_
      exact hX47 x1 x2 x3 x4 s k
    · have k := k.2 c
      refine Ex.seg hq 4 (j := 33) (L' := [.ref 55, .int x1, .int x2, .int x3, .long x4, pu, .int x6, pu, pu, pu, pu, pu, pu, pu, pu]) (S' := [.int (0 : Int32), .int x6, .ref 110]) (h' := hpS s) rfl ?_
      obtain ⟨hin, k⟩ := k
      refine Ex.zas hq rfl rfl hin (h' := hpS (sA s 110 (upd (s.2.1 110) (x6).toNatClampNeg (vp_nar .boolean (0 : Int32))))) (hset_110 _ _) ?_
      refine Ex.seg hq 6 (j := 40) (L' := [.ref 55, .int x1, .int x2, .int x3, .long x4, pu, .int x6, pu, pu, pu, pu, pu, pu, pu, pu]) (S' := [.int x6, .ref 72, .ref 73, .long x4]) (h' := hpS (sA s 110 (upd (s.2.1 110) (x6).toNatClampNeg (vp_nar .boolean (0 : Int32))))) rfl ?_
      obtain ⟨hin, k⟩ := k
      refine Ex.ial hq rfl rfl hin ?_
      obtain ⟨hin, k⟩ := k
      refine Ex.ial hq rfl rfl hin ?_
      refine Ex.seg hq 5 (j := 25) (L' := [.ref 55, .int x1, .int x2, .int x3, .long (x4 + ((((s.2.1 73) (((s.2.1 72) (x6).toNatClampNeg)).toNatClampNeg)).toInt64)), pu, .int (x6 + (1 : Int32)), pu, pu, pu, pu, pu, pu, pu, pu]) (S' := []) (h' := hpS (sA s 110 (upd (s.2.1 110) (x6).toNatClampNeg (vp_nar .boolean (0 : Int32))))) rfl ?_
      exact ih x1 x2 x3 (x4 + ((((s.2.1 73) (((s.2.1 72) (x6).toNatClampNeg)).toNatClampNeg)).toInt64)) (x6 + (1 : Int32)) (sA s 110 (upd (s.2.1 110) (x6).toNatClampNeg (vp_nar .boolean (0 : Int32)))) k hX47
def w_269_L77 : Nat → Int32 → Int32 → Int64 → Int32 → Int32 → Int32 → Int64 → Int32 → Int64 → Int32 → ST → (Int32 → Int32 → Int64 → Int32 → Int32 → Int32 → Int64 → Int32 → Int64 → Int32 → ST → Prop) → (Int32 → ST → Prop) → Prop
  | 0, _, _, _, _, _, _, _, _, _, _, _, _, _ => False
  | n + 1, x1, x3, x4, x6, x7, x8, x9, x11, x12, x14, s, X104, K => (pin x14 150 = true ∧ (pin ((s.2.1 72) (x14).toNatClampNeg) 150 = true ∧ (((lg_cmp x12 ((((s.2.1 73) (((s.2.1 72) (x14).toNatClampNeg)).toNatClampNeg)).toInt64)) < 0 → X104 x1 x3 x4 x6 x7 x8 x9 x11 x12 x14 s) ∧ (¬ ((lg_cmp x12 ((((s.2.1 73) (((s.2.1 72) (x14).toNatClampNeg)).toNatClampNeg)).toInt64)) < 0) → (pin x14 150 = true ∧ (pin ((s.2.1 72) (x14).toNatClampNeg) 150 = true ∧ w_269_L77 n x1 x3 x4 x6 x7 x8 x9 x11 (x12 - ((((s.2.1 73) (((s.2.1 72) (x14).toNatClampNeg)).toNatClampNeg)).toInt64)) (x14 + (1 : Int32)) s X104 K))))))
theorem q_269_L77 {d : Nat} {X104 : Int32 → Int32 → Int64 → Int32 → Int32 → Int32 → Int64 → Int32 → Int64 → Int32 → ST → Prop} {K : Int32 → ST → Prop} : ∀ (n : Nat) (x1 : Int32) (x3 : Int32) (x4 : Int64) (x6 : Int32) (x7 : Int32) (x8 : Int32) (x9 : Int64) (x11 : Int32) (x12 : Int64) (x14 : Int32) (s : ST), w_269_L77 n x1 x3 x4 x6 x7 x8 x9 x11 x12 x14 s X104 K → (∀ (y1 : Int32) (y3 : Int32) (y4 : Int64) (y6 : Int32) (y7 : Int32) (y8 : Int32) (y9 : Int64) (y11 : Int32) (y12 : Int64) (y14 : Int32) (s : ST), X104 y1 y3 y4 y6 y7 y8 y9 y11 y12 y14 s → Ex sc (d + 5) 269 104 [.ref 55, .int y1, pu, .int y3, .long y4, pu, .int y6, .int y7, .int y8, .long y9, pu, .int y11, .long y12, pu, .int y14] [] (hpS s) (kI K)) → Ex sc (d + 5) 269 77 [.ref 55, .int x1, pu, .int x3, .long x4, pu, .int x6, .int x7, .int x8, .long x9, pu, .int x11, .long x12, pu, .int x14] [] (hpS s) (kI K) := by
  have hq : prog[269]? = some pm269 := rfl
  intro n
  induction n with
  | zero =>
    intro x1 x3 x4 x6 x7 x8 x9 x11 x12 x14 s k
    exact k.elim
  | succ n ih =>
    intro x1 x3 x4 x6 x7 x8 x9 x11 x12 x14 s k hX104
    rw [w_269_L77] at k
    refine Ex.seg hq 6 (j := 83) (L' := [.ref 55, .int x1, pu, .int x3, .long x4, pu, .int x6, .int x7, .int x8, .long x9, pu, .int x11, .long x12, pu, .int x14]) (S' := [.int x14, .ref 72, .ref 73, .long x12]) (h' := hpS s) rfl ?_
    obtain ⟨hin, k⟩ := k
    refine Ex.ial hq rfl rfl hin ?_
    obtain ⟨hin, k⟩ := k
    refine Ex.ial hq rfl rfl hin ?_
    refine Ex.seg hq 2 (j := 87) (L' := [.ref 55, .int x1, pu, .int x3, .long x4, pu, .int x6, .int x7, .int x8, .long x9, pu, .int x11, .long x12, pu, .int x14]) (S' := [.int (lg_cmp x12 ((((s.2.1 73) (((s.2.1 72) (x14).toNatClampNeg)).toNatClampNeg)).toInt64))]) (h' := hpS s) rfl ?_
    refine Ex.i1 hq rfl (fun c => ?_) (fun c => ?_)
    · have k := k.1 c
      exact hX104 x1 x3 x4 x6 x7 x8 x9 x11 x12 x14 s k
    · have k := k.2 c
      refine Ex.seg hq 6 (j := 94) (L' := [.ref 55, .int x1, pu, .int x3, .long x4, pu, .int x6, .int x7, .int x8, .long x9, pu, .int x11, .long x12, pu, .int x14]) (S' := [.int x14, .ref 72, .ref 73, .long x12]) (h' := hpS s) rfl ?_
      obtain ⟨hin, k⟩ := k
      refine Ex.ial hq rfl rfl hin ?_
      obtain ⟨hin, k⟩ := k
      refine Ex.ial hq rfl rfl hin ?_
      refine Ex.seg hq 8 (j := 77) (L' := [.ref 55, .int x1, pu, .int x3, .long x4, pu, .int x6, .int x7, .int x8, .long x9, pu, .int x11, .long (x12 - ((((s.2.1 73) (((s.2.1 72) (x14).toNatClampNeg)).toNatClampNeg)).toInt64)), pu, .int (x14 + (1 : Int32))]) (S' := []) (h' := hpS s) rfl ?_
      exact ih x1 x3 x4 x6 x7 x8 x9 x11 (x12 - ((((s.2.1 73) (((s.2.1 72) (x14).toNatClampNeg)).toNatClampNeg)).toInt64)) (x14 + (1 : Int32)) s k hX104
def w_269_L57 : Nat → Int32 → Int32 → Int64 → Int32 → Int32 → Int32 → Int64 → Int32 → Value → ST → (Int32 → Int64 → Int32 → Int32 → Int64 → Value → ST → Prop) → (Int64 → Int64 → Int64 → Int32 → ST → Prop) → (Int32 → ST → Prop) → Prop
  | 0, _, _, _, _, _, _, _, _, _, _, _, _, _ => False
  | n + 1, x1, x3, x4, x6, x7, x8, x9, x11, x12, s, X162, X120, K => ((x1 ≤ x11 → X162 x3 x4 x7 x8 x9 x12 s) ∧ (¬ (x1 ≤ x11) → (¬ (65536 : Int32) = 0 ∧ (¬ (65536 : Int64) = 0 ∧ (∃ m, w_269_L77 m x1 x3 x4 ((((25173 : Int32) * x6) + (13849 : Int32)) - (((25173 : Int32) * x6) + (13849 : Int32)) / (65536 : Int32) * (65536 : Int32)) x7 x8 x9 x11 ((((((((25173 : Int32) * x6) + (13849 : Int32)) - (((25173 : Int32) * x6) + (13849 : Int32)) / (65536 : Int32) * (65536 : Int32))).toInt64) * x4) / (65536 : Int64)) (0 : Int32) s (fun y1 y3 y4 y6 y7 y8 y9 y11 y12 y14 s8 => (pin y14 150 = true ∧ ((((s8.2.1 110) (y14).toNatClampNeg) = 0 → (pin y14 150 = true ∧ ((¬ y3 = ((10 : Int32) + y7) → (pin y14 150 = true ∧ w_239 ((s8.2.1 72) (y14).toNatClampNeg) (s8.1 5500) (sA s8 110 (upd (s8.2.1 110) (y14).toNatClampNeg (vp_nar .boolean (1 : Int32)))) (fun r10 s9 => ((r10 = 0 → (pin y14 150 = true ∧ (pin ((s9.2.1 72) (y14).toNatClampNeg) 150 = true ∧ w_269_L57 n y1 y3 y4 y6 (y7 + (1 : Int32)) y8 (y9 + ((((s9.2.1 73) (((s9.2.1 72) (y14).toNatClampNeg)).toNatClampNeg)).toInt64)) (y11 + (1 : Int32)) (.long y12) s9 X162 X120 K))) ∧ (¬ (r10 = 0) → (pin y14 150 = true ∧ (pin ((s9.2.1 72) (y14).toNatClampNeg) 150 = true ∧ w_269_L57 n y1 y3 y4 y6 (y7 + (1 : Int32)) (y8 + ((s9.2.1 73) (((s9.2.1 72) (y14).toNatClampNeg)).toNatClampNeg)) y9 (y11 + (1 : Int32)) (.long y12) s9 X162 X120 K))))))) ∧ (¬ (¬ y3 = ((10 : Int32) + y7)) → X120 y4 y9 y12 y14 (sA s8 110 (upd (s8.2.1 110) (y14).toNatClampNeg (vp_nar .boolean (1 : Int32)))))))) ∧ (¬ (((s8.2.1 110) (y14).toNatClampNeg) = 0) → w_269_L57 n y1 y3 y4 y6 y7 y8 y9 (y11 + (1 : Int32)) (.long y12) s8 X162 X120 K)))) K)))))
theorem q_269_L57 {d : Nat} {X162 : Int32 → Int64 → Int32 → Int32 → Int64 → Value → ST → Prop} {X120 : Int64 → Int64 → Int64 → Int32 → ST → Prop} {K : Int32 → ST → Prop} : ∀ (n : Nat) (x1 : Int32) (x3 : Int32) (x4 : Int64) (x6 : Int32) (x7 : Int32) (x8 : Int32) (x9 : Int64) (x11 : Int32) (x12 : Value) (s : ST), w_269_L57 n x1 x3 x4 x6 x7 x8 x9 x11 x12 s X162 X120 K → (∀ (y3 : Int32) (y4 : Int64) (y7 : Int32) (y8 : Int32) (y9 : Int64) (y12 : Value) (s : ST), X162 y3 y4 y7 y8 y9 y12 s → Ex sc (d + 5) 269 162 [pu, pu, pu, .int y3, .long y4, pu, pu, .int y7, .int y8, .long y9, pu, pu, y12, pu, pu] [] (hpS s) (kI K)) → (∀ (y4 : Int64) (y9 : Int64) (y12 : Int64) (y14 : Int32) (s : ST), X120 y4 y9 y12 y14 s → Ex sc (d + 5) 269 120 [.ref 55, pu, pu, pu, .long y4, pu, pu, pu, pu, .long y9, pu, pu, .long y12, pu, .int y14] [] (hpS s) (kI K)) → Ex sc (d + 5) 269 57 [.ref 55, .int x1, pu, .int x3, .long x4, pu, .int x6, .int x7, .int x8, .long x9, pu, .int x11, x12, pu, pu] [] (hpS s) (kI K) := by
  have hq : prog[269]? = some pm269 := rfl
  intro n
  induction n with
  | zero =>
    intro x1 x3 x4 x6 x7 x8 x9 x11 x12 s k
    exact k.elim
  | succ n ih =>
    intro x1 x3 x4 x6 x7 x8 x9 x11 x12 s k hX162 hX120
    rw [w_269_L57] at k
    refine Ex.seg hq 2 (j := 59) (L' := [.ref 55, .int x1, pu, .int x3, .long x4, pu, .int x6, .int x7, .int x8, .long x9, pu, .int x11, x12, pu, pu]) (S' := [.int x1, .int x11]) (h' := hpS s) rfl ?_
    refine Ex.i2 hq rfl (fun c => ?_) (fun c => ?_)
    · have k := k.1 c
      refine Ex.fg (L := [pu, pu, pu, .int x3, .long x4, pu, pu, .int x7, .int x8, .long x9, pu, pu, x12, pu, pu]) ⟨Or.inr ⟨rfl, rfl⟩, ⟨Or.inr ⟨rfl, rfl⟩, ⟨Or.inl rfl, ⟨Or.inl rfl, ⟨Or.inl rfl, ⟨Or.inl rfl, ⟨Or.inr ⟨rfl, rfl⟩, ⟨Or.inl rfl, ⟨Or.inl rfl, ⟨Or.inl rfl, ⟨Or.inl rfl, ⟨Or.inr ⟨rfl, rfl⟩, ⟨Or.inl rfl, ⟨Or.inl rfl, ⟨Or.inl rfl, trivial⟩⟩⟩⟩⟩⟩⟩⟩⟩⟩⟩⟩⟩⟩⟩ ?_
      exact hX162 x3 x4 x7 x8 x9 x12 s k
    · have k := k.2 c
      refine Ex.seg hq 6 (j := 66) (L' := [.ref 55, .int x1, pu, .int x3, .long x4, pu, .int x6, .int x7, .int x8, .long x9, pu, .int x11, x12, pu, pu]) (S' := [.int (65536 : Int32), .int (((25173 : Int32) * x6) + (13849 : Int32))]) (h' := hpS s) rfl ?_
      obtain ⟨hz, k⟩ := k
      refine Ex.rm hq rfl hz ?_
      refine Ex.seg hq 6 (j := 73) (L' := [.ref 55, .int x1, pu, .int x3, .long x4, pu, .int ((((25173 : Int32) * x6) + (13849 : Int32)) - (((25173 : Int32) * x6) + (13849 : Int32)) / (65536 : Int32) * (65536 : Int32)), .int x7, .int x8, .long x9, pu, .int x11, x12, pu, pu]) (S' := [.long (65536 : Int64), .long (((((((25173 : Int32) * x6) + (13849 : Int32)) - (((25173 : Int32) * x6) + (13849 : Int32)) / (65536 : Int32) * (65536 : Int32))).toInt64) * x4)]) (h' := hpS s) rfl ?_
      obtain ⟨hz, k⟩ := k
      refine Ex.ldv hq rfl hz ?_
      refine Ex.seg hq 3 (j := 77) (L' := [.ref 55, .int x1, pu, .int x3, .long x4, pu, .int ((((25173 : Int32) * x6) + (13849 : Int32)) - (((25173 : Int32) * x6) + (13849 : Int32)) / (65536 : Int32) * (65536 : Int32)), .int x7, .int x8, .long x9, pu, .int x11, .long ((((((((25173 : Int32) * x6) + (13849 : Int32)) - (((25173 : Int32) * x6) + (13849 : Int32)) / (65536 : Int32) * (65536 : Int32))).toInt64) * x4) / (65536 : Int64)), pu, .int (0 : Int32)]) (S' := []) (h' := hpS s) rfl ?_
      obtain ⟨m, k⟩ := k
      refine q_269_L77 (d := d) m x1 x3 x4 ((((25173 : Int32) * x6) + (13849 : Int32)) - (((25173 : Int32) * x6) + (13849 : Int32)) / (65536 : Int32) * (65536 : Int32)) x7 x8 x9 x11 ((((((((25173 : Int32) * x6) + (13849 : Int32)) - (((25173 : Int32) * x6) + (13849 : Int32)) / (65536 : Int32) * (65536 : Int32))).toInt64) * x4) / (65536 : Int64)) (0 : Int32) s k ?_
      · intro y1 y3 y4 y6 y7 y8 y9 y11 y12 y14 s8 k
        refine Ex.seg hq 3 (j := 107) (L' := [.ref 55, .int y1, pu, .int y3, .long y4, pu, .int y6, .int y7, .int y8, .long y9, pu, .int y11, .long y12, pu, .int y14]) (S' := [.int y14, .ref 110]) (h' := hpS s8) rfl ?_
        obtain ⟨hin, k⟩ := k
        refine Ex.zal hq rfl rfl hin ?_
        refine Ex.i1 hq rfl (fun c => ?_) (fun c => ?_)
        · have k := k.1 c
          refine Ex.seg hq 4 (j := 114) (L' := [.ref 55, .int y1, pu, .int y3, .long y4, pu, .int y6, .int y7, .int y8, .long y9, pu, .int y11, .long y12, pu, .int y14]) (S' := [.int (1 : Int32), .int y14, .ref 110]) (h' := hpS s8) rfl ?_
          obtain ⟨hin, k⟩ := k
          refine Ex.zas hq rfl rfl hin (h' := hpS (sA s8 110 (upd (s8.2.1 110) (y14).toNatClampNeg (vp_nar .boolean (1 : Int32))))) (hset_110 _ _) ?_
          refine Ex.seg hq 4 (j := 119) (L' := [.ref 55, .int y1, pu, .int y3, .long y4, pu, .int y6, .int y7, .int y8, .long y9, pu, .int y11, .long y12, pu, .int y14]) (S' := [.int ((10 : Int32) + y7), .int y3]) (h' := hpS (sA s8 110 (upd (s8.2.1 110) (y14).toNatClampNeg (vp_nar .boolean (1 : Int32))))) rfl ?_
          refine Ex.i2 hq rfl (fun c => ?_) (fun c => ?_)
          · have k := k.1 c
            refine Ex.seg hq 8 (j := 133) (L' := [.ref 55, .int y1, pu, .int y3, .long y4, pu, .int y6, .int (y7 + (1 : Int32)), .int y8, .long y9, pu, .int y11, .long y12, pu, .int y14]) (S' := [.int y14, .ref 72, .ref 55]) (h' := hpS (sA s8 110 (upd (s8.2.1 110) (y14).toNatClampNeg (vp_nar .boolean (1 : Int32))))) rfl ?_
            obtain ⟨hin, k⟩ := k
            refine Ex.ial hq rfl rfl hin ?_
            refine Ex.seg hq 2 (j := 136) (L' := [.ref 55, .int y1, pu, .int y3, .long y4, pu, .int y6, .int (y7 + (1 : Int32)), .int y8, .long y9, pu, .int y11, .long y12, pu, .int y14]) (S' := [.int (s8.1 5500), .int ((s8.2.1 72) (y14).toNatClampNeg), .ref 55]) (h' := hpS (sA s8 110 (upd (s8.2.1 110) (y14).toNatClampNeg (vp_nar .boolean (1 : Int32))))) rfl ?_
            refine Ex.cl hq rfl rfl ?_
            refine Rn.mono (q_239 (d := d + 0) ((s8.2.1 72) (y14).toNatClampNeg) (s8.1 5500) (sA s8 110 (upd (s8.2.1 110) (y14).toNatClampNeg (vp_nar .boolean (1 : Int32)))) k) ?_
            rintro _ _ ⟨r10, s9, rfl, hzr10, rfl, k⟩
            show Ex sc (d + 5) 269 137 [.ref 55, .int y1, pu, .int y3, .long y4, pu, .int y6, .int (y7 + (1 : Int32)), .int y8, .long y9, pu, .int y11, .long y12, pu, .int y14] [.int r10] (hpS s9) _
            refine Ex.i1 hq rfl (fun c => ?_) (fun c => ?_)
            · have k := k.1 c
              refine Ex.seg hq 6 (j := 155) (L' := [.ref 55, .int y1, pu, .int y3, .long y4, pu, .int y6, .int (y7 + (1 : Int32)), .int y8, .long y9, pu, .int y11, .long y12, pu, .int y14]) (S' := [.int y14, .ref 72, .ref 73, .long y9]) (h' := hpS s9) rfl ?_
              obtain ⟨hin, k⟩ := k
              refine Ex.ial hq rfl rfl hin ?_
              obtain ⟨hin, k⟩ := k
              refine Ex.ial hq rfl rfl hin ?_
              refine Ex.seg hq 5 (j := 57) (L' := [.ref 55, .int y1, pu, .int y3, .long y4, pu, .int y6, .int (y7 + (1 : Int32)), .int y8, .long (y9 + ((((s9.2.1 73) (((s9.2.1 72) (y14).toNatClampNeg)).toNatClampNeg)).toInt64)), pu, .int (y11 + (1 : Int32)), .long y12, pu, .int y14]) (S' := []) (h' := hpS s9) rfl ?_
              refine Ex.fg (L := [.ref 55, .int y1, pu, .int y3, .long y4, pu, .int y6, .int (y7 + (1 : Int32)), .int y8, .long (y9 + ((((s9.2.1 73) (((s9.2.1 72) (y14).toNatClampNeg)).toNatClampNeg)).toInt64)), pu, .int (y11 + (1 : Int32)), .long y12, pu, pu]) ⟨Or.inl rfl, ⟨Or.inl rfl, ⟨Or.inl rfl, ⟨Or.inl rfl, ⟨Or.inl rfl, ⟨Or.inl rfl, ⟨Or.inl rfl, ⟨Or.inl rfl, ⟨Or.inl rfl, ⟨Or.inl rfl, ⟨Or.inl rfl, ⟨Or.inl rfl, ⟨Or.inl rfl, ⟨Or.inl rfl, ⟨Or.inr ⟨rfl, rfl⟩, trivial⟩⟩⟩⟩⟩⟩⟩⟩⟩⟩⟩⟩⟩⟩⟩ ?_
              exact ih y1 y3 y4 y6 (y7 + (1 : Int32)) y8 (y9 + ((((s9.2.1 73) (((s9.2.1 72) (y14).toNatClampNeg)).toNatClampNeg)).toInt64)) (y11 + (1 : Int32)) (.long y12) s9 k hX162 hX120
            · have k := k.2 c
              refine Ex.seg hq 6 (j := 144) (L' := [.ref 55, .int y1, pu, .int y3, .long y4, pu, .int y6, .int (y7 + (1 : Int32)), .int y8, .long y9, pu, .int y11, .long y12, pu, .int y14]) (S' := [.int y14, .ref 72, .ref 73, .int y8]) (h' := hpS s9) rfl ?_
              obtain ⟨hin, k⟩ := k
              refine Ex.ial hq rfl rfl hin ?_
              obtain ⟨hin, k⟩ := k
              refine Ex.ial hq rfl rfl hin ?_
              refine Ex.seg hq 5 (j := 57) (L' := [.ref 55, .int y1, pu, .int y3, .long y4, pu, .int y6, .int (y7 + (1 : Int32)), .int (y8 + ((s9.2.1 73) (((s9.2.1 72) (y14).toNatClampNeg)).toNatClampNeg)), .long y9, pu, .int (y11 + (1 : Int32)), .long y12, pu, .int y14]) (S' := []) (h' := hpS s9) rfl ?_
              refine Ex.fg (L := [.ref 55, .int y1, pu, .int y3, .long y4, pu, .int y6, .int (y7 + (1 : Int32)), .int (y8 + ((s9.2.1 73) (((s9.2.1 72) (y14).toNatClampNeg)).toNatClampNeg)), .long y9, pu, .int (y11 + (1 : Int32)), .long y12, pu, pu]) ⟨Or.inl rfl, ⟨Or.inl rfl, ⟨Or.inl rfl, ⟨Or.inl rfl, ⟨Or.inl rfl, ⟨Or.inl rfl, ⟨Or.inl rfl, ⟨Or.inl rfl, ⟨Or.inl rfl, ⟨Or.inl rfl, ⟨Or.inl rfl, ⟨Or.inl rfl, ⟨Or.inl rfl, ⟨Or.inl rfl, ⟨Or.inr ⟨rfl, rfl⟩, trivial⟩⟩⟩⟩⟩⟩⟩⟩⟩⟩⟩⟩⟩⟩⟩ ?_
              exact ih y1 y3 y4 y6 (y7 + (1 : Int32)) (y8 + ((s9.2.1 73) (((s9.2.1 72) (y14).toNatClampNeg)).toNatClampNeg)) y9 (y11 + (1 : Int32)) (.long y12) s9 k hX162 hX120
          · have k := k.2 c
            refine Ex.fg (L := [.ref 55, pu, pu, pu, .long y4, pu, pu, pu, pu, .long y9, pu, pu, .long y12, pu, .int y14]) ⟨Or.inl rfl, ⟨Or.inr ⟨rfl, rfl⟩, ⟨Or.inl rfl, ⟨Or.inr ⟨rfl, rfl⟩, ⟨Or.inl rfl, ⟨Or.inl rfl, ⟨Or.inr ⟨rfl, rfl⟩, ⟨Or.inr ⟨rfl, rfl⟩, ⟨Or.inr ⟨rfl, rfl⟩, ⟨Or.inl rfl, ⟨Or.inl rfl, ⟨Or.inr ⟨rfl, rfl⟩, ⟨Or.inl rfl, ⟨Or.inl rfl, ⟨Or.inl rfl, trivial⟩⟩⟩⟩⟩⟩⟩⟩⟩⟩⟩⟩⟩⟩⟩ ?_
            exact hX120 y4 y9 y12 y14 (sA s8 110 (upd (s8.2.1 110) (y14).toNatClampNeg (vp_nar .boolean (1 : Int32)))) k
        · have k := k.2 c
          refine Ex.seg hq 3 (j := 57) (L' := [.ref 55, .int y1, pu, .int y3, .long y4, pu, .int y6, .int y7, .int y8, .long y9, pu, .int (y11 + (1 : Int32)), .long y12, pu, .int y14]) (S' := []) (h' := hpS s8) rfl ?_
          refine Ex.fg (L := [.ref 55, .int y1, pu, .int y3, .long y4, pu, .int y6, .int y7, .int y8, .long y9, pu, .int (y11 + (1 : Int32)), .long y12, pu, pu]) ⟨Or.inl rfl, ⟨Or.inl rfl, ⟨Or.inl rfl, ⟨Or.inl rfl, ⟨Or.inl rfl, ⟨Or.inl rfl, ⟨Or.inl rfl, ⟨Or.inl rfl, ⟨Or.inl rfl, ⟨Or.inl rfl, ⟨Or.inl rfl, ⟨Or.inl rfl, ⟨Or.inl rfl, ⟨Or.inl rfl, ⟨Or.inr ⟨rfl, rfl⟩, trivial⟩⟩⟩⟩⟩⟩⟩⟩⟩⟩⟩⟩⟩⟩⟩ ?_
          exact ih y1 y3 y4 y6 y7 y8 y9 (y11 + (1 : Int32)) (.long y12) s8 k hX162 hX120
/-- RowAuditorModel.sample(III)I -/
def w_269 (p1 : Int32) (p2 : Int32) (p3 : Int32) (s : ST) (K : Int32 → ST → Prop) : Prop := w_197 (s.1 5500) s (fun s1 => w_186 p1 (1 : Int32) (50 : Int32) s1 (fun r4 s3 => ((r4 = 0 → K (-1 : Int32) s3) ∧ (¬ (r4 = 0) → w_186 p2 (0 : Int32) (65535 : Int32) s3 (fun r6 s5 => ((r6 = 0 → K (-1 : Int32) s5) ∧ (¬ (r6 = 0) → ((p3 < 0 → K (-1 : Int32) s5) ∧ (¬ (p3 < 0) → ((¬ (s5.1 5520) = 0 → (∃ m, w_269_L25 m p1 p2 p3 (0 : Int64) (0 : Int32) s5 (fun y1 y2 y3 y4 s7 => (∃ m, w_269_L57 m y1 y3 y4 y2 (0 : Int32) (0 : Int32) (0 : Int64) (0 : Int32) pu s7 (fun y3 y4 y7 y8 y9 y12 s11 => ((¬ y3 = 0 → ((¬ y3 = (1 : Int32) → ((¬ y3 = (2 : Int32) → K (-1 : Int32) s11) ∧ (¬ (¬ y3 = (2 : Int32)) → K (((y4 - y9)).toInt32) s11))) ∧ (¬ (¬ y3 = (1 : Int32)) → K y8 s11))) ∧ (¬ (¬ y3 = 0) → K y7 s11))) (fun y4 y9 y12 y14 s12 => (pin y14 150 = true ∧ K ((s12.2.1 72) (y14).toNatClampNeg) s12)) K)) K)) ∧ (¬ (¬ (s5.1 5520) = 0) → K (-1 : Int32) s5)))))))))))
theorem q_269 {d : Nat} {K : Int32 → ST → Prop} (p1 : Int32) (p2 : Int32) (p3 : Int32) (s : ST) (k : w_269 p1 p2 p3 s K) : Rn sc (d + 5) 269 [.ref 55, .int p1, .int p2, .int p3] (hpS s) (kI K) := by
  have hq : prog[269]? = some pm269 := rfl
  refine Rn.of (L := [.ref 55, .int p1, .int p2, .int p3, pu, pu, pu, pu, pu, pu, pu, pu, pu, pu, pu]) hq rfl rfl ?_
  unfold w_269 at k
  refine Ex.seg hq 3 (j := 3) (L' := [.ref 55, .int p1, .int p2, .int p3, pu, pu, pu, pu, pu, pu, pu, pu, pu, pu, pu]) (S' := [.int (s.1 5500), .ref 55]) (h' := hpS s) rfl ?_
  refine Ex.cl hq rfl rfl ?_
  refine Rn.mono (q_197 (d := d + 3) (s.1 5500) s k) ?_
  rintro _ _ ⟨s1, rfl, rfl, k⟩
  show Ex sc (d + 5) 269 4 [.ref 55, .int p1, .int p2, .int p3, pu, pu, pu, pu, pu, pu, pu, pu, pu, pu, pu] [] (hpS s1) _
  refine Ex.seg hq 3 (j := 7) (L' := [.ref 55, .int p1, .int p2, .int p3, pu, pu, pu, pu, pu, pu, pu, pu, pu, pu, pu]) (S' := [.int (50 : Int32), .int (1 : Int32), .int p1]) (h' := hpS s1) rfl ?_
  refine Ex.cl hq rfl rfl ?_
  refine Rn.mono (q_186 (d := d + 4) p1 (1 : Int32) (50 : Int32) s1 k) ?_
  rintro _ _ ⟨r4, s3, rfl, hzr4, rfl, k⟩
  show Ex sc (d + 5) 269 8 [.ref 55, .int p1, .int p2, .int p3, pu, pu, pu, pu, pu, pu, pu, pu, pu, pu, pu] [.int r4] (hpS s3) _
  refine Ex.i1 hq rfl (fun c => ?_) (fun c => ?_)
  · have k := k.1 c
    refine Ex.seg hq 1 (j := 20) (L' := [.ref 55, .int p1, .int p2, .int p3, pu, pu, pu, pu, pu, pu, pu, pu, pu, pu, pu]) (S' := [.int (-1 : Int32)]) (h' := hpS s3) rfl ?_
    exact Ex.rt hq rfl rfl ⟨(-1 : Int32), s3, rfl, rfl, k⟩
  · have k := k.2 c
    refine Ex.seg hq 3 (j := 12) (L' := [.ref 55, .int p1, .int p2, .int p3, pu, pu, pu, pu, pu, pu, pu, pu, pu, pu, pu]) (S' := [.int (65535 : Int32), .int (0 : Int32), .int p2]) (h' := hpS s3) rfl ?_
    refine Ex.cl hq rfl rfl ?_
    refine Rn.mono (q_186 (d := d + 4) p2 (0 : Int32) (65535 : Int32) s3 k) ?_
    rintro _ _ ⟨r6, s5, rfl, hzr6, rfl, k⟩
    show Ex sc (d + 5) 269 13 [.ref 55, .int p1, .int p2, .int p3, pu, pu, pu, pu, pu, pu, pu, pu, pu, pu, pu] [.int r6] (hpS s5) _
    refine Ex.i1 hq rfl (fun c => ?_) (fun c => ?_)
    · have k := k.1 c
      refine Ex.seg hq 1 (j := 20) (L' := [.ref 55, .int p1, .int p2, .int p3, pu, pu, pu, pu, pu, pu, pu, pu, pu, pu, pu]) (S' := [.int (-1 : Int32)]) (h' := hpS s5) rfl ?_
      exact Ex.rt hq rfl rfl ⟨(-1 : Int32), s5, rfl, rfl, k⟩
    · have k := k.2 c
      refine Ex.seg hq 1 (j := 15) (L' := [.ref 55, .int p1, .int p2, .int p3, pu, pu, pu, pu, pu, pu, pu, pu, pu, pu, pu]) (S' := [.int p3]) (h' := hpS s5) rfl ?_
      refine Ex.i1 hq rfl (fun c => ?_) (fun c => ?_)
      · have k := k.1 c
        refine Ex.seg hq 1 (j := 20) (L' := [.ref 55, .int p1, .int p2, .int p3, pu, pu, pu, pu, pu, pu, pu, pu, pu, pu, pu]) (S' := [.int (-1 : Int32)]) (h' := hpS s5) rfl ?_
        exact Ex.rt hq rfl rfl ⟨(-1 : Int32), s5, rfl, rfl, k⟩
      · have k := k.2 c
        refine Ex.seg hq 2 (j := 18) (L' := [.ref 55, .int p1, .int p2, .int p3, pu, pu, pu, pu, pu, pu, pu, pu, pu, pu, pu]) (S' := [.int (s5.1 5520)]) (h' := hpS s5) rfl ?_
        refine Ex.i1 hq rfl (fun c => ?_) (fun c => ?_)
        · have k := k.1 c
          refine Ex.seg hq 4 (j := 25) (L' := [.ref 55, .int p1, .int p2, .int p3, .long (0 : Int64), pu, .int (0 : Int32), pu, pu, pu, pu, pu, pu, pu, pu]) (S' := []) (h' := hpS s5) rfl ?_
          obtain ⟨m, k⟩ := k
          refine q_269_L25 (d := d) m p1 p2 p3 (0 : Int64) (0 : Int32) s5 k ?_
          · intro y1 y2 y3 y4 s7 k
            refine Ex.seg hq 10 (j := 57) (L' := [.ref 55, .int y1, .int y2, .int y3, .long y4, pu, .int y2, .int (0 : Int32), .int (0 : Int32), .long (0 : Int64), pu, .int (0 : Int32), pu, pu, pu]) (S' := []) (h' := hpS s7) rfl ?_
            obtain ⟨m, k⟩ := k
            refine Ex.fg (L := [.ref 55, .int y1, pu, .int y3, .long y4, pu, .int y2, .int (0 : Int32), .int (0 : Int32), .long (0 : Int64), pu, .int (0 : Int32), pu, pu, pu]) ⟨Or.inl rfl, ⟨Or.inl rfl, ⟨Or.inr ⟨rfl, rfl⟩, ⟨Or.inl rfl, ⟨Or.inl rfl, ⟨Or.inl rfl, ⟨Or.inl rfl, ⟨Or.inl rfl, ⟨Or.inl rfl, ⟨Or.inl rfl, ⟨Or.inl rfl, ⟨Or.inl rfl, ⟨Or.inl rfl, ⟨Or.inl rfl, ⟨Or.inl rfl, trivial⟩⟩⟩⟩⟩⟩⟩⟩⟩⟩⟩⟩⟩⟩⟩ ?_
            refine q_269_L57 (d := d) m y1 y3 y4 y2 (0 : Int32) (0 : Int32) (0 : Int64) (0 : Int32) pu s7 k ?_ ?_
            · intro y3 y4 y7 y8 y9 y12 s11 k
              refine Ex.seg hq 1 (j := 163) (L' := [pu, pu, pu, .int y3, .long y4, pu, pu, .int y7, .int y8, .long y9, pu, pu, y12, pu, pu]) (S' := [.int y3]) (h' := hpS s11) rfl ?_
              refine Ex.i1 hq rfl (fun c => ?_) (fun c => ?_)
              · have k := k.1 c
                refine Ex.seg hq 2 (j := 168) (L' := [pu, pu, pu, .int y3, .long y4, pu, pu, .int y7, .int y8, .long y9, pu, pu, y12, pu, pu]) (S' := [.int (1 : Int32), .int y3]) (h' := hpS s11) rfl ?_
                refine Ex.i2 hq rfl (fun c => ?_) (fun c => ?_)
                · have k := k.1 c
                  refine Ex.seg hq 2 (j := 173) (L' := [pu, pu, pu, .int y3, .long y4, pu, pu, .int y7, .int y8, .long y9, pu, pu, y12, pu, pu]) (S' := [.int (2 : Int32), .int y3]) (h' := hpS s11) rfl ?_
                  refine Ex.i2 hq rfl (fun c => ?_) (fun c => ?_)
                  · have k := k.1 c
                    refine Ex.seg hq 1 (j := 180) (L' := [pu, pu, pu, .int y3, .long y4, pu, pu, .int y7, .int y8, .long y9, pu, pu, y12, pu, pu]) (S' := [.int (-1 : Int32)]) (h' := hpS s11) rfl ?_
                    exact Ex.rt hq rfl rfl ⟨(-1 : Int32), s11, rfl, rfl, k⟩
                  · have k := k.2 c
                    refine Ex.seg hq 5 (j := 180) (L' := [pu, pu, pu, .int y3, .long y4, pu, pu, .int y7, .int y8, .long y9, pu, pu, y12, pu, pu]) (S' := [.int (((y4 - y9)).toInt32)]) (h' := hpS s11) rfl ?_
                    exact Ex.rt hq rfl rfl ⟨(((y4 - y9)).toInt32), s11, rfl, rfl, k⟩
                · have k := k.2 c
                  refine Ex.seg hq 2 (j := 180) (L' := [pu, pu, pu, .int y3, .long y4, pu, pu, .int y7, .int y8, .long y9, pu, pu, y12, pu, pu]) (S' := [.int y8]) (h' := hpS s11) rfl ?_
                  exact Ex.rt hq rfl rfl ⟨y8, s11, rfl, rfl, k⟩
              · have k := k.2 c
                refine Ex.seg hq 2 (j := 180) (L' := [pu, pu, pu, .int y3, .long y4, pu, pu, .int y7, .int y8, .long y9, pu, pu, y12, pu, pu]) (S' := [.int y7]) (h' := hpS s11) rfl ?_
                exact Ex.rt hq rfl rfl ⟨y7, s11, rfl, rfl, k⟩
            · intro y4 y9 y12 y14 s12 k
              refine Ex.seg hq 3 (j := 123) (L' := [.ref 55, pu, pu, pu, .long y4, pu, pu, pu, pu, .long y9, pu, pu, .long y12, pu, .int y14]) (S' := [.int y14, .ref 72]) (h' := hpS s12) rfl ?_
              obtain ⟨hin, k⟩ := k
              refine Ex.ial hq rfl rfl hin ?_
              exact Ex.rt hq rfl rfl ⟨((s12.2.1 72) (y14).toNatClampNeg), s12, rfl, rfl, k⟩
        · have k := k.2 c
          refine Ex.seg hq 1 (j := 20) (L' := [.ref 55, .int p1, .int p2, .int p3, pu, pu, pu, pu, pu, pu, pu, pu, pu, pu, pu]) (S' := [.int (-1 : Int32)]) (h' := hpS s5) rfl ?_
          exact Ex.rt hq rfl rfl ⟨(-1 : Int32), s5, rfl, rfl, k⟩
/-- RowAuditorModel.ask(III)I -/
def w_270 (p1 : Int32) (p2 : Int32) (p3 : Int32) (s : ST) (K : Int32 → ST → Prop) : Prop := w_191 p1 s (fun r2 s1 => ((r2 = 0 → K (-1 : Int32) s1) ∧ (¬ (r2 = 0) → w_190 p2 s1 (fun r4 s3 => ((r4 = 0 → K (-1 : Int32) s3) ∧ (¬ (r4 = 0) → w_186 p3 ((s3.1 5500) + (1 : Int32)) (3999 : Int32) s3 (fun r6 s5 => ((r6 = 0 → K (-1 : Int32) s5) ∧ (¬ (r6 = 0) → ((¬ (s5.1 5578) = (60 : Int32) → (pin (s5.1 5578) 60 = true ∧ (pin (s5.1 5578) 60 = true ∧ (pin (s5.1 5578) 60 = true ∧ (pin (s5.1 5578) 60 = true ∧ K (((s5.1 5578) + (1 : Int32)) - (1 : Int32)) (sA (sA (sA (sA (sI s5 5578 ((s5.1 5578) + (1 : Int32))) 111 (upd (s5.2.1 111) ((s5.1 5578)).toNatClampNeg p1)) 112 (upd (s5.2.1 112) ((s5.1 5578)).toNatClampNeg p2)) 113 (upd (s5.2.1 113) ((s5.1 5578)).toNatClampNeg p3)) 114 (upd (s5.2.1 114) ((s5.1 5578)).toNatClampNeg (-1 : Int32)))))))) ∧ (¬ (¬ (s5.1 5578) = (60 : Int32)) → K (-1 : Int32) s5)))))))))))
theorem q_270 {d : Nat} {K : Int32 → ST → Prop} (p1 : Int32) (p2 : Int32) (p3 : Int32) (s : ST) (k : w_270 p1 p2 p3 s K) : Rn sc (d + 1) 270 [.ref 55, .int p1, .int p2, .int p3] (hpS s) (kI K) := by
  have hq : prog[270]? = some pm270 := rfl
  refine Rn.of (L := [.ref 55, .int p1, .int p2, .int p3]) hq rfl rfl ?_
  unfold w_270 at k
  refine Ex.seg hq 1 (j := 1) (L' := [.ref 55, .int p1, .int p2, .int p3]) (S' := [.int p1]) (h' := hpS s) rfl ?_
  refine Ex.cl hq rfl rfl ?_
  refine Rn.mono (q_191 (d := d + 0) p1 s k) ?_
  rintro _ _ ⟨r2, s1, rfl, hzr2, rfl, k⟩
  show Ex sc (d + 1) 270 2 [.ref 55, .int p1, .int p2, .int p3] [.int r2] (hpS s1) _
  refine Ex.i1 hq rfl (fun c => ?_) (fun c => ?_)
  · have k := k.1 c
    refine Ex.seg hq 1 (j := 20) (L' := [.ref 55, .int p1, .int p2, .int p3]) (S' := [.int (-1 : Int32)]) (h' := hpS s1) rfl ?_
    exact Ex.rt hq rfl rfl ⟨(-1 : Int32), s1, rfl, rfl, k⟩
  · have k := k.2 c
    refine Ex.seg hq 2 (j := 5) (L' := [.ref 55, .int p1, .int p2, .int p3]) (S' := [.int p2, .ref 55]) (h' := hpS s1) rfl ?_
    refine Ex.cl hq rfl rfl ?_
    refine Rn.mono (q_190 (d := d + 0) p2 s1 k) ?_
    rintro _ _ ⟨r4, s3, rfl, hzr4, rfl, k⟩
    show Ex sc (d + 1) 270 6 [.ref 55, .int p1, .int p2, .int p3] [.int r4] (hpS s3) _
    refine Ex.i1 hq rfl (fun c => ?_) (fun c => ?_)
    · have k := k.1 c
      refine Ex.seg hq 1 (j := 20) (L' := [.ref 55, .int p1, .int p2, .int p3]) (S' := [.int (-1 : Int32)]) (h' := hpS s3) rfl ?_
      exact Ex.rt hq rfl rfl ⟨(-1 : Int32), s3, rfl, rfl, k⟩
    · have k := k.2 c
      refine Ex.seg hq 6 (j := 13) (L' := [.ref 55, .int p1, .int p2, .int p3]) (S' := [.int (3999 : Int32), .int ((s3.1 5500) + (1 : Int32)), .int p3]) (h' := hpS s3) rfl ?_
      refine Ex.cl hq rfl rfl ?_
      refine Rn.mono (q_186 (d := d + 0) p3 ((s3.1 5500) + (1 : Int32)) (3999 : Int32) s3 k) ?_
      rintro _ _ ⟨r6, s5, rfl, hzr6, rfl, k⟩
      show Ex sc (d + 1) 270 14 [.ref 55, .int p1, .int p2, .int p3] [.int r6] (hpS s5) _
      refine Ex.i1 hq rfl (fun c => ?_) (fun c => ?_)
      · have k := k.1 c
        refine Ex.seg hq 1 (j := 20) (L' := [.ref 55, .int p1, .int p2, .int p3]) (S' := [.int (-1 : Int32)]) (h' := hpS s5) rfl ?_
        exact Ex.rt hq rfl rfl ⟨(-1 : Int32), s5, rfl, rfl, k⟩
      · have k := k.2 c
        refine Ex.seg hq 3 (j := 18) (L' := [.ref 55, .int p1, .int p2, .int p3]) (S' := [.int (60 : Int32), .int (s5.1 5578)]) (h' := hpS s5) rfl ?_
        refine Ex.i2 hq rfl (fun c => ?_) (fun c => ?_)
        · have k := k.1 c
          refine Ex.seg hq 5 (j := 26) (L' := [.ref 55, .int p1, .int p2, .int p3]) (S' := [.int p1, .int (s5.1 5578), .ref 111]) (h' := hpS s5) rfl ?_
          obtain ⟨hin, k⟩ := k
          refine Ex.ias hq rfl rfl hin (h' := hpS (sA s5 111 (upd (s5.2.1 111) ((s5.1 5578)).toNatClampNeg p1))) (hset_111 _ _) ?_
          refine Ex.seg hq 5 (j := 32) (L' := [.ref 55, .int p1, .int p2, .int p3]) (S' := [.int p2, .int (s5.1 5578), .ref 112]) (h' := hpS (sA s5 111 (upd (s5.2.1 111) ((s5.1 5578)).toNatClampNeg p1))) rfl ?_
          obtain ⟨hin, k⟩ := k
          refine Ex.ias hq rfl rfl hin (h' := hpS (sA (sA s5 111 (upd (s5.2.1 111) ((s5.1 5578)).toNatClampNeg p1)) 112 (upd (s5.2.1 112) ((s5.1 5578)).toNatClampNeg p2))) (hset_112 _ _) ?_
          refine Ex.seg hq 5 (j := 38) (L' := [.ref 55, .int p1, .int p2, .int p3]) (S' := [.int p3, .int (s5.1 5578), .ref 113]) (h' := hpS (sA (sA s5 111 (upd (s5.2.1 111) ((s5.1 5578)).toNatClampNeg p1)) 112 (upd (s5.2.1 112) ((s5.1 5578)).toNatClampNeg p2))) rfl ?_
          obtain ⟨hin, k⟩ := k
          refine Ex.ias hq rfl rfl hin (h' := hpS (sA (sA (sA s5 111 (upd (s5.2.1 111) ((s5.1 5578)).toNatClampNeg p1)) 112 (upd (s5.2.1 112) ((s5.1 5578)).toNatClampNeg p2)) 113 (upd (s5.2.1 113) ((s5.1 5578)).toNatClampNeg p3))) (hset_113 _ _) ?_
          refine Ex.seg hq 5 (j := 44) (L' := [.ref 55, .int p1, .int p2, .int p3]) (S' := [.int (-1 : Int32), .int (s5.1 5578), .ref 114]) (h' := hpS (sA (sA (sA s5 111 (upd (s5.2.1 111) ((s5.1 5578)).toNatClampNeg p1)) 112 (upd (s5.2.1 112) ((s5.1 5578)).toNatClampNeg p2)) 113 (upd (s5.2.1 113) ((s5.1 5578)).toNatClampNeg p3))) rfl ?_
          obtain ⟨hin, k⟩ := k
          refine Ex.ias hq rfl rfl hin (h' := hpS (sA (sA (sA (sA s5 111 (upd (s5.2.1 111) ((s5.1 5578)).toNatClampNeg p1)) 112 (upd (s5.2.1 112) ((s5.1 5578)).toNatClampNeg p2)) 113 (upd (s5.2.1 113) ((s5.1 5578)).toNatClampNeg p3)) 114 (upd (s5.2.1 114) ((s5.1 5578)).toNatClampNeg (-1 : Int32)))) (hset_114 _ _) ?_
          refine Ex.seg hq 10 (j := 55) (L' := [.ref 55, .int p1, .int p2, .int p3]) (S' := [.int (((s5.1 5578) + (1 : Int32)) - (1 : Int32))]) (h' := hpS (sA (sA (sA (sA (sI s5 5578 ((s5.1 5578) + (1 : Int32))) 111 (upd (s5.2.1 111) ((s5.1 5578)).toNatClampNeg p1)) 112 (upd (s5.2.1 112) ((s5.1 5578)).toNatClampNeg p2)) 113 (upd (s5.2.1 113) ((s5.1 5578)).toNatClampNeg p3)) 114 (upd (s5.2.1 114) ((s5.1 5578)).toNatClampNeg (-1 : Int32)))) rfl ?_
          exact Ex.rt hq rfl rfl ⟨(((s5.1 5578) + (1 : Int32)) - (1 : Int32)), (sA (sA (sA (sA (sI s5 5578 ((s5.1 5578) + (1 : Int32))) 111 (upd (s5.2.1 111) ((s5.1 5578)).toNatClampNeg p1)) 112 (upd (s5.2.1 112) ((s5.1 5578)).toNatClampNeg p2)) 113 (upd (s5.2.1 113) ((s5.1 5578)).toNatClampNeg p3)) 114 (upd (s5.2.1 114) ((s5.1 5578)).toNatClampNeg (-1 : Int32))), rfl, rfl, k⟩
        · have k := k.2 c
          refine Ex.seg hq 1 (j := 20) (L' := [.ref 55, .int p1, .int p2, .int p3]) (S' := [.int (-1 : Int32)]) (h' := hpS s5) rfl ?_
          exact Ex.rt hq rfl rfl ⟨(-1 : Int32), s5, rfl, rfl, k⟩
/-- RowAuditorModel.isAsking(I)Z -/
def w_271 (p1 : Int32) (s : ST) (K : Int32 → ST → Prop) : Prop := ((p1 < 0 → K (0 : Int32) s) ∧ (¬ (p1 < 0) → (((s.1 5578) ≤ p1 → K (0 : Int32) s) ∧ (¬ ((s.1 5578) ≤ p1) → K (1 : Int32) s))))
theorem q_271 {d : Nat} {K : Int32 → ST → Prop} (p1 : Int32) (s : ST) (k : w_271 p1 s K) : Rn sc (d + 0) 271 [.ref 55, .int p1] (hpS s) (kZ K) := by
  have hq : prog[271]? = some pm271 := rfl
  refine Rn.of (L := [.ref 55, .int p1]) hq rfl rfl ?_
  unfold w_271 at k
  refine Ex.seg hq 1 (j := 1) (L' := [.ref 55, .int p1]) (S' := [.int p1]) (h' := hpS s) rfl ?_
  refine Ex.i1 hq rfl (fun c => ?_) (fun c => ?_)
  · have k := k.1 c
    refine Ex.seg hq 1 (j := 9) (L' := [.ref 55, .int p1]) (S' := [.int (0 : Int32)]) (h' := hpS s) rfl ?_
    exact Ex.zr hq rfl rfl (Or.inl rfl) ⟨(0 : Int32), s, rfl, (Or.inl rfl), rfl, k⟩
  · have k := k.2 c
    refine Ex.seg hq 3 (j := 5) (L' := [.ref 55, .int p1]) (S' := [.int (s.1 5578), .int p1]) (h' := hpS s) rfl ?_
    refine Ex.i2 hq rfl (fun c => ?_) (fun c => ?_)
    · have k := k.1 c
      refine Ex.seg hq 1 (j := 9) (L' := [.ref 55, .int p1]) (S' := [.int (0 : Int32)]) (h' := hpS s) rfl ?_
      exact Ex.zr hq rfl rfl (Or.inl rfl) ⟨(0 : Int32), s, rfl, (Or.inl rfl), rfl, k⟩
    · have k := k.2 c
      refine Ex.seg hq 2 (j := 9) (L' := [.ref 55, .int p1]) (S' := [.int (1 : Int32)]) (h' := hpS s) rfl ?_
      exact Ex.zr hq rfl rfl (Or.inr rfl) ⟨(1 : Int32), s, rfl, (Or.inr rfl), rfl, k⟩
/-- RowAuditorModel.answer(II)Z -/
def w_272 (p1 : Int32) (p2 : Int32) (s : ST) (K : Int32 → ST → Prop) : Prop := w_271 p1 s (fun r2 s1 => ((r2 = 0 → K (0 : Int32) s1) ∧ (¬ (r2 = 0) → w_186 p2 (0 : Int32) (1000000 : Int32) s1 (fun r4 s3 => ((r4 = 0 → K (0 : Int32) s3) ∧ (¬ (r4 = 0) → (pin p1 60 = true ∧ ((((s3.2.1 114) (p1).toNatClampNeg) = (-1 : Int32) → (pin p1 60 = true ∧ K (1 : Int32) (sA s3 114 (upd (s3.2.1 114) (p1).toNatClampNeg p2)))) ∧ (¬ (((s3.2.1 114) (p1).toNatClampNeg) = (-1 : Int32)) → K (0 : Int32) s3)))))))))
theorem q_272 {d : Nat} {K : Int32 → ST → Prop} (p1 : Int32) (p2 : Int32) (s : ST) (k : w_272 p1 p2 s K) : Rn sc (d + 1) 272 [.ref 55, .int p1, .int p2] (hpS s) (kZ K) := by
  have hq : prog[272]? = some pm272 := rfl
  refine Rn.of (L := [.ref 55, .int p1, .int p2]) hq rfl rfl ?_
  unfold w_272 at k
  refine Ex.seg hq 2 (j := 2) (L' := [.ref 55, .int p1, .int p2]) (S' := [.int p1, .ref 55]) (h' := hpS s) rfl ?_
  refine Ex.cl hq rfl rfl ?_
  refine Rn.mono (q_271 (d := d + 0) p1 s k) ?_
  rintro _ _ ⟨r2, s1, rfl, hzr2, rfl, k⟩
  show Ex sc (d + 1) 272 3 [.ref 55, .int p1, .int p2] [.int r2] (hpS s1) _
  refine Ex.i1 hq rfl (fun c => ?_) (fun c => ?_)
  · have k := k.1 c
    refine Ex.seg hq 1 (j := 16) (L' := [.ref 55, .int p1, .int p2]) (S' := [.int (0 : Int32)]) (h' := hpS s1) rfl ?_
    exact Ex.zr hq rfl rfl (Or.inl rfl) ⟨(0 : Int32), s1, rfl, (Or.inl rfl), rfl, k⟩
  · have k := k.2 c
    refine Ex.seg hq 3 (j := 7) (L' := [.ref 55, .int p1, .int p2]) (S' := [.int (1000000 : Int32), .int (0 : Int32), .int p2]) (h' := hpS s1) rfl ?_
    refine Ex.cl hq rfl rfl ?_
    refine Rn.mono (q_186 (d := d + 0) p2 (0 : Int32) (1000000 : Int32) s1 k) ?_
    rintro _ _ ⟨r4, s3, rfl, hzr4, rfl, k⟩
    show Ex sc (d + 1) 272 8 [.ref 55, .int p1, .int p2] [.int r4] (hpS s3) _
    refine Ex.i1 hq rfl (fun c => ?_) (fun c => ?_)
    · have k := k.1 c
      refine Ex.seg hq 1 (j := 16) (L' := [.ref 55, .int p1, .int p2]) (S' := [.int (0 : Int32)]) (h' := hpS s3) rfl ?_
      exact Ex.zr hq rfl rfl (Or.inl rfl) ⟨(0 : Int32), s3, rfl, (Or.inl rfl), rfl, k⟩
    · have k := k.2 c
      refine Ex.seg hq 3 (j := 12) (L' := [.ref 55, .int p1, .int p2]) (S' := [.int p1, .ref 114]) (h' := hpS s3) rfl ?_
      obtain ⟨hin, k⟩ := k
      refine Ex.ial hq rfl rfl hin ?_
      refine Ex.seg hq 1 (j := 14) (L' := [.ref 55, .int p1, .int p2]) (S' := [.int (-1 : Int32), .int ((s3.2.1 114) (p1).toNatClampNeg)]) (h' := hpS s3) rfl ?_
      refine Ex.i2 hq rfl (fun c => ?_) (fun c => ?_)
      · have k := k.1 c
        refine Ex.seg hq 4 (j := 21) (L' := [.ref 55, .int p1, .int p2]) (S' := [.int p2, .int p1, .ref 114]) (h' := hpS s3) rfl ?_
        obtain ⟨hin, k⟩ := k
        refine Ex.ias hq rfl rfl hin (h' := hpS (sA s3 114 (upd (s3.2.1 114) (p1).toNatClampNeg p2))) (hset_114 _ _) ?_
        refine Ex.seg hq 1 (j := 23) (L' := [.ref 55, .int p1, .int p2]) (S' := [.int (1 : Int32)]) (h' := hpS (sA s3 114 (upd (s3.2.1 114) (p1).toNatClampNeg p2))) rfl ?_
        exact Ex.zr hq rfl rfl (Or.inr rfl) ⟨(1 : Int32), (sA s3 114 (upd (s3.2.1 114) (p1).toNatClampNeg p2)), rfl, (Or.inr rfl), rfl, k⟩
      · have k := k.2 c
        refine Ex.seg hq 1 (j := 16) (L' := [.ref 55, .int p1, .int p2]) (S' := [.int (0 : Int32)]) (h' := hpS s3) rfl ?_
        exact Ex.zr hq rfl rfl (Or.inl rfl) ⟨(0 : Int32), s3, rfl, (Or.inl rfl), rfl, k⟩
/-- RowAuditorModel.asked(I)I -/
def w_273 (p1 : Int32) (s : ST) (K : Int32 → ST → Prop) : Prop := w_271 p1 s (fun r2 s1 => ((¬ r2 = 0 → (pin p1 60 = true ∧ ((¬ ((s1.2.1 114) (p1).toNatClampNeg) = (-1 : Int32) → (pin p1 60 = true ∧ w_194 ((s1.2.1 112) (p1).toNatClampNeg) (s1.1 5500) s1 (fun r4 s3 => ((r4 = 0 → K (2 : Int32) s3) ∧ (¬ (r4 = 0) → (pin p1 60 = true ∧ ((r4 = ((s3.2.1 114) (p1).toNatClampNeg) → K (3 : Int32) s3) ∧ (¬ (r4 = ((s3.2.1 114) (p1).toNatClampNeg)) → K (2 : Int32) s3)))))))) ∧ (¬ (¬ ((s1.2.1 114) (p1).toNatClampNeg) = (-1 : Int32)) → (pin p1 60 = true ∧ (((s1.1 5500) ≤ ((s1.2.1 113) (p1).toNatClampNeg) → K (0 : Int32) s1) ∧ (¬ ((s1.1 5500) ≤ ((s1.2.1 113) (p1).toNatClampNeg)) → K (1 : Int32) s1))))))) ∧ (¬ (¬ r2 = 0) → K (-1 : Int32) s1)))
theorem q_273 {d : Nat} {K : Int32 → ST → Prop} (p1 : Int32) (s : ST) (k : w_273 p1 s K) : Rn sc (d + 1) 273 [.ref 55, .int p1] (hpS s) (kI K) := by
  have hq : prog[273]? = some pm273 := rfl
  refine Rn.of (L := [.ref 55, .int p1, pu]) hq rfl rfl ?_
  unfold w_273 at k
  refine Ex.seg hq 2 (j := 2) (L' := [.ref 55, .int p1, pu]) (S' := [.int p1, .ref 55]) (h' := hpS s) rfl ?_
  refine Ex.cl hq rfl rfl ?_
  refine Rn.mono (q_271 (d := d + 0) p1 s k) ?_
  rintro _ _ ⟨r2, s1, rfl, hzr2, rfl, k⟩
  show Ex sc (d + 1) 273 3 [.ref 55, .int p1, pu] [.int r2] (hpS s1) _
  refine Ex.i1 hq rfl (fun c => ?_) (fun c => ?_)
  · have k := k.1 c
    refine Ex.seg hq 3 (j := 9) (L' := [.ref 55, .int p1, pu]) (S' := [.int p1, .ref 114]) (h' := hpS s1) rfl ?_
    obtain ⟨hin, k⟩ := k
    refine Ex.ial hq rfl rfl hin ?_
    refine Ex.seg hq 1 (j := 11) (L' := [.ref 55, .int p1, pu]) (S' := [.int (-1 : Int32), .int ((s1.2.1 114) (p1).toNatClampNeg)]) (h' := hpS s1) rfl ?_
    refine Ex.i2 hq rfl (fun c => ?_) (fun c => ?_)
    · have k := k.1 c
      refine Ex.seg hq 4 (j := 27) (L' := [.ref 55, .int p1, pu]) (S' := [.int p1, .ref 112, .ref 55]) (h' := hpS s1) rfl ?_
      obtain ⟨hin, k⟩ := k
      refine Ex.ial hq rfl rfl hin ?_
      refine Ex.seg hq 2 (j := 30) (L' := [.ref 55, .int p1, pu]) (S' := [.int (s1.1 5500), .int ((s1.2.1 112) (p1).toNatClampNeg), .ref 55]) (h' := hpS s1) rfl ?_
      refine Ex.cl hq rfl rfl ?_
      refine Rn.mono (q_194 (d := d + 0) ((s1.2.1 112) (p1).toNatClampNeg) (s1.1 5500) s1 k) ?_
      rintro _ _ ⟨r4, s3, rfl, rfl, k⟩
      show Ex sc (d + 1) 273 31 [.ref 55, .int p1, pu] [.int r4] (hpS s3) _
      refine Ex.seg hq 2 (j := 33) (L' := [.ref 55, .int p1, .int r4]) (S' := [.int r4]) (h' := hpS s3) rfl ?_
      refine Ex.i1 hq rfl (fun c => ?_) (fun c => ?_)
      · have k := k.1 c
        refine Ex.seg hq 2 (j := 43) (L' := [.ref 55, .int p1, .int r4]) (S' := [.int (2 : Int32)]) (h' := hpS s3) rfl ?_
        exact Ex.rt hq rfl rfl ⟨(2 : Int32), s3, rfl, rfl, k⟩
      · have k := k.2 c
        refine Ex.seg hq 4 (j := 38) (L' := [.ref 55, .int p1, .int r4]) (S' := [.int p1, .ref 114, .int r4]) (h' := hpS s3) rfl ?_
        obtain ⟨hin, k⟩ := k
        refine Ex.ial hq rfl rfl hin ?_
        refine Ex.i2 hq rfl (fun c => ?_) (fun c => ?_)
        · have k := k.1 c
          refine Ex.seg hq 1 (j := 43) (L' := [.ref 55, .int p1, .int r4]) (S' := [.int (3 : Int32)]) (h' := hpS s3) rfl ?_
          exact Ex.rt hq rfl rfl ⟨(3 : Int32), s3, rfl, rfl, k⟩
        · have k := k.2 c
          refine Ex.seg hq 2 (j := 43) (L' := [.ref 55, .int p1, .int r4]) (S' := [.int (2 : Int32)]) (h' := hpS s3) rfl ?_
          exact Ex.rt hq rfl rfl ⟨(2 : Int32), s3, rfl, rfl, k⟩
    · have k := k.2 c
      refine Ex.seg hq 3 (j := 15) (L' := [.ref 55, .int p1, pu]) (S' := [.int p1, .ref 113]) (h' := hpS s1) rfl ?_
      obtain ⟨hin, k⟩ := k
      refine Ex.ial hq rfl rfl hin ?_
      refine Ex.seg hq 2 (j := 18) (L' := [.ref 55, .int p1, pu]) (S' := [.int (s1.1 5500), .int ((s1.2.1 113) (p1).toNatClampNeg)]) (h' := hpS s1) rfl ?_
      refine Ex.i2 hq rfl (fun c => ?_) (fun c => ?_)
      · have k := k.1 c
        refine Ex.seg hq 1 (j := 22) (L' := [.ref 55, .int p1, pu]) (S' := [.int (0 : Int32)]) (h' := hpS s1) rfl ?_
        exact Ex.rt hq rfl rfl ⟨(0 : Int32), s1, rfl, rfl, k⟩
      · have k := k.2 c
        refine Ex.seg hq 2 (j := 22) (L' := [.ref 55, .int p1, pu]) (S' := [.int (1 : Int32)]) (h' := hpS s1) rfl ?_
        exact Ex.rt hq rfl rfl ⟨(1 : Int32), s1, rfl, rfl, k⟩
  · have k := k.2 c
    refine Ex.seg hq 1 (j := 5) (L' := [.ref 55, .int p1, pu]) (S' := [.int (-1 : Int32)]) (h' := hpS s1) rfl ?_
    exact Ex.rt hq rfl rfl ⟨(-1 : Int32), s1, rfl, rfl, k⟩
/-- RowAuditorModel.putIn(I)Z -/
def w_274 (p1 : Int32) (s : ST) (K : Int32 → ST → Prop) : Prop := w_190 p1 s (fun r2 s1 => ((r2 = 0 → K (0 : Int32) s1) ∧ (¬ (r2 = 0) → (pin p1 150 = true ∧ ((((s1.2.1 68) (p1).toNatClampNeg) = 0 → (pin p1 150 = true ∧ K (1 : Int32) (sA s1 68 (upd (s1.2.1 68) (p1).toNatClampNeg (vp_nar .boolean (1 : Int32)))))) ∧ (¬ (((s1.2.1 68) (p1).toNatClampNeg) = 0) → K (0 : Int32) s1))))))
theorem q_274 {d : Nat} {K : Int32 → ST → Prop} (p1 : Int32) (s : ST) (k : w_274 p1 s K) : Rn sc (d + 1) 274 [.ref 55, .int p1] (hpS s) (kZ K) := by
  have hq : prog[274]? = some pm274 := rfl
  refine Rn.of (L := [.ref 55, .int p1]) hq rfl rfl ?_
  unfold w_274 at k
  refine Ex.seg hq 2 (j := 2) (L' := [.ref 55, .int p1]) (S' := [.int p1, .ref 55]) (h' := hpS s) rfl ?_
  refine Ex.cl hq rfl rfl ?_
  refine Rn.mono (q_190 (d := d + 0) p1 s k) ?_
  rintro _ _ ⟨r2, s1, rfl, hzr2, rfl, k⟩
  show Ex sc (d + 1) 274 3 [.ref 55, .int p1] [.int r2] (hpS s1) _
  refine Ex.i1 hq rfl (fun c => ?_) (fun c => ?_)
  · have k := k.1 c
    refine Ex.seg hq 1 (j := 10) (L' := [.ref 55, .int p1]) (S' := [.int (0 : Int32)]) (h' := hpS s1) rfl ?_
    exact Ex.zr hq rfl rfl (Or.inl rfl) ⟨(0 : Int32), s1, rfl, (Or.inl rfl), rfl, k⟩
  · have k := k.2 c
    refine Ex.seg hq 3 (j := 7) (L' := [.ref 55, .int p1]) (S' := [.int p1, .ref 68]) (h' := hpS s1) rfl ?_
    obtain ⟨hin, k⟩ := k
    refine Ex.zal hq rfl rfl hin ?_
    refine Ex.i1 hq rfl (fun c => ?_) (fun c => ?_)
    · have k := k.1 c
      refine Ex.seg hq 4 (j := 15) (L' := [.ref 55, .int p1]) (S' := [.int (1 : Int32), .int p1, .ref 68]) (h' := hpS s1) rfl ?_
      obtain ⟨hin, k⟩ := k
      refine Ex.zas hq rfl rfl hin (h' := hpS (sA s1 68 (upd (s1.2.1 68) (p1).toNatClampNeg (vp_nar .boolean (1 : Int32))))) (hset_68 _ _) ?_
      refine Ex.seg hq 1 (j := 17) (L' := [.ref 55, .int p1]) (S' := [.int (1 : Int32)]) (h' := hpS (sA s1 68 (upd (s1.2.1 68) (p1).toNatClampNeg (vp_nar .boolean (1 : Int32))))) rfl ?_
      exact Ex.zr hq rfl rfl (Or.inr rfl) ⟨(1 : Int32), (sA s1 68 (upd (s1.2.1 68) (p1).toNatClampNeg (vp_nar .boolean (1 : Int32)))), rfl, (Or.inr rfl), rfl, k⟩
    · have k := k.2 c
      refine Ex.seg hq 1 (j := 10) (L' := [.ref 55, .int p1]) (S' := [.int (0 : Int32)]) (h' := hpS s1) rfl ?_
      exact Ex.zr hq rfl rfl (Or.inl rfl) ⟨(0 : Int32), s1, rfl, (Or.inl rfl), rfl, k⟩
def w_275_L15 : Nat → Int32 → Int32 → Int32 → ST → (Int32 → ST → Prop) → (Int32 → ST → Prop) → Prop
  | 0, _, _, _, _, _, _ => False
  | n + 1, x1, x2, x3, s, X46, K => (((s.1 5520) ≤ x3 → X46 x2 s) ∧ (¬ ((s.1 5520) ≤ x3) → (pin x3 150 = true ∧ (pin ((s.2.1 72) (x3).toNatClampNeg) 150 = true ∧ ((((s.2.1 68) (((s.2.1 72) (x3).toNatClampNeg)).toNatClampNeg) = 0 → w_275_L15 n x1 (x2 + (0 : Int32)) (x3 + (1 : Int32)) s X46 K) ∧ (¬ (((s.2.1 68) (((s.2.1 72) (x3).toNatClampNeg)).toNatClampNeg) = 0) → ((x1 = 0 → w_275_L15 n x1 (x2 + (1 : Int32)) (x3 + (1 : Int32)) s X46 K) ∧ (¬ (x1 = 0) → (pin x3 150 = true ∧ w_239 ((s.2.1 72) (x3).toNatClampNeg) (s.1 5500) s (fun r6 s5 => ((r6 = 0 → w_275_L15 n x1 (x2 + (0 : Int32)) (x3 + (1 : Int32)) s5 X46 K) ∧ (¬ (r6 = 0) → w_275_L15 n x1 (x2 + (1 : Int32)) (x3 + (1 : Int32)) s5 X46 K))))))))))))
theorem q_275_L15 {d : Nat} {X46 : Int32 → ST → Prop} {K : Int32 → ST → Prop} : ∀ (n : Nat) (x1 : Int32) (x2 : Int32) (x3 : Int32) (s : ST), w_275_L15 n x1 x2 x3 s X46 K → (∀ (y2 : Int32) (s : ST), X46 y2 s → Ex sc (d + 5) 275 46 [pu, pu, .int y2, pu] [] (hpS s) (kI K)) → Ex sc (d + 5) 275 15 [.ref 55, .int x1, .int x2, .int x3] [] (hpS s) (kI K) := by
  have hq : prog[275]? = some pm275 := rfl
  intro n
  induction n with
  | zero =>
    intro x1 x2 x3 s k
    exact k.elim
  | succ n ih =>
    intro x1 x2 x3 s k hX46
    rw [w_275_L15] at k
    refine Ex.seg hq 3 (j := 18) (L' := [.ref 55, .int x1, .int x2, .int x3]) (S' := [.int (s.1 5520), .int x3]) (h' := hpS s) rfl ?_
    refine Ex.i2 hq rfl (fun c => ?_) (fun c => ?_)
    · have k := k.1 c
      refine Ex.fg (L := [pu, pu, .int x2, pu]) ⟨Or.inr ⟨rfl, rfl⟩, ⟨Or.inr ⟨rfl, rfl⟩, ⟨Or.inl rfl, ⟨Or.inr ⟨rfl, rfl⟩, trivial⟩⟩⟩⟩ ?_
      exact hX46 x2 s k
    · have k := k.2 c
      refine Ex.seg hq 6 (j := 25) (L' := [.ref 55, .int x1, .int x2, .int x3]) (S' := [.int x3, .ref 72, .ref 68, .int x2]) (h' := hpS s) rfl ?_
      obtain ⟨hin, k⟩ := k
      refine Ex.ial hq rfl rfl hin ?_
      obtain ⟨hin, k⟩ := k
      refine Ex.zal hq rfl rfl hin ?_
      refine Ex.i1 hq rfl (fun c => ?_) (fun c => ?_)
      · have k := k.1 c
        refine Ex.seg hq 5 (j := 15) (L' := [.ref 55, .int x1, .int (x2 + (0 : Int32)), .int (x3 + (1 : Int32))]) (S' := []) (h' := hpS s) rfl ?_
        exact ih x1 (x2 + (0 : Int32)) (x3 + (1 : Int32)) s k hX46
      · have k := k.2 c
        refine Ex.seg hq 1 (j := 29) (L' := [.ref 55, .int x1, .int x2, .int x3]) (S' := [.int x1, .int x2]) (h' := hpS s) rfl ?_
        refine Ex.i1 hq rfl (fun c => ?_) (fun c => ?_)
        · have k := k.1 c
          refine Ex.seg hq 6 (j := 15) (L' := [.ref 55, .int x1, .int (x2 + (1 : Int32)), .int (x3 + (1 : Int32))]) (S' := []) (h' := hpS s) rfl ?_
          exact ih x1 (x2 + (1 : Int32)) (x3 + (1 : Int32)) s k hX46
        · have k := k.2 c
          refine Ex.seg hq 4 (j := 34) (L' := [.ref 55, .int x1, .int x2, .int x3]) (S' := [.int x3, .ref 72, .ref 55, .int x2]) (h' := hpS s) rfl ?_
          obtain ⟨hin, k⟩ := k
          refine Ex.ial hq rfl rfl hin ?_
          refine Ex.seg hq 2 (j := 37) (L' := [.ref 55, .int x1, .int x2, .int x3]) (S' := [.int (s.1 5500), .int ((s.2.1 72) (x3).toNatClampNeg), .ref 55, .int x2]) (h' := hpS s) rfl ?_
          refine Ex.cl hq rfl rfl ?_
          refine Rn.mono (q_239 (d := d + 0) ((s.2.1 72) (x3).toNatClampNeg) (s.1 5500) s k) ?_
          rintro _ _ ⟨r6, s5, rfl, hzr6, rfl, k⟩
          show Ex sc (d + 5) 275 38 [.ref 55, .int x1, .int x2, .int x3] [.int r6, .int x2] (hpS s5) _
          refine Ex.i1 hq rfl (fun c => ?_) (fun c => ?_)
          · have k := k.1 c
            refine Ex.seg hq 5 (j := 15) (L' := [.ref 55, .int x1, .int (x2 + (0 : Int32)), .int (x3 + (1 : Int32))]) (S' := []) (h' := hpS s5) rfl ?_
            exact ih x1 (x2 + (0 : Int32)) (x3 + (1 : Int32)) s5 k hX46
          · have k := k.2 c
            refine Ex.seg hq 6 (j := 15) (L' := [.ref 55, .int x1, .int (x2 + (1 : Int32)), .int (x3 + (1 : Int32))]) (S' := []) (h' := hpS s5) rfl ?_
            exact ih x1 (x2 + (1 : Int32)) (x3 + (1 : Int32)) s5 k hX46
/-- RowAuditorModel.found(I)I -/
def w_275 (p1 : Int32) (s : ST) (K : Int32 → ST → Prop) : Prop := w_186 p1 (0 : Int32) (1 : Int32) s (fun r2 s1 => ((¬ r2 = 0 → w_197 (s1.1 5500) s1 (fun s3 => (∃ m, w_275_L15 m p1 (0 : Int32) (0 : Int32) s3 (fun y2 s7 => K y2 s7) K))) ∧ (¬ (¬ r2 = 0) → K (-1 : Int32) s1)))
theorem q_275 {d : Nat} {K : Int32 → ST → Prop} (p1 : Int32) (s : ST) (k : w_275 p1 s K) : Rn sc (d + 5) 275 [.ref 55, .int p1] (hpS s) (kI K) := by
  have hq : prog[275]? = some pm275 := rfl
  refine Rn.of (L := [.ref 55, .int p1, pu, pu]) hq rfl rfl ?_
  unfold w_275 at k
  refine Ex.seg hq 3 (j := 3) (L' := [.ref 55, .int p1, pu, pu]) (S' := [.int (1 : Int32), .int (0 : Int32), .int p1]) (h' := hpS s) rfl ?_
  refine Ex.cl hq rfl rfl ?_
  refine Rn.mono (q_186 (d := d + 4) p1 (0 : Int32) (1 : Int32) s k) ?_
  rintro _ _ ⟨r2, s1, rfl, hzr2, rfl, k⟩
  show Ex sc (d + 5) 275 4 [.ref 55, .int p1, pu, pu] [.int r2] (hpS s1) _
  refine Ex.i1 hq rfl (fun c => ?_) (fun c => ?_)
  · have k := k.1 c
    refine Ex.seg hq 3 (j := 10) (L' := [.ref 55, .int p1, pu, pu]) (S' := [.int (s1.1 5500), .ref 55]) (h' := hpS s1) rfl ?_
    refine Ex.cl hq rfl rfl ?_
    refine Rn.mono (q_197 (d := d + 3) (s1.1 5500) s1 k) ?_
    rintro _ _ ⟨s3, rfl, rfl, k⟩
    show Ex sc (d + 5) 275 11 [.ref 55, .int p1, pu, pu] [] (hpS s3) _
    refine Ex.seg hq 4 (j := 15) (L' := [.ref 55, .int p1, .int (0 : Int32), .int (0 : Int32)]) (S' := []) (h' := hpS s3) rfl ?_
    obtain ⟨m, k⟩ := k
    refine q_275_L15 (d := d) m p1 (0 : Int32) (0 : Int32) s3 k ?_
    · intro y2 s7 k
      refine Ex.seg hq 1 (j := 47) (L' := [pu, pu, .int y2, pu]) (S' := [.int y2]) (h' := hpS s7) rfl ?_
      exact Ex.rt hq rfl rfl ⟨y2, s7, rfl, rfl, k⟩
  · have k := k.2 c
    refine Ex.seg hq 1 (j := 6) (L' := [.ref 55, .int p1, pu, pu]) (S' := [.int (-1 : Int32)]) (h' := hpS s1) rfl ?_
    exact Ex.rt hq rfl rfl ⟨(-1 : Int32), s1, rfl, rfl, k⟩
/-- RowAuditorModel.reading(III)I -/
def w_276 (p1 : Int32) (p2 : Int32) (p3 : Int32) (s : ST) (K : Int32 → ST → Prop) : Prop := w_186 p1 (1 : Int32) (1000 : Int32) s (fun r2 s1 => ((r2 = 0 → K (-1 : Int32) s1) ∧ (¬ (r2 = 0) → w_186 p2 (0 : Int32) (100000 : Int32) s1 (fun r4 s3 => ((r4 = 0 → K (-1 : Int32) s3) ∧ (¬ (r4 = 0) → w_186 p3 (-1 : Int32) ((s3.1 5579) - (1 : Int32)) s3 (fun r6 s5 => ((r6 = 0 → K (-1 : Int32) s5) ∧ (¬ (r6 = 0) → ((¬ (s5.1 5579) = (9 : Int32) → (pin (s5.1 5579) 9 = true ∧ (pin (s5.1 5579) 9 = true ∧ (pin (s5.1 5579) 9 = true ∧ K (((s5.1 5579) + (1 : Int32)) - (1 : Int32)) (sA (sA (sA (sI s5 5579 ((s5.1 5579) + (1 : Int32))) 115 (upd (s5.2.1 115) ((s5.1 5579)).toNatClampNeg p1)) 116 (upd (s5.2.1 116) ((s5.1 5579)).toNatClampNeg p2)) 117 (upd (s5.2.1 117) ((s5.1 5579)).toNatClampNeg p3)))))) ∧ (¬ (¬ (s5.1 5579) = (9 : Int32)) → K (-1 : Int32) s5)))))))))))
theorem q_276 {d : Nat} {K : Int32 → ST → Prop} (p1 : Int32) (p2 : Int32) (p3 : Int32) (s : ST) (k : w_276 p1 p2 p3 s K) : Rn sc (d + 1) 276 [.ref 55, .int p1, .int p2, .int p3] (hpS s) (kI K) := by
  have hq : prog[276]? = some pm276 := rfl
  refine Rn.of (L := [.ref 55, .int p1, .int p2, .int p3]) hq rfl rfl ?_
  unfold w_276 at k
  refine Ex.seg hq 3 (j := 3) (L' := [.ref 55, .int p1, .int p2, .int p3]) (S' := [.int (1000 : Int32), .int (1 : Int32), .int p1]) (h' := hpS s) rfl ?_
  refine Ex.cl hq rfl rfl ?_
  refine Rn.mono (q_186 (d := d + 0) p1 (1 : Int32) (1000 : Int32) s k) ?_
  rintro _ _ ⟨r2, s1, rfl, hzr2, rfl, k⟩
  show Ex sc (d + 1) 276 4 [.ref 55, .int p1, .int p2, .int p3] [.int r2] (hpS s1) _
  refine Ex.i1 hq rfl (fun c => ?_) (fun c => ?_)
  · have k := k.1 c
    refine Ex.seg hq 1 (j := 23) (L' := [.ref 55, .int p1, .int p2, .int p3]) (S' := [.int (-1 : Int32)]) (h' := hpS s1) rfl ?_
    exact Ex.rt hq rfl rfl ⟨(-1 : Int32), s1, rfl, rfl, k⟩
  · have k := k.2 c
    refine Ex.seg hq 3 (j := 8) (L' := [.ref 55, .int p1, .int p2, .int p3]) (S' := [.int (100000 : Int32), .int (0 : Int32), .int p2]) (h' := hpS s1) rfl ?_
    refine Ex.cl hq rfl rfl ?_
    refine Rn.mono (q_186 (d := d + 0) p2 (0 : Int32) (100000 : Int32) s1 k) ?_
    rintro _ _ ⟨r4, s3, rfl, hzr4, rfl, k⟩
    show Ex sc (d + 1) 276 9 [.ref 55, .int p1, .int p2, .int p3] [.int r4] (hpS s3) _
    refine Ex.i1 hq rfl (fun c => ?_) (fun c => ?_)
    · have k := k.1 c
      refine Ex.seg hq 1 (j := 23) (L' := [.ref 55, .int p1, .int p2, .int p3]) (S' := [.int (-1 : Int32)]) (h' := hpS s3) rfl ?_
      exact Ex.rt hq rfl rfl ⟨(-1 : Int32), s3, rfl, rfl, k⟩
    · have k := k.2 c
      refine Ex.seg hq 6 (j := 16) (L' := [.ref 55, .int p1, .int p2, .int p3]) (S' := [.int ((s3.1 5579) - (1 : Int32)), .int (-1 : Int32), .int p3]) (h' := hpS s3) rfl ?_
      refine Ex.cl hq rfl rfl ?_
      refine Rn.mono (q_186 (d := d + 0) p3 (-1 : Int32) ((s3.1 5579) - (1 : Int32)) s3 k) ?_
      rintro _ _ ⟨r6, s5, rfl, hzr6, rfl, k⟩
      show Ex sc (d + 1) 276 17 [.ref 55, .int p1, .int p2, .int p3] [.int r6] (hpS s5) _
      refine Ex.i1 hq rfl (fun c => ?_) (fun c => ?_)
      · have k := k.1 c
        refine Ex.seg hq 1 (j := 23) (L' := [.ref 55, .int p1, .int p2, .int p3]) (S' := [.int (-1 : Int32)]) (h' := hpS s5) rfl ?_
        exact Ex.rt hq rfl rfl ⟨(-1 : Int32), s5, rfl, rfl, k⟩
      · have k := k.2 c
        refine Ex.seg hq 3 (j := 21) (L' := [.ref 55, .int p1, .int p2, .int p3]) (S' := [.int (9 : Int32), .int (s5.1 5579)]) (h' := hpS s5) rfl ?_
        refine Ex.i2 hq rfl (fun c => ?_) (fun c => ?_)
        · have k := k.1 c
          refine Ex.seg hq 5 (j := 29) (L' := [.ref 55, .int p1, .int p2, .int p3]) (S' := [.int p1, .int (s5.1 5579), .ref 115]) (h' := hpS s5) rfl ?_
          obtain ⟨hin, k⟩ := k
          refine Ex.ias hq rfl rfl hin (h' := hpS (sA s5 115 (upd (s5.2.1 115) ((s5.1 5579)).toNatClampNeg p1))) (hset_115 _ _) ?_
          refine Ex.seg hq 5 (j := 35) (L' := [.ref 55, .int p1, .int p2, .int p3]) (S' := [.int p2, .int (s5.1 5579), .ref 116]) (h' := hpS (sA s5 115 (upd (s5.2.1 115) ((s5.1 5579)).toNatClampNeg p1))) rfl ?_
          obtain ⟨hin, k⟩ := k
          refine Ex.ias hq rfl rfl hin (h' := hpS (sA (sA s5 115 (upd (s5.2.1 115) ((s5.1 5579)).toNatClampNeg p1)) 116 (upd (s5.2.1 116) ((s5.1 5579)).toNatClampNeg p2))) (hset_116 _ _) ?_
          refine Ex.seg hq 5 (j := 41) (L' := [.ref 55, .int p1, .int p2, .int p3]) (S' := [.int p3, .int (s5.1 5579), .ref 117]) (h' := hpS (sA (sA s5 115 (upd (s5.2.1 115) ((s5.1 5579)).toNatClampNeg p1)) 116 (upd (s5.2.1 116) ((s5.1 5579)).toNatClampNeg p2))) rfl ?_
          obtain ⟨hin, k⟩ := k
          refine Ex.ias hq rfl rfl hin (h' := hpS (sA (sA (sA s5 115 (upd (s5.2.1 115) ((s5.1 5579)).toNatClampNeg p1)) 116 (upd (s5.2.1 116) ((s5.1 5579)).toNatClampNeg p2)) 117 (upd (s5.2.1 117) ((s5.1 5579)).toNatClampNeg p3))) (hset_117 _ _) ?_
          refine Ex.seg hq 10 (j := 52) (L' := [.ref 55, .int p1, .int p2, .int p3]) (S' := [.int (((s5.1 5579) + (1 : Int32)) - (1 : Int32))]) (h' := hpS (sA (sA (sA (sI s5 5579 ((s5.1 5579) + (1 : Int32))) 115 (upd (s5.2.1 115) ((s5.1 5579)).toNatClampNeg p1)) 116 (upd (s5.2.1 116) ((s5.1 5579)).toNatClampNeg p2)) 117 (upd (s5.2.1 117) ((s5.1 5579)).toNatClampNeg p3))) rfl ?_
          exact Ex.rt hq rfl rfl ⟨(((s5.1 5579) + (1 : Int32)) - (1 : Int32)), (sA (sA (sA (sI s5 5579 ((s5.1 5579) + (1 : Int32))) 115 (upd (s5.2.1 115) ((s5.1 5579)).toNatClampNeg p1)) 116 (upd (s5.2.1 116) ((s5.1 5579)).toNatClampNeg p2)) 117 (upd (s5.2.1 117) ((s5.1 5579)).toNatClampNeg p3)), rfl, rfl, k⟩
        · have k := k.2 c
          refine Ex.seg hq 1 (j := 23) (L' := [.ref 55, .int p1, .int p2, .int p3]) (S' := [.int (-1 : Int32)]) (h' := hpS s5) rfl ?_
          exact Ex.rt hq rfl rfl ⟨(-1 : Int32), s5, rfl, rfl, k⟩
end WP
