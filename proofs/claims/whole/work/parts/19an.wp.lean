/-! ===== weakest preconditions, printed by wip/whole/genwp.py ===== -/
section WP
variable {sc : Nat × (Nat → Int32)}
def w_155_L44 : Nat → Int32 → Int32 → Nat → Int32 → ST → (ST → Prop) → (Int32 → ST → Prop) → Prop
  | 0, _, _, _, _, _, _, _ => False
  | n + 1, x1, x2, x4, x5, s, X84, K => (((s.1 801) ≤ x5 → X84  s) ∧ (¬ ((s.1 801) ≤ x5) → w_123 x5 s (fun r20 s19 => w_9 r20 (0 : Int32) s19 (fun r22 s21 => ((¬ r22 = x2 → w_155_L44 n x1 x2 x4 (x5 + (1 : Int32)) s21 X84 K) ∧ (¬ (¬ r22 = x2) → w_20 r20 s21 (fun s23 => w_9 r20 (6 : Int32) s23 (fun r26 s25 => ((¬ r26 = x1 → (∃ v27, pgf s25.2.2.2.2 x4 1 1 = some (.ref (v27 + 118)) ∧ w_21 v27 s25 (fun r29 s28 => w_156 (0 : Int32) r29 s28 (fun s30 => w_155_L44 n x1 x2 x4 (x5 + (1 : Int32)) s30 X84 K)))) ∧ (¬ (¬ r26 = x1) → (∃ v32, pgf s25.2.2.2.2 x4 1 1 = some (.ref (v32 + 118)) ∧ w_21 v32 s25 (fun r34 s33 => w_156 (1 : Int32) r34 s33 (fun s35 => w_155_L44 n x1 x2 x4 (x5 + (1 : Int32)) s35 X84 K)))))))))))))
theorem q_155_L44 {d : Nat} {X84 : ST → Prop} {K : Int32 → ST → Prop} : ∀ (n : Nat) (x1 : Int32) (x2 : Int32) (x4 : Nat) (x5 : Int32) (s : ST), w_155_L44 n x1 x2 x4 x5 s X84 K → (∀ (s : ST), X84  s → Ex sc (d + 5) 155 84 [.ref 0, pu, pu, pu, pu, pu, pu] [] (hpS s) (kZ K)) → Ex sc (d + 5) 155 44 [.ref 0, .int x1, .int x2, pu, .ref (x4 + 118), .int x5, pu] [] (hpS s) (kZ K) := by
  have hq : prog[155]? = some pm155 := rfl
  intro n
  induction n with
  | zero =>
    intro x1 x2 x4 x5 s k
    exact k.elim
  | succ n ih =>
    intro x1 x2 x4 x5 s k hX84
    rw [w_155_L44] at k
    refine Ex.seg hq 4 (j := 48) (L' := [.ref 0, .int x1, .int x2, pu, .ref (x4 + 118), .int x5, pu]) (S' := [.int (s.1 801), .int x5]) (h' := hpS s) rfl ?_
    refine Ex.i2 hq rfl (fun c => ?_) (fun c => ?_)
    · have k := k.1 c
      refine Ex.fg (L := [.ref 0, pu, pu, pu, pu, pu, pu]) ⟨Or.inl rfl, ⟨Or.inr ⟨rfl, rfl⟩, ⟨Or.inr ⟨rfl, rfl⟩, ⟨Or.inl rfl, ⟨Or.inr ⟨rfl, rfl⟩, ⟨Or.inr ⟨rfl, rfl⟩, ⟨Or.inl rfl, trivial⟩⟩⟩⟩⟩⟩⟩ ?_
      exact hX84  s k
    · have k := k.2 c
      refine Ex.seg hq 3 (j := 52) (L' := [.ref 0, .int x1, .int x2, pu, .ref (x4 + 118), .int x5, pu]) (S' := [.int x5, .ref 8]) (h' := hpS s) rfl ?_
      refine Ex.cl hq rfl rfl ?_
      refine Rn.mono (q_123 (d := d + 4) x5 s k) ?_
      rintro _ _ ⟨r20, s19, rfl, rfl, k⟩
      show Ex sc (d + 5) 155 53 [.ref 0, .int x1, .int x2, pu, .ref (x4 + 118), .int x5, pu] [.int r20] (hpS s19) _
      refine Ex.seg hq 5 (j := 58) (L' := [.ref 0, .int x1, .int x2, pu, .ref (x4 + 118), .int x5, .int r20]) (S' := [.int (0 : Int32), .int r20, .ref 1]) (h' := hpS s19) rfl ?_
      refine Ex.cl hq rfl rfl ?_
      refine Rn.mono (q_9 (d := d + 4) r20 (0 : Int32) s19 k) ?_
      rintro _ _ ⟨r22, s21, rfl, rfl, k⟩
      show Ex sc (d + 5) 155 59 [.ref 0, .int x1, .int x2, pu, .ref (x4 + 118), .int x5, .int r20] [.int r22] (hpS s21) _
      refine Ex.seg hq 1 (j := 60) (L' := [.ref 0, .int x1, .int x2, pu, .ref (x4 + 118), .int x5, .int r20]) (S' := [.int x2, .int r22]) (h' := hpS s21) rfl ?_
      refine Ex.i2 hq rfl (fun c => ?_) (fun c => ?_)
      · have k := k.1 c
        refine Ex.seg hq 2 (j := 44) (L' := [.ref 0, .int x1, .int x2, pu, .ref (x4 + 118), .int (x5 + (1 : Int32)), .int r20]) (S' := []) (h' := hpS s21) rfl ?_
        refine Ex.fg (L := [.ref 0, .int x1, .int x2, pu, .ref (x4 + 118), .int (x5 + (1 : Int32)), pu]) ⟨Or.inl rfl, ⟨Or.inl rfl, ⟨Or.inl rfl, ⟨Or.inl rfl, ⟨Or.inl rfl, ⟨Or.inl rfl, ⟨Or.inr ⟨rfl, rfl⟩, trivial⟩⟩⟩⟩⟩⟩⟩ ?_
        exact ih x1 x2 x4 (x5 + (1 : Int32)) s21 k hX84
      · have k := k.2 c
        refine Ex.seg hq 3 (j := 64) (L' := [.ref 0, .int x1, .int x2, pu, .ref (x4 + 118), .int x5, .int r20]) (S' := [.int r20, .ref 16]) (h' := hpS s21) rfl ?_
        refine Ex.cl hq rfl rfl ?_
        refine Rn.mono (q_20 (d := d + 2) r20 s21 k) ?_
        rintro _ _ ⟨s23, rfl, rfl, k⟩
        show Ex sc (d + 5) 155 65 [.ref 0, .int x1, .int x2, pu, .ref (x4 + 118), .int x5, .int r20] [] (hpS s23) _
        refine Ex.seg hq 5 (j := 70) (L' := [.ref 0, .int x1, .int x2, pu, .ref (x4 + 118), .int x5, .int r20]) (S' := [.int (6 : Int32), .int r20, .ref 1, .ref 0]) (h' := hpS s23) rfl ?_
        refine Ex.cl hq rfl rfl ?_
        refine Rn.mono (q_9 (d := d + 4) r20 (6 : Int32) s23 k) ?_
        rintro _ _ ⟨r26, s25, rfl, rfl, k⟩
        show Ex sc (d + 5) 155 71 [.ref 0, .int x1, .int x2, pu, .ref (x4 + 118), .int x5, .int r20] [.int r26, .ref 0] (hpS s25) _
        refine Ex.seg hq 1 (j := 72) (L' := [.ref 0, .int x1, .int x2, pu, .ref (x4 + 118), .int x5, .int r20]) (S' := [.int x1, .int r26, .ref 0]) (h' := hpS s25) rfl ?_
        refine Ex.i2 hq rfl (fun c => ?_) (fun c => ?_)
        · have k := k.1 c
          refine Ex.seg hq 4 (j := 79) (L' := [.ref 0, .int x1, .int x2, pu, .ref (x4 + 118), .int x5, .int r20]) (S' := [.ref (x4 + 118), .ref 16, .int (0 : Int32), .ref 0]) (h' := hpS s25) rfl ?_
          obtain ⟨v27, e, k⟩ := k
          refine Ex.gfd hq rfl e ?_
          refine Ex.cl hq rfl rfl ?_
          refine Rn.mono (q_21 (d := d + 3) v27 s25 k) ?_
          rintro _ _ ⟨r29, s28, rfl, hzr29, rfl, k⟩
          show Ex sc (d + 5) 155 81 [.ref 0, .int x1, .int x2, pu, .ref (x4 + 118), .int x5, .int r20] [.int r29, .int (0 : Int32), .ref 0] (hpS s28) _
          refine Ex.cl hq rfl rfl ?_
          refine Rn.mono (q_156 (d := d + 4) (0 : Int32) r29 s28 k) ?_
          rintro _ _ ⟨s30, rfl, rfl, k⟩
          show Ex sc (d + 5) 155 82 [.ref 0, .int x1, .int x2, pu, .ref (x4 + 118), .int x5, .int r20] [] (hpS s30) _
          refine Ex.seg hq 2 (j := 44) (L' := [.ref 0, .int x1, .int x2, pu, .ref (x4 + 118), .int (x5 + (1 : Int32)), .int r20]) (S' := []) (h' := hpS s30) rfl ?_
          refine Ex.fg (L := [.ref 0, .int x1, .int x2, pu, .ref (x4 + 118), .int (x5 + (1 : Int32)), pu]) ⟨Or.inl rfl, ⟨Or.inl rfl, ⟨Or.inl rfl, ⟨Or.inl rfl, ⟨Or.inl rfl, ⟨Or.inl rfl, ⟨Or.inr ⟨rfl, rfl⟩, trivial⟩⟩⟩⟩⟩⟩⟩ ?_
          exact ih x1 x2 x4 (x5 + (1 : Int32)) s30 k hX84
        · have k := k.2 c
          refine Ex.seg hq 5 (j := 79) (L' := [.ref 0, .int x1, .int x2, pu, .ref (x4 + 118), .int x5, .int r20]) (S' := [.ref (x4 + 118), .ref 16, .int (1 : Int32), .ref 0]) (h' := hpS s25) rfl ?_
          obtain ⟨v32, e, k⟩ := k
          refine Ex.gfd hq rfl e ?_
          refine Ex.cl hq rfl rfl ?_
          refine Rn.mono (q_21 (d := d + 3) v32 s25 k) ?_
          rintro _ _ ⟨r34, s33, rfl, hzr34, rfl, k⟩
          show Ex sc (d + 5) 155 81 [.ref 0, .int x1, .int x2, pu, .ref (x4 + 118), .int x5, .int r20] [.int r34, .int (1 : Int32), .ref 0] (hpS s33) _
          refine Ex.cl hq rfl rfl ?_
          refine Rn.mono (q_156 (d := d + 4) (1 : Int32) r34 s33 k) ?_
          rintro _ _ ⟨s35, rfl, rfl, k⟩
          show Ex sc (d + 5) 155 82 [.ref 0, .int x1, .int x2, pu, .ref (x4 + 118), .int x5, .int r20] [] (hpS s35) _
          refine Ex.seg hq 2 (j := 44) (L' := [.ref 0, .int x1, .int x2, pu, .ref (x4 + 118), .int (x5 + (1 : Int32)), .int r20]) (S' := []) (h' := hpS s35) rfl ?_
          refine Ex.fg (L := [.ref 0, .int x1, .int x2, pu, .ref (x4 + 118), .int (x5 + (1 : Int32)), pu]) ⟨Or.inl rfl, ⟨Or.inl rfl, ⟨Or.inl rfl, ⟨Or.inl rfl, ⟨Or.inl rfl, ⟨Or.inl rfl, ⟨Or.inr ⟨rfl, rfl⟩, trivial⟩⟩⟩⟩⟩⟩⟩ ?_
          exact ih x1 x2 x4 (x5 + (1 : Int32)) s35 k hX84
/-- RowAuditor.deal(III)Z -/
def w_155 (p1 : Int32) (p2 : Int32) (p3 : Int32) (s : ST) (K : Int32 → ST → Prop) : Prop := w_183 p1 s (fun r2 s1 => ((r2 = 0 → K (0 : Int32) s1) ∧ (¬ (r2 = 0) → w_181 p2 (0 : Int32) (3 : Int32) s1 (fun r4 s3 => ((r4 = 0 → K (0 : Int32) s3) ∧ (¬ (r4 = 0) → w_297_R20 s3 (fun r6 s5 => w_181 p3 (0 : Int32) (r6 - (1 : Int32)) s5 (fun r8 s7 => ((¬ r8 = 0 → w_299_R20 p3 s7 (fun r10 s9 => (∃ f11, pob s9.2.2.2.2 r10 9 = some f11 ∧ (∃ f14, pob s9.2.2.2.2 r10 9 = some f14 ∧ w_109 r10 s9 (fun r13 s12 => (∀ br13, r13 = some br13 → w_111 (s12.1 100) s12 (fun s15 => w_302_R34 (0 : Int32) s15 (fun s17 => (∃ m, w_155_L44 m p1 p2 br13 (0 : Int32) s17 (fun s37 => (pin (2 : Int32) 4 = true ∧ (((50 : Int32) < ((s37.2.1 34) ((2 : Int32)).toNatClampNeg) → K (0 : Int32) s37) ∧ (¬ ((50 : Int32) < ((s37.2.1 34) ((2 : Int32)).toNatClampNeg)) → K (1 : Int32) s37)))) K)))) ∧ (r13 = none → K (0 : Int32) s12)))))) ∧ (¬ (¬ r8 = 0) → K (0 : Int32) s7))))))))))
theorem q_155 {d : Nat} {K : Int32 → ST → Prop} (p1 : Int32) (p2 : Int32) (p3 : Int32) (s : ST) (k : w_155 p1 p2 p3 s K) : Rn sc (d + 5) 155 [.ref 0, .int p1, .int p2, .int p3] (hpS s) (kZ K) := by
  have hq : prog[155]? = some pm155 := rfl
  refine Rn.of (L := [.ref 0, .int p1, .int p2, .int p3, pu, pu, pu]) hq rfl rfl ?_
  unfold w_155 at k
  refine Ex.seg hq 1 (j := 1) (L' := [.ref 0, .int p1, .int p2, .int p3, pu, pu, pu]) (S' := [.int p1]) (h' := hpS s) rfl ?_
  refine Ex.cl hq rfl rfl ?_
  refine Rn.mono (q_183 (d := d + 3) p1 s k) ?_
  rintro _ _ ⟨r2, s1, rfl, hzr2, rfl, k⟩
  show Ex sc (d + 5) 155 2 [.ref 0, .int p1, .int p2, .int p3, pu, pu, pu] [.int r2] (hpS s1) _
  refine Ex.i1 hq rfl (fun c => ?_) (fun c => ?_)
  · have k := k.1 c
    refine Ex.seg hq 1 (j := 19) (L' := [.ref 0, .int p1, .int p2, .int p3, pu, pu, pu]) (S' := [.int (0 : Int32)]) (h' := hpS s1) rfl ?_
    exact Ex.zr hq rfl rfl (Or.inl rfl) ⟨(0 : Int32), s1, rfl, (Or.inl rfl), rfl, k⟩
  · have k := k.2 c
    refine Ex.seg hq 3 (j := 6) (L' := [.ref 0, .int p1, .int p2, .int p3, pu, pu, pu]) (S' := [.int (3 : Int32), .int (0 : Int32), .int p2]) (h' := hpS s1) rfl ?_
    refine Ex.cl hq rfl rfl ?_
    refine Rn.mono (q_181 (d := d + 4) p2 (0 : Int32) (3 : Int32) s1 k) ?_
    rintro _ _ ⟨r4, s3, rfl, hzr4, rfl, k⟩
    show Ex sc (d + 5) 155 7 [.ref 0, .int p1, .int p2, .int p3, pu, pu, pu] [.int r4] (hpS s3) _
    refine Ex.i1 hq rfl (fun c => ?_) (fun c => ?_)
    · have k := k.1 c
      refine Ex.seg hq 1 (j := 19) (L' := [.ref 0, .int p1, .int p2, .int p3, pu, pu, pu]) (S' := [.int (0 : Int32)]) (h' := hpS s3) rfl ?_
      exact Ex.zr hq rfl rfl (Or.inl rfl) ⟨(0 : Int32), s3, rfl, (Or.inl rfl), rfl, k⟩
    · have k := k.2 c
      refine Ex.seg hq 5 (j := 13) (L' := [.ref 0, .int p1, .int p2, .int p3, pu, pu, pu]) (S' := [.ref 20, .int (0 : Int32), .int p3]) (h' := hpS s3) rfl ?_
      refine Ex.cl hq rfl rfl ?_
      refine Rn.mono (q_297_R20 (d := d + 4) s3 k) ?_
      rintro _ _ ⟨r6, s5, rfl, rfl, k⟩
      show Ex sc (d + 5) 155 14 [.ref 0, .int p1, .int p2, .int p3, pu, pu, pu] [.int r6, .int (0 : Int32), .int p3] (hpS s5) _
      refine Ex.seg hq 2 (j := 16) (L' := [.ref 0, .int p1, .int p2, .int p3, pu, pu, pu]) (S' := [.int (r6 - (1 : Int32)), .int (0 : Int32), .int p3]) (h' := hpS s5) rfl ?_
      refine Ex.cl hq rfl rfl ?_
      refine Rn.mono (q_181 (d := d + 4) p3 (0 : Int32) (r6 - (1 : Int32)) s5 k) ?_
      rintro _ _ ⟨r8, s7, rfl, hzr8, rfl, k⟩
      show Ex sc (d + 5) 155 17 [.ref 0, .int p1, .int p2, .int p3, pu, pu, pu] [.int r8] (hpS s7) _
      refine Ex.i1 hq rfl (fun c => ?_) (fun c => ?_)
      · have k := k.1 c
        refine Ex.seg hq 4 (j := 24) (L' := [.ref 0, .int p1, .int p2, .int p3, pu, pu, pu]) (S' := [.int p3, .ref 20]) (h' := hpS s7) rfl ?_
        refine Ex.cl hq rfl rfl ?_
        refine Rn.mono (q_299_R20 (d := d + 2) p3 s7 k) ?_
        rintro _ _ ⟨r10, s9, rfl, rfl, k⟩
        show Ex sc (d + 5) 155 25 [.ref 0, .int p1, .int p2, .int p3, pu, pu, pu] [.ref (r10 + 118)] (hpS s9) _
        obtain ⟨f11, e, k⟩ := k
        refine Ex.ccd hq rfl e ?_
        obtain ⟨f14, e, k⟩ := k
        refine Ex.cvd hq rfl rfl e rfl ?_
        refine Rn.mono (q_109 (d := d + 1) r10 s9 k) ?_
        rintro _ _ ⟨r13, s12, rfl, rfl, k⟩
        cases r13 with
        | some br13 =>
          have k := k.1 br13 rfl
          show Ex sc (d + 5) 155 27 [.ref 0, .int p1, .int p2, .int p3, pu, pu, pu] [.ref (br13 + 118)] (hpS s12) _
          refine Ex.seg hq 8 (j := 37) (L' := [.ref 0, .int p1, .int p2, .int p3, .ref (br13 + 118), pu, pu]) (S' := [.int (s12.1 100), .ref 8]) (h' := hpS s12) rfl ?_
          refine Ex.cl hq rfl rfl ?_
          refine Rn.mono (q_111 (d := d + 0) (s12.1 100) s12 k) ?_
          rintro _ _ ⟨s15, rfl, rfl, k⟩
          show Ex sc (d + 5) 155 38 [.ref 0, .int p1, .int p2, .int p3, .ref (br13 + 118), pu, pu] [] (hpS s15) _
          refine Ex.seg hq 3 (j := 41) (L' := [.ref 0, .int p1, .int p2, .int p3, .ref (br13 + 118), pu, pu]) (S' := [.int (0 : Int32), .ref 34]) (h' := hpS s15) rfl ?_
          refine Ex.cl hq rfl rfl ?_
          refine Rn.mono (q_302_R34 (d := d + 4) (0 : Int32) s15 k) ?_
          rintro _ _ ⟨s17, rfl, rfl, k⟩
          show Ex sc (d + 5) 155 42 [.ref 0, .int p1, .int p2, .int p3, .ref (br13 + 118), pu, pu] [] (hpS s17) _
          refine Ex.seg hq 2 (j := 44) (L' := [.ref 0, .int p1, .int p2, .int p3, .ref (br13 + 118), .int (0 : Int32), pu]) (S' := []) (h' := hpS s17) rfl ?_
          obtain ⟨m, k⟩ := k
          refine Ex.fg (L := [.ref 0, .int p1, .int p2, pu, .ref (br13 + 118), .int (0 : Int32), pu]) ⟨Or.inl rfl, ⟨Or.inl rfl, ⟨Or.inl rfl, ⟨Or.inr ⟨rfl, rfl⟩, ⟨Or.inl rfl, ⟨Or.inl rfl, ⟨Or.inl rfl, trivial⟩⟩⟩⟩⟩⟩⟩ ?_
          refine q_155_L44 (d := d) m p1 p2 br13 (0 : Int32) s17 k ?_
          · intro s37 k
            refine Ex.seg hq 3 (j := 87) (L' := [.ref 0, pu, pu, pu, pu, pu, pu]) (S' := [.int (2 : Int32), .ref 34]) (h' := hpS s37) rfl ?_
            obtain ⟨hin, k⟩ := k
            refine Ex.ial hq rfl rfl hin ?_
            refine Ex.seg hq 1 (j := 89) (L' := [.ref 0, pu, pu, pu, pu, pu, pu]) (S' := [.int (50 : Int32), .int ((s37.2.1 34) ((2 : Int32)).toNatClampNeg)]) (h' := hpS s37) rfl ?_
            refine Ex.i2 hq rfl (fun c => ?_) (fun c => ?_)
            · have k := k.1 c
              refine Ex.seg hq 1 (j := 93) (L' := [.ref 0, pu, pu, pu, pu, pu, pu]) (S' := [.int (0 : Int32)]) (h' := hpS s37) rfl ?_
              exact Ex.zr hq rfl rfl (Or.inl rfl) ⟨(0 : Int32), s37, rfl, (Or.inl rfl), rfl, k⟩
            · have k := k.2 c
              refine Ex.seg hq 2 (j := 93) (L' := [.ref 0, pu, pu, pu, pu, pu, pu]) (S' := [.int (1 : Int32)]) (h' := hpS s37) rfl ?_
              exact Ex.zr hq rfl rfl (Or.inr rfl) ⟨(1 : Int32), s37, rfl, (Or.inr rfl), rfl, k⟩
        | none =>
          have k := k.2 rfl
          show Ex sc (d + 5) 155 27 [.ref 0, .int p1, .int p2, .int p3, pu, pu, pu] [.null] (hpS s12) _
          refine Ex.seg hq 4 (j := 31) (L' := [.ref 0, .int p1, .int p2, .int p3, .null, pu, pu]) (S' := [.int (0 : Int32)]) (h' := hpS s12) rfl ?_
          exact Ex.zr hq rfl rfl (Or.inl rfl) ⟨(0 : Int32), s12, rfl, (Or.inl rfl), rfl, k⟩
      · have k := k.2 c
        refine Ex.seg hq 1 (j := 19) (L' := [.ref 0, .int p1, .int p2, .int p3, pu, pu, pu]) (S' := [.int (0 : Int32)]) (h' := hpS s7) rfl ?_
        exact Ex.zr hq rfl rfl (Or.inl rfl) ⟨(0 : Int32), s7, rfl, (Or.inl rfl), rfl, k⟩
def w_158_L9 : Nat → Int32 → Int32 → Int64 → Int32 → ST → (Int64 → ST → Prop) → (Int64 → ST → Prop) → Prop
  | 0, _, _, _, _, _, _, _ => False
  | n + 1, x0, x1, x2, x4, s, X26, K => ((x1 < x4 → X26 x2 s) ∧ (¬ (x1 < x4) → (¬ ((x4).toInt64) = 0 ∧ w_158_L9 n x0 x1 ((x2 * ((((x0 - x1) + x4)).toInt64)) / ((x4).toInt64)) (x4 + (1 : Int32)) s X26 K)))
theorem q_158_L9 {d : Nat} {X26 : Int64 → ST → Prop} {K : Int64 → ST → Prop} : ∀ (n : Nat) (x0 : Int32) (x1 : Int32) (x2 : Int64) (x4 : Int32) (s : ST), w_158_L9 n x0 x1 x2 x4 s X26 K → (∀ (y2 : Int64) (s : ST), X26 y2 s → Ex sc (d + 0) 158 26 [pu, pu, .long y2, pu, pu] [] (hpS s) (kJ K)) → Ex sc (d + 0) 158 9 [.int x0, .int x1, .long x2, pu, .int x4] [] (hpS s) (kJ K) := by
  have hq : prog[158]? = some pm158 := rfl
  intro n
  induction n with
  | zero =>
    intro x0 x1 x2 x4 s k
    exact k.elim
  | succ n ih =>
    intro x0 x1 x2 x4 s k hX26
    rw [w_158_L9] at k
    refine Ex.seg hq 2 (j := 11) (L' := [.int x0, .int x1, .long x2, pu, .int x4]) (S' := [.int x1, .int x4]) (h' := hpS s) rfl ?_
    refine Ex.i2 hq rfl (fun c => ?_) (fun c => ?_)
    · have k := k.1 c
      refine Ex.fg (L := [pu, pu, .long x2, pu, pu]) ⟨Or.inr ⟨rfl, rfl⟩, ⟨Or.inr ⟨rfl, rfl⟩, ⟨Or.inl rfl, ⟨Or.inl rfl, ⟨Or.inr ⟨rfl, rfl⟩, trivial⟩⟩⟩⟩⟩ ?_
      exact hX26 x2 s k
    · have k := k.2 c
      refine Ex.seg hq 10 (j := 22) (L' := [.int x0, .int x1, .long x2, pu, .int x4]) (S' := [.long ((x4).toInt64), .long (x2 * ((((x0 - x1) + x4)).toInt64))]) (h' := hpS s) rfl ?_
      obtain ⟨hz, k⟩ := k
      refine Ex.ldv hq rfl hz ?_
      refine Ex.seg hq 3 (j := 9) (L' := [.int x0, .int x1, .long ((x2 * ((((x0 - x1) + x4)).toInt64)) / ((x4).toInt64)), pu, .int (x4 + (1 : Int32))]) (S' := []) (h' := hpS s) rfl ?_
      exact ih x0 x1 ((x2 * ((((x0 - x1) + x4)).toInt64)) / ((x4).toInt64)) (x4 + (1 : Int32)) s k hX26
/-- RowAuditor.choose(II)J -/
def w_158 (p0 : Int32) (p1 : Int32) (s : ST) (K : Int64 → ST → Prop) : Prop := ((p1 ≤ p0 → (∃ m, w_158_L9 m p0 p1 (1 : Int64) (1 : Int32) s (fun y2 s1 => K y2 s1) K)) ∧ (¬ (p1 ≤ p0) → K (0 : Int64) s))
theorem q_158 {d : Nat} {K : Int64 → ST → Prop} (p0 : Int32) (p1 : Int32) (s : ST) (k : w_158 p0 p1 s K) : Rn sc (d + 0) 158 [.int p0, .int p1] (hpS s) (kJ K) := by
  have hq : prog[158]? = some pm158 := rfl
  refine Rn.of (L := [.int p0, .int p1, pu, pu, pu]) hq rfl rfl ?_
  unfold w_158 at k
  refine Ex.seg hq 2 (j := 2) (L' := [.int p0, .int p1, pu, pu, pu]) (S' := [.int p0, .int p1]) (h' := hpS s) rfl ?_
  refine Ex.i2 hq rfl (fun c => ?_) (fun c => ?_)
  · have k := k.1 c
    refine Ex.seg hq 4 (j := 9) (L' := [.int p0, .int p1, .long (1 : Int64), pu, .int (1 : Int32)]) (S' := []) (h' := hpS s) rfl ?_
    obtain ⟨m, k⟩ := k
    refine q_158_L9 (d := d) m p0 p1 (1 : Int64) (1 : Int32) s k ?_
    · intro y2 s1 k
      refine Ex.seg hq 1 (j := 27) (L' := [pu, pu, .long y2, pu, pu]) (S' := [.long y2]) (h' := hpS s1) rfl ?_
      exact Ex.rt hq rfl rfl ⟨y2, s1, rfl, rfl, k⟩
  · have k := k.2 c
    refine Ex.seg hq 1 (j := 4) (L' := [.int p0, .int p1, pu, pu, pu]) (S' := [.long (0 : Int64)]) (h' := hpS s) rfl ?_
    exact Ex.rt hq rfl rfl ⟨(0 : Int64), s, rfl, rfl, k⟩
def w_157_L17 : Nat → Int64 → Int32 → Int32 → ST → (Int64 → ST → Prop) → (Int64 → ST → Prop) → Prop
  | 0, _, _, _, _, _, _ => False
  | n + 1, x1, x3, x4, s, X43, K => (pin (0 : Int32) 4 = true ∧ ((((s.2.1 34) ((0 : Int32)).toNatClampNeg) < x4 → X43 x1 s) ∧ (¬ (((s.2.1 34) ((0 : Int32)).toNatClampNeg) < x4) → (pin (3 : Int32) 4 = true ∧ w_158 ((s.2.1 34) ((3 : Int32)).toNatClampNeg) x4 s (fun r2 s1 => (pin (0 : Int32) 4 = true ∧ w_158 x3 (((s1.2.1 34) ((0 : Int32)).toNatClampNeg) - x4) s1 (fun r4 s3 => w_157_L17 n (x1 + (r2 * r4)) x3 (x4 + (1 : Int32)) s3 X43 K)))))))
theorem q_157_L17 {d : Nat} {X43 : Int64 → ST → Prop} {K : Int64 → ST → Prop} : ∀ (n : Nat) (x1 : Int64) (x3 : Int32) (x4 : Int32) (s : ST), w_157_L17 n x1 x3 x4 s X43 K → (∀ (y1 : Int64) (s : ST), X43 y1 s → Ex sc (d + 1) 157 43 [pu, .long y1, pu, pu, pu] [] (hpS s) (kJ K)) → Ex sc (d + 1) 157 17 [.ref 0, .long x1, pu, .int x3, .int x4] [] (hpS s) (kJ K) := by
  have hq : prog[157]? = some pm157 := rfl
  intro n
  induction n with
  | zero =>
    intro x1 x3 x4 s k
    exact k.elim
  | succ n ih =>
    intro x1 x3 x4 s k hX43
    rw [w_157_L17] at k
    refine Ex.seg hq 4 (j := 21) (L' := [.ref 0, .long x1, pu, .int x3, .int x4]) (S' := [.int (0 : Int32), .ref 34, .int x4]) (h' := hpS s) rfl ?_
    obtain ⟨hin, k⟩ := k
    refine Ex.ial hq rfl rfl hin ?_
    refine Ex.i2 hq rfl (fun c => ?_) (fun c => ?_)
    · have k := k.1 c
      refine Ex.fg (L := [pu, .long x1, pu, pu, pu]) ⟨Or.inr ⟨rfl, rfl⟩, ⟨Or.inl rfl, ⟨Or.inl rfl, ⟨Or.inr ⟨rfl, rfl⟩, ⟨Or.inr ⟨rfl, rfl⟩, trivial⟩⟩⟩⟩⟩ ?_
      exact hX43 x1 s k
    · have k := k.2 c
      refine Ex.seg hq 4 (j := 27) (L' := [.ref 0, .long x1, pu, .int x3, .int x4]) (S' := [.int (3 : Int32), .ref 34, .long x1]) (h' := hpS s) rfl ?_
      obtain ⟨hin, k⟩ := k
      refine Ex.ial hq rfl rfl hin ?_
      refine Ex.seg hq 1 (j := 29) (L' := [.ref 0, .long x1, pu, .int x3, .int x4]) (S' := [.int x4, .int ((s.2.1 34) ((3 : Int32)).toNatClampNeg), .long x1]) (h' := hpS s) rfl ?_
      refine Ex.cl hq rfl rfl ?_
      refine Rn.mono (q_158 (d := d + 0) ((s.2.1 34) ((3 : Int32)).toNatClampNeg) x4 s k) ?_
      rintro _ _ ⟨r2, s1, rfl, rfl, k⟩
      show Ex sc (d + 1) 157 30 [.ref 0, .long x1, pu, .int x3, .int x4] [.long r2, .long x1] (hpS s1) _
      refine Ex.seg hq 4 (j := 34) (L' := [.ref 0, .long x1, pu, .int x3, .int x4]) (S' := [.int (0 : Int32), .ref 34, .int x3, .long r2, .long x1]) (h' := hpS s1) rfl ?_
      obtain ⟨hin, k⟩ := k
      refine Ex.ial hq rfl rfl hin ?_
      refine Ex.seg hq 2 (j := 37) (L' := [.ref 0, .long x1, pu, .int x3, .int x4]) (S' := [.int (((s1.2.1 34) ((0 : Int32)).toNatClampNeg) - x4), .int x3, .long r2, .long x1]) (h' := hpS s1) rfl ?_
      refine Ex.cl hq rfl rfl ?_
      refine Rn.mono (q_158 (d := d + 0) x3 (((s1.2.1 34) ((0 : Int32)).toNatClampNeg) - x4) s1 k) ?_
      rintro _ _ ⟨r4, s3, rfl, rfl, k⟩
      show Ex sc (d + 1) 157 38 [.ref 0, .long x1, pu, .int x3, .int x4] [.long r4, .long r2, .long x1] (hpS s3) _
      refine Ex.seg hq 5 (j := 17) (L' := [.ref 0, .long (x1 + (r2 * r4)), pu, .int x3, .int (x4 + (1 : Int32))]) (S' := []) (h' := hpS s3) rfl ?_
      exact ih (x1 + (r2 * r4)) x3 (x4 + (1 : Int32)) s3 k hX43
/-- RowAuditor.waysAsOdd()J -/
def w_157  (s : ST) (K : Int64 → ST → Prop) : Prop := (pin (2 : Int32) 4 = true ∧ (pin (3 : Int32) 4 = true ∧ (pin (1 : Int32) 4 = true ∧ (∃ m, w_157_L17 m (0 : Int64) (((s.2.1 34) ((2 : Int32)).toNatClampNeg) - ((s.2.1 34) ((3 : Int32)).toNatClampNeg)) ((s.2.1 34) ((1 : Int32)).toNatClampNeg) s (fun y1 s5 => K y1 s5) K))))
theorem q_157 {d : Nat} {K : Int64 → ST → Prop}  (s : ST) (k : w_157  s K) : Rn sc (d + 1) 157 [.ref 0] (hpS s) (kJ K) := by
  have hq : prog[157]? = some pm157 := rfl
  refine Rn.of (L := [.ref 0, pu, pu, pu, pu]) hq rfl rfl ?_
  unfold w_157 at k
  refine Ex.seg hq 5 (j := 5) (L' := [.ref 0, .long (0 : Int64), pu, pu, pu]) (S' := [.int (2 : Int32), .ref 34]) (h' := hpS s) rfl ?_
  obtain ⟨hin, k⟩ := k
  refine Ex.ial hq rfl rfl hin ?_
  refine Ex.seg hq 3 (j := 9) (L' := [.ref 0, .long (0 : Int64), pu, pu, pu]) (S' := [.int (3 : Int32), .ref 34, .int ((s.2.1 34) ((2 : Int32)).toNatClampNeg)]) (h' := hpS s) rfl ?_
  obtain ⟨hin, k⟩ := k
  refine Ex.ial hq rfl rfl hin ?_
  refine Ex.seg hq 5 (j := 15) (L' := [.ref 0, .long (0 : Int64), pu, .int (((s.2.1 34) ((2 : Int32)).toNatClampNeg) - ((s.2.1 34) ((3 : Int32)).toNatClampNeg)), pu]) (S' := [.int (1 : Int32), .ref 34]) (h' := hpS s) rfl ?_
  obtain ⟨hin, k⟩ := k
  refine Ex.ial hq rfl rfl hin ?_
  refine Ex.seg hq 1 (j := 17) (L' := [.ref 0, .long (0 : Int64), pu, .int (((s.2.1 34) ((2 : Int32)).toNatClampNeg) - ((s.2.1 34) ((3 : Int32)).toNatClampNeg)), .int ((s.2.1 34) ((1 : Int32)).toNatClampNeg)]) (S' := []) (h' := hpS s) rfl ?_
  obtain ⟨m, k⟩ := k
  refine q_157_L17 (d := d) m (0 : Int64) (((s.2.1 34) ((2 : Int32)).toNatClampNeg) - ((s.2.1 34) ((3 : Int32)).toNatClampNeg)) ((s.2.1 34) ((1 : Int32)).toNatClampNeg) s k ?_
  · intro y1 s5 k
    refine Ex.seg hq 1 (j := 44) (L' := [pu, .long y1, pu, pu, pu]) (S' := [.long y1]) (h' := hpS s5) rfl ?_
    exact Ex.rt hq rfl rfl ⟨y1, s5, rfl, rfl, k⟩
/-- RowAuditor.ways(IIII)J -/
def w_153 (p1 : Int32) (p2 : Int32) (p3 : Int32) (p4 : Int32) (s : ST) (K : Int64 → ST → Prop) : Prop := w_181 p4 (0 : Int32) (5 : Int32) s (fun r2 s1 => ((r2 = 0 → K (-1 : Int64) s1) ∧ (¬ (r2 = 0) → w_155 p1 p2 p3 s1 (fun r4 s3 => ((¬ r4 = 0 → ((p4 = (0 : Int32) → w_157 s3 (fun r6 s5 => K r6 s5)) ∧ (p4 = (1 : Int32) → (pin (2 : Int32) 4 = true ∧ (pin (0 : Int32) 4 = true ∧ w_158 ((s3.2.1 34) ((2 : Int32)).toNatClampNeg) ((s3.2.1 34) ((0 : Int32)).toNatClampNeg) s3 (fun r8 s7 => K r8 s7)))) ∧ (¬ p4 = (0 : Int32) → ¬ p4 = (1 : Int32) → (pin (p4 - (2 : Int32)) 4 = true ∧ K ((((s3.2.1 34) ((p4 - (2 : Int32))).toNatClampNeg)).toInt64) s3)))) ∧ (¬ (¬ r4 = 0) → K (-1 : Int64) s3))))))
theorem q_153 {d : Nat} {K : Int64 → ST → Prop} (p1 : Int32) (p2 : Int32) (p3 : Int32) (p4 : Int32) (s : ST) (k : w_153 p1 p2 p3 p4 s K) : Rn sc (d + 6) 153 [.ref 0, .int p1, .int p2, .int p3, .int p4] (hpS s) (kJ K) := by
  have hq : prog[153]? = some pm153 := rfl
  refine Rn.of (L := [.ref 0, .int p1, .int p2, .int p3, .int p4]) hq rfl rfl ?_
  unfold w_153 at k
  refine Ex.seg hq 3 (j := 3) (L' := [.ref 0, .int p1, .int p2, .int p3, .int p4]) (S' := [.int (5 : Int32), .int (0 : Int32), .int p4]) (h' := hpS s) rfl ?_
  refine Ex.cl hq rfl rfl ?_
  refine Rn.mono (q_181 (d := d + 5) p4 (0 : Int32) (5 : Int32) s k) ?_
  rintro _ _ ⟨r2, s1, rfl, hzr2, rfl, k⟩
  show Ex sc (d + 6) 153 4 [.ref 0, .int p1, .int p2, .int p3, .int p4] [.int r2] (hpS s1) _
  refine Ex.i1 hq rfl (fun c => ?_) (fun c => ?_)
  · have k := k.1 c
    refine Ex.seg hq 1 (j := 12) (L' := [.ref 0, .int p1, .int p2, .int p3, .int p4]) (S' := [.long (-1 : Int64)]) (h' := hpS s1) rfl ?_
    exact Ex.rt hq rfl rfl ⟨(-1 : Int64), s1, rfl, rfl, k⟩
  · have k := k.2 c
    refine Ex.seg hq 4 (j := 9) (L' := [.ref 0, .int p1, .int p2, .int p3, .int p4]) (S' := [.int p3, .int p2, .int p1, .ref 0]) (h' := hpS s1) rfl ?_
    refine Ex.cl hq rfl rfl ?_
    refine Rn.mono (q_155 (d := d + 0) p1 p2 p3 s1 k) ?_
    rintro _ _ ⟨r4, s3, rfl, hzr4, rfl, k⟩
    show Ex sc (d + 6) 153 10 [.ref 0, .int p1, .int p2, .int p3, .int p4] [.int r4] (hpS s3) _
    refine Ex.i1 hq rfl (fun c => ?_) (fun c => ?_)
    · have k := k.1 c
      refine Ex.seg hq 1 (j := 14) (L' := [.ref 0, .int p1, .int p2, .int p3, .int p4]) (S' := [.int p4]) (h' := hpS s3) rfl ?_
      by_cases c0 : p4 = (0 : Int32)
      · have k := k.1 c0
        refine Ex.lsw hq rfl (t := 15) (by rw [c0]; rfl) ?_
        refine Ex.seg hq 1 (j := 16) (L' := [.ref 0, .int p1, .int p2, .int p3, .int p4]) (S' := [.ref 0]) (h' := hpS s3) rfl ?_
        refine Ex.cl hq rfl rfl ?_
        refine Rn.mono (q_157 (d := d + 4) s3 k) ?_
        rintro _ _ ⟨r6, s5, rfl, rfl, k⟩
        show Ex sc (d + 6) 153 17 [.ref 0, .int p1, .int p2, .int p3, .int p4] [.long r6] (hpS s5) _
        exact Ex.rt hq rfl rfl ⟨r6, s5, rfl, rfl, k⟩
      by_cases c1 : p4 = (1 : Int32)
      · have k := k.2.1 c1
        refine Ex.lsw hq rfl (t := 18) (by rw [c1]; rfl) ?_
        refine Ex.seg hq 3 (j := 21) (L' := [.ref 0, .int p1, .int p2, .int p3, .int p4]) (S' := [.int (2 : Int32), .ref 34]) (h' := hpS s3) rfl ?_
        obtain ⟨hin, k⟩ := k
        refine Ex.ial hq rfl rfl hin ?_
        refine Ex.seg hq 3 (j := 25) (L' := [.ref 0, .int p1, .int p2, .int p3, .int p4]) (S' := [.int (0 : Int32), .ref 34, .int ((s3.2.1 34) ((2 : Int32)).toNatClampNeg)]) (h' := hpS s3) rfl ?_
        obtain ⟨hin, k⟩ := k
        refine Ex.ial hq rfl rfl hin ?_
        refine Ex.cl hq rfl rfl ?_
        refine Rn.mono (q_158 (d := d + 5) ((s3.2.1 34) ((2 : Int32)).toNatClampNeg) ((s3.2.1 34) ((0 : Int32)).toNatClampNeg) s3 k) ?_
        rintro _ _ ⟨r8, s7, rfl, rfl, k⟩
        show Ex sc (d + 6) 153 27 [.ref 0, .int p1, .int p2, .int p3, .int p4] [.long r8] (hpS s7) _
        exact Ex.rt hq rfl rfl ⟨r8, s7, rfl, rfl, k⟩
      have k := k.2.2 c0 c1
      refine Ex.lsw hq rfl (t := 28) ?_ ?_
      · show plook [(0, 26), (1, 31)] [15, 18] 28 (p4).toInt = 28
        rw [plook, if_neg (lv_neT (a := 0) c0 rfl), plook, if_neg (lv_neT (a := 1) c1 rfl), plook]
        all_goals (first | done | simp)
      refine Ex.seg hq 5 (j := 33) (L' := [.ref 0, .int p1, .int p2, .int p3, .int p4]) (S' := [.int (p4 - (2 : Int32)), .ref 34]) (h' := hpS s3) rfl ?_
      obtain ⟨hin, k⟩ := k
      refine Ex.ial hq rfl rfl hin ?_
      refine Ex.seg hq 1 (j := 35) (L' := [.ref 0, .int p1, .int p2, .int p3, .int p4]) (S' := [.long ((((s3.2.1 34) ((p4 - (2 : Int32))).toNatClampNeg)).toInt64)]) (h' := hpS s3) rfl ?_
      exact Ex.rt hq rfl rfl ⟨((((s3.2.1 34) ((p4 - (2 : Int32))).toNatClampNeg)).toInt64), s3, rfl, rfl, k⟩
    · have k := k.2 c
      refine Ex.seg hq 1 (j := 12) (L' := [.ref 0, .int p1, .int p2, .int p3, .int p4]) (S' := [.long (-1 : Int64)]) (h' := hpS s3) rfl ?_
      exact Ex.rt hq rfl rfl ⟨(-1 : Int64), s3, rfl, rfl, k⟩
/-- RowAuditor.odd(IIII)I -/
def w_154 (p1 : Int32) (p2 : Int32) (p3 : Int32) (p4 : Int32) (s : ST) (K : Int32 → ST → Prop) : Prop := w_181 p4 (0 : Int32) (1000 : Int32) s (fun r2 s1 => ((r2 = 0 → K (-1 : Int32) s1) ∧ (¬ (r2 = 0) → w_155 p1 p2 p3 s1 (fun r4 s3 => ((¬ r4 = 0 → w_157 s3 (fun r6 s5 => (pin (2 : Int32) 4 = true ∧ (pin (0 : Int32) 4 = true ∧ w_158 ((s5.2.1 34) ((2 : Int32)).toNatClampNeg) ((s5.2.1 34) ((0 : Int32)).toNatClampNeg) s5 (fun r8 s7 => ((0 < (lg_cmp (r6 * (1000 : Int64)) (r8 * ((p4).toInt64))) → K (0 : Int32) s7) ∧ (¬ (0 < (lg_cmp (r6 * (1000 : Int64)) (r8 * ((p4).toInt64)))) → K (1 : Int32) s7))))))) ∧ (¬ (¬ r4 = 0) → K (-1 : Int32) s3))))))
theorem q_154 {d : Nat} {K : Int32 → ST → Prop} (p1 : Int32) (p2 : Int32) (p3 : Int32) (p4 : Int32) (s : ST) (k : w_154 p1 p2 p3 p4 s K) : Rn sc (d + 6) 154 [.ref 0, .int p1, .int p2, .int p3, .int p4] (hpS s) (kI K) := by
  have hq : prog[154]? = some pm154 := rfl
  refine Rn.of (L := [.ref 0, .int p1, .int p2, .int p3, .int p4]) hq rfl rfl ?_
  unfold w_154 at k
  refine Ex.seg hq 3 (j := 3) (L' := [.ref 0, .int p1, .int p2, .int p3, .int p4]) (S' := [.int (1000 : Int32), .int (0 : Int32), .int p4]) (h' := hpS s) rfl ?_
  refine Ex.cl hq rfl rfl ?_
  refine Rn.mono (q_181 (d := d + 5) p4 (0 : Int32) (1000 : Int32) s k) ?_
  rintro _ _ ⟨r2, s1, rfl, hzr2, rfl, k⟩
  show Ex sc (d + 6) 154 4 [.ref 0, .int p1, .int p2, .int p3, .int p4] [.int r2] (hpS s1) _
  refine Ex.i1 hq rfl (fun c => ?_) (fun c => ?_)
  · have k := k.1 c
    refine Ex.seg hq 1 (j := 12) (L' := [.ref 0, .int p1, .int p2, .int p3, .int p4]) (S' := [.int (-1 : Int32)]) (h' := hpS s1) rfl ?_
    exact Ex.rt hq rfl rfl ⟨(-1 : Int32), s1, rfl, rfl, k⟩
  · have k := k.2 c
    refine Ex.seg hq 4 (j := 9) (L' := [.ref 0, .int p1, .int p2, .int p3, .int p4]) (S' := [.int p3, .int p2, .int p1, .ref 0]) (h' := hpS s1) rfl ?_
    refine Ex.cl hq rfl rfl ?_
    refine Rn.mono (q_155 (d := d + 0) p1 p2 p3 s1 k) ?_
    rintro _ _ ⟨r4, s3, rfl, hzr4, rfl, k⟩
    show Ex sc (d + 6) 154 10 [.ref 0, .int p1, .int p2, .int p3, .int p4] [.int r4] (hpS s3) _
    refine Ex.i1 hq rfl (fun c => ?_) (fun c => ?_)
    · have k := k.1 c
      refine Ex.seg hq 1 (j := 14) (L' := [.ref 0, .int p1, .int p2, .int p3, .int p4]) (S' := [.ref 0]) (h' := hpS s3) rfl ?_
      refine Ex.cl hq rfl rfl ?_
      refine Rn.mono (q_157 (d := d + 4) s3 k) ?_
      rintro _ _ ⟨r6, s5, rfl, rfl, k⟩
      show Ex sc (d + 6) 154 15 [.ref 0, .int p1, .int p2, .int p3, .int p4] [.long r6] (hpS s5) _
      refine Ex.seg hq 5 (j := 20) (L' := [.ref 0, .int p1, .int p2, .int p3, .int p4]) (S' := [.int (2 : Int32), .ref 34, .long (r6 * (1000 : Int64))]) (h' := hpS s5) rfl ?_
      obtain ⟨hin, k⟩ := k
      refine Ex.ial hq rfl rfl hin ?_
      refine Ex.seg hq 3 (j := 24) (L' := [.ref 0, .int p1, .int p2, .int p3, .int p4]) (S' := [.int (0 : Int32), .ref 34, .int ((s5.2.1 34) ((2 : Int32)).toNatClampNeg), .long (r6 * (1000 : Int64))]) (h' := hpS s5) rfl ?_
      obtain ⟨hin, k⟩ := k
      refine Ex.ial hq rfl rfl hin ?_
      refine Ex.cl hq rfl rfl ?_
      refine Rn.mono (q_158 (d := d + 5) ((s5.2.1 34) ((2 : Int32)).toNatClampNeg) ((s5.2.1 34) ((0 : Int32)).toNatClampNeg) s5 k) ?_
      rintro _ _ ⟨r8, s7, rfl, rfl, k⟩
      show Ex sc (d + 6) 154 26 [.ref 0, .int p1, .int p2, .int p3, .int p4] [.long r8, .long (r6 * (1000 : Int64))] (hpS s7) _
      refine Ex.seg hq 4 (j := 30) (L' := [.ref 0, .int p1, .int p2, .int p3, .int p4]) (S' := [.int (lg_cmp (r6 * (1000 : Int64)) (r8 * ((p4).toInt64)))]) (h' := hpS s7) rfl ?_
      refine Ex.i1 hq rfl (fun c => ?_) (fun c => ?_)
      · have k := k.1 c
        refine Ex.seg hq 1 (j := 34) (L' := [.ref 0, .int p1, .int p2, .int p3, .int p4]) (S' := [.int (0 : Int32)]) (h' := hpS s7) rfl ?_
        exact Ex.rt hq rfl rfl ⟨(0 : Int32), s7, rfl, rfl, k⟩
      · have k := k.2 c
        refine Ex.seg hq 2 (j := 34) (L' := [.ref 0, .int p1, .int p2, .int p3, .int p4]) (S' := [.int (1 : Int32)]) (h' := hpS s7) rfl ?_
        exact Ex.rt hq rfl rfl ⟨(1 : Int32), s7, rfl, rfl, k⟩
    · have k := k.2 c
      refine Ex.seg hq 1 (j := 12) (L' := [.ref 0, .int p1, .int p2, .int p3, .int p4]) (S' := [.int (-1 : Int32)]) (h' := hpS s3) rfl ?_
      exact Ex.rt hq rfl rfl ⟨(-1 : Int32), s3, rfl, rfl, k⟩
/-- RowAuditor.ownerOf(IZ)I -/
def w_162 (p0 : Int32) (p1 : Int32) (s : ST) (K : Int32 → ST → Prop) : Prop := ((p1 = 0 → w_183 p0 s (fun r2 s1 => ((r2 = 0 → K (-1 : Int32) s1) ∧ (¬ (r2 = 0) → K p0 s1)))) ∧ (¬ (p1 = 0) → w_181 p0 (0 : Int32) (19 : Int32) s (fun r4 s3 => ((r4 = 0 → K (-1 : Int32) s3) ∧ (¬ (r4 = 0) → K ((16 : Int32) + p0) s3)))))
theorem q_162 {d : Nat} {K : Int32 → ST → Prop} (p0 : Int32) (p1 : Int32) (s : ST) (k : w_162 p0 p1 s K) : Rn sc (d + 2) 162 [.int p0, .int p1] (hpS s) (kI K) := by
  have hq : prog[162]? = some pm162 := rfl
  refine Rn.of (L := [.int p0, .int p1]) hq rfl rfl ?_
  unfold w_162 at k
  refine Ex.seg hq 1 (j := 1) (L' := [.int p0, .int p1]) (S' := [.int p1]) (h' := hpS s) rfl ?_
  refine Ex.i1 hq rfl (fun c => ?_) (fun c => ?_)
  · have k := k.1 c
    refine Ex.seg hq 1 (j := 14) (L' := [.int p0, .int p1]) (S' := [.int p0]) (h' := hpS s) rfl ?_
    refine Ex.cl hq rfl rfl ?_
    refine Rn.mono (q_183 (d := d + 0) p0 s k) ?_
    rintro _ _ ⟨r2, s1, rfl, hzr2, rfl, k⟩
    show Ex sc (d + 2) 162 15 [.int p0, .int p1] [.int r2] (hpS s1) _
    refine Ex.i1 hq rfl (fun c => ?_) (fun c => ?_)
    · have k := k.1 c
      refine Ex.seg hq 1 (j := 19) (L' := [.int p0, .int p1]) (S' := [.int (-1 : Int32)]) (h' := hpS s1) rfl ?_
      exact Ex.rt hq rfl rfl ⟨(-1 : Int32), s1, rfl, rfl, k⟩
    · have k := k.2 c
      refine Ex.seg hq 2 (j := 19) (L' := [.int p0, .int p1]) (S' := [.int p0]) (h' := hpS s1) rfl ?_
      exact Ex.rt hq rfl rfl ⟨p0, s1, rfl, rfl, k⟩
  · have k := k.2 c
    refine Ex.seg hq 3 (j := 5) (L' := [.int p0, .int p1]) (S' := [.int (19 : Int32), .int (0 : Int32), .int p0]) (h' := hpS s) rfl ?_
    refine Ex.cl hq rfl rfl ?_
    refine Rn.mono (q_181 (d := d + 1) p0 (0 : Int32) (19 : Int32) s k) ?_
    rintro _ _ ⟨r4, s3, rfl, hzr4, rfl, k⟩
    show Ex sc (d + 2) 162 6 [.int p0, .int p1] [.int r4] (hpS s3) _
    refine Ex.i1 hq rfl (fun c => ?_) (fun c => ?_)
    · have k := k.1 c
      refine Ex.seg hq 1 (j := 12) (L' := [.int p0, .int p1]) (S' := [.int (-1 : Int32)]) (h' := hpS s3) rfl ?_
      exact Ex.rt hq rfl rfl ⟨(-1 : Int32), s3, rfl, rfl, k⟩
    · have k := k.2 c
      refine Ex.seg hq 4 (j := 12) (L' := [.int p0, .int p1]) (S' := [.int ((16 : Int32) + p0)]) (h' := hpS s3) rfl ?_
      exact Ex.rt hq rfl rfl ⟨((16 : Int32) + p0), s3, rfl, rfl, k⟩
/-- RowAuditor.things(IZI)Z -/
def w_159 (p1 : Int32) (p2 : Int32) (p3 : Int32) (s : ST) (K : Int32 → ST → Prop) : Prop := w_162 p1 p2 s (fun r2 s1 => ((r2 = (-1 : Int32) → K (0 : Int32) s1) ∧ (¬ (r2 = (-1 : Int32)) → w_181 p3 (0 : Int32) (1073741823 : Int32) s1 (fun r4 s3 => ((¬ r4 = 0 → (pin r2 36 = true ∧ K (1 : Int32) (sA s3 28 (upd (s3.2.1 28) (r2).toNatClampNeg p3)))) ∧ (¬ (¬ r4 = 0) → K (0 : Int32) s3))))))
theorem q_159 {d : Nat} {K : Int32 → ST → Prop} (p1 : Int32) (p2 : Int32) (p3 : Int32) (s : ST) (k : w_159 p1 p2 p3 s K) : Rn sc (d + 3) 159 [.ref 0, .int p1, .int p2, .int p3] (hpS s) (kZ K) := by
  have hq : prog[159]? = some pm159 := rfl
  refine Rn.of (L := [.ref 0, .int p1, .int p2, .int p3, pu]) hq rfl rfl ?_
  unfold w_159 at k
  refine Ex.seg hq 2 (j := 2) (L' := [.ref 0, .int p1, .int p2, .int p3, pu]) (S' := [.int p2, .int p1]) (h' := hpS s) rfl ?_
  refine Ex.cl hq rfl rfl ?_
  refine Rn.mono (q_162 (d := d + 0) p1 p2 s k) ?_
  rintro _ _ ⟨r2, s1, rfl, rfl, k⟩
  show Ex sc (d + 3) 159 3 [.ref 0, .int p1, .int p2, .int p3, pu] [.int r2] (hpS s1) _
  refine Ex.seg hq 3 (j := 6) (L' := [.ref 0, .int p1, .int p2, .int p3, .int r2]) (S' := [.int (-1 : Int32), .int r2]) (h' := hpS s1) rfl ?_
  refine Ex.i2 hq rfl (fun c => ?_) (fun c => ?_)
  · have k := k.1 c
    refine Ex.seg hq 1 (j := 13) (L' := [.ref 0, .int p1, .int p2, .int p3, .int r2]) (S' := [.int (0 : Int32)]) (h' := hpS s1) rfl ?_
    exact Ex.zr hq rfl rfl (Or.inl rfl) ⟨(0 : Int32), s1, rfl, (Or.inl rfl), rfl, k⟩
  · have k := k.2 c
    refine Ex.seg hq 3 (j := 10) (L' := [.ref 0, .int p1, .int p2, .int p3, .int r2]) (S' := [.int (1073741823 : Int32), .int (0 : Int32), .int p3]) (h' := hpS s1) rfl ?_
    refine Ex.cl hq rfl rfl ?_
    refine Rn.mono (q_181 (d := d + 2) p3 (0 : Int32) (1073741823 : Int32) s1 k) ?_
    rintro _ _ ⟨r4, s3, rfl, hzr4, rfl, k⟩
    show Ex sc (d + 3) 159 11 [.ref 0, .int p1, .int p2, .int p3, .int r2] [.int r4] (hpS s3) _
    refine Ex.i1 hq rfl (fun c => ?_) (fun c => ?_)
    · have k := k.1 c
      refine Ex.seg hq 4 (j := 18) (L' := [.ref 0, .int p1, .int p2, .int p3, .int r2]) (S' := [.int p3, .int r2, .ref 28]) (h' := hpS s3) rfl ?_
      obtain ⟨hin, k⟩ := k
      refine Ex.ias hq rfl rfl hin (h' := hpS (sA s3 28 (upd (s3.2.1 28) (r2).toNatClampNeg p3))) (hset_28 _ _) ?_
      refine Ex.seg hq 1 (j := 20) (L' := [.ref 0, .int p1, .int p2, .int p3, .int r2]) (S' := [.int (1 : Int32)]) (h' := hpS (sA s3 28 (upd (s3.2.1 28) (r2).toNatClampNeg p3))) rfl ?_
      exact Ex.zr hq rfl rfl (Or.inr rfl) ⟨(1 : Int32), (sA s3 28 (upd (s3.2.1 28) (r2).toNatClampNeg p3)), rfl, (Or.inr rfl), rfl, k⟩
    · have k := k.2 c
      refine Ex.seg hq 1 (j := 13) (L' := [.ref 0, .int p1, .int p2, .int p3, .int r2]) (S' := [.int (0 : Int32)]) (h' := hpS s3) rfl ?_
      exact Ex.zr hq rfl rfl (Or.inl rfl) ⟨(0 : Int32), s3, rfl, (Or.inl rfl), rfl, k⟩
def w_163_L27 : Nat → Int32 → Int32 → Int32 → Int32 → Int32 → ST → (Int32 → Int32 → Int32 → ST → Prop) → (Int32 → ST → Prop) → Prop
  | 0, _, _, _, _, _, _, _, _ => False
  | n + 1, x2, x3, x4, x6, x7, s, X44, K => ((x6 ≤ x7 → X44 x2 x3 x4 s) ∧ (¬ (x6 ≤ x7) → (pin x7 36 = true ∧ (((((s.2.1 28) (x7).toNatClampNeg) &&& x2) = 0 → w_163_L27 n x2 x3 x4 x6 (x7 + (1 : Int32)) s X44 K) ∧ (¬ ((((s.2.1 28) (x7).toNatClampNeg) &&& x2) = 0) → w_163_L27 n (x2 ||| ((s.2.1 28) (x7).toNatClampNeg)) x3 x4 x6 (x7 + (1 : Int32)) s X44 K)))))
theorem q_163_L27 {d : Nat} {X44 : Int32 → Int32 → Int32 → ST → Prop} {K : Int32 → ST → Prop} : ∀ (n : Nat) (x2 : Int32) (x3 : Int32) (x4 : Int32) (x6 : Int32) (x7 : Int32) (s : ST), w_163_L27 n x2 x3 x4 x6 x7 s X44 K → (∀ (y2 : Int32) (y3 : Int32) (y4 : Int32) (s : ST), X44 y2 y3 y4 s → Ex sc (d + 1) 163 44 [.ref 0, pu, .int y2, .int y3, .int y4, pu, pu, pu, pu] [] (hpS s) (kI K)) → Ex sc (d + 1) 163 27 [.ref 0, pu, .int x2, .int x3, .int x4, .ref 28, .int x6, .int x7, pu] [] (hpS s) (kI K) := by
  have hq : prog[163]? = some pm163 := rfl
  intro n
  induction n with
  | zero =>
    intro x2 x3 x4 x6 x7 s k
    exact k.elim
  | succ n ih =>
    intro x2 x3 x4 x6 x7 s k hX44
    rw [w_163_L27] at k
    refine Ex.seg hq 2 (j := 29) (L' := [.ref 0, pu, .int x2, .int x3, .int x4, .ref 28, .int x6, .int x7, pu]) (S' := [.int x6, .int x7]) (h' := hpS s) rfl ?_
    refine Ex.i2 hq rfl (fun c => ?_) (fun c => ?_)
    · have k := k.1 c
      refine Ex.fg (L := [.ref 0, pu, .int x2, .int x3, .int x4, pu, pu, pu, pu]) ⟨Or.inl rfl, ⟨Or.inl rfl, ⟨Or.inl rfl, ⟨Or.inl rfl, ⟨Or.inl rfl, ⟨Or.inr ⟨rfl, rfl⟩, ⟨Or.inr ⟨rfl, rfl⟩, ⟨Or.inr ⟨rfl, rfl⟩, ⟨Or.inl rfl, trivial⟩⟩⟩⟩⟩⟩⟩⟩⟩ ?_
      exact hX44 x2 x3 x4 s k
    · have k := k.2 c
      refine Ex.seg hq 2 (j := 32) (L' := [.ref 0, pu, .int x2, .int x3, .int x4, .ref 28, .int x6, .int x7, pu]) (S' := [.int x7, .ref 28]) (h' := hpS s) rfl ?_
      obtain ⟨hin, k⟩ := k
      refine Ex.ial hq rfl rfl hin ?_
      refine Ex.seg hq 4 (j := 37) (L' := [.ref 0, pu, .int x2, .int x3, .int x4, .ref 28, .int x6, .int x7, .int ((s.2.1 28) (x7).toNatClampNeg)]) (S' := [.int (((s.2.1 28) (x7).toNatClampNeg) &&& x2)]) (h' := hpS s) rfl ?_
      refine Ex.i1 hq rfl (fun c => ?_) (fun c => ?_)
      · have k := k.1 c
        refine Ex.seg hq 2 (j := 27) (L' := [.ref 0, pu, .int x2, .int x3, .int x4, .ref 28, .int x6, .int (x7 + (1 : Int32)), .int ((s.2.1 28) (x7).toNatClampNeg)]) (S' := []) (h' := hpS s) rfl ?_
        refine Ex.fg (L := [.ref 0, pu, .int x2, .int x3, .int x4, .ref 28, .int x6, .int (x7 + (1 : Int32)), pu]) ⟨Or.inl rfl, ⟨Or.inl rfl, ⟨Or.inl rfl, ⟨Or.inl rfl, ⟨Or.inl rfl, ⟨Or.inl rfl, ⟨Or.inl rfl, ⟨Or.inl rfl, ⟨Or.inr ⟨rfl, rfl⟩, trivial⟩⟩⟩⟩⟩⟩⟩⟩⟩ ?_
        exact ih x2 x3 x4 x6 (x7 + (1 : Int32)) s k hX44
      · have k := k.2 c
        refine Ex.seg hq 6 (j := 27) (L' := [.ref 0, pu, .int (x2 ||| ((s.2.1 28) (x7).toNatClampNeg)), .int x3, .int x4, .ref 28, .int x6, .int (x7 + (1 : Int32)), .int ((s.2.1 28) (x7).toNatClampNeg)]) (S' := []) (h' := hpS s) rfl ?_
        refine Ex.fg (L := [.ref 0, pu, .int (x2 ||| ((s.2.1 28) (x7).toNatClampNeg)), .int x3, .int x4, .ref 28, .int x6, .int (x7 + (1 : Int32)), pu]) ⟨Or.inl rfl, ⟨Or.inl rfl, ⟨Or.inl rfl, ⟨Or.inl rfl, ⟨Or.inl rfl, ⟨Or.inl rfl, ⟨Or.inl rfl, ⟨Or.inl rfl, ⟨Or.inr ⟨rfl, rfl⟩, trivial⟩⟩⟩⟩⟩⟩⟩⟩⟩ ?_
        exact ih (x2 ||| ((s.2.1 28) (x7).toNatClampNeg)) x3 x4 x6 (x7 + (1 : Int32)) s k hX44
def w_163_L14 : Nat → Int32 → Int32 → ST → (Int32 → ST → Prop) → (Int32 → ST → Prop) → (Int32 → ST → Prop) → Prop
  | 0, _, _, _, _, _, _ => False
  | n + 1, x2, x3, s, X50, X47, K => (((36 : Int32) ≤ x3 → X50 x2 s) ∧ (¬ ((36 : Int32) ≤ x3) → (∃ m, w_163_L27 m x2 x3 x2 (Int32.ofNat 36) (0 : Int32) s (fun y2 y3 y4 s3 => ((¬ y2 = y4 → w_163_L14 n y2 (y3 + (1 : Int32)) s3 X50 X47 K) ∧ (¬ (¬ y2 = y4) → X47 y2 s3))) K)))
theorem q_163_L14 {d : Nat} {X50 : Int32 → ST → Prop} {X47 : Int32 → ST → Prop} {K : Int32 → ST → Prop} : ∀ (n : Nat) (x2 : Int32) (x3 : Int32) (s : ST), w_163_L14 n x2 x3 s X50 X47 K → (∀ (y2 : Int32) (s : ST), X50 y2 s → Ex sc (d + 1) 163 50 [pu, pu, .int y2, pu, pu, pu, pu, pu, pu] [] (hpS s) (kI K)) → (∀ (y2 : Int32) (s : ST), X47 y2 s → Ex sc (d + 1) 163 47 [pu, pu, .int y2, pu, pu, pu, pu, pu, pu] [] (hpS s) (kI K)) → Ex sc (d + 1) 163 14 [.ref 0, pu, .int x2, .int x3, pu, pu, pu, pu, pu] [] (hpS s) (kI K) := by
  have hq : prog[163]? = some pm163 := rfl
  intro n
  induction n with
  | zero =>
    intro x2 x3 s k
    exact k.elim
  | succ n ih =>
    intro x2 x3 s k hX50 hX47
    rw [w_163_L14] at k
    refine Ex.seg hq 2 (j := 16) (L' := [.ref 0, pu, .int x2, .int x3, pu, pu, pu, pu, pu]) (S' := [.int (36 : Int32), .int x3]) (h' := hpS s) rfl ?_
    refine Ex.i2 hq rfl (fun c => ?_) (fun c => ?_)
    · have k := k.1 c
      refine Ex.fg (L := [pu, pu, .int x2, pu, pu, pu, pu, pu, pu]) ⟨Or.inr ⟨rfl, rfl⟩, ⟨Or.inl rfl, ⟨Or.inl rfl, ⟨Or.inr ⟨rfl, rfl⟩, ⟨Or.inl rfl, ⟨Or.inl rfl, ⟨Or.inl rfl, ⟨Or.inl rfl, ⟨Or.inl rfl, trivial⟩⟩⟩⟩⟩⟩⟩⟩⟩ ?_
      exact hX50 x2 s k
    · have k := k.2 c
      refine Ex.seg hq 10 (j := 27) (L' := [.ref 0, pu, .int x2, .int x3, .int x2, .ref 28, .int (Int32.ofNat 36), .int (0 : Int32), pu]) (S' := []) (h' := hpS s) rfl ?_
      obtain ⟨m, k⟩ := k
      refine q_163_L27 (d := d) m x2 x3 x2 (Int32.ofNat 36) (0 : Int32) s k ?_
      · intro y2 y3 y4 s3 k
        refine Ex.seg hq 2 (j := 46) (L' := [.ref 0, pu, .int y2, .int y3, .int y4, pu, pu, pu, pu]) (S' := [.int y4, .int y2]) (h' := hpS s3) rfl ?_
        refine Ex.i2 hq rfl (fun c => ?_) (fun c => ?_)
        · have k := k.1 c
          refine Ex.seg hq 2 (j := 14) (L' := [.ref 0, pu, .int y2, .int (y3 + (1 : Int32)), .int y4, pu, pu, pu, pu]) (S' := []) (h' := hpS s3) rfl ?_
          refine Ex.fg (L := [.ref 0, pu, .int y2, .int (y3 + (1 : Int32)), pu, pu, pu, pu, pu]) ⟨Or.inl rfl, ⟨Or.inl rfl, ⟨Or.inl rfl, ⟨Or.inl rfl, ⟨Or.inr ⟨rfl, rfl⟩, ⟨Or.inl rfl, ⟨Or.inl rfl, ⟨Or.inl rfl, ⟨Or.inl rfl, trivial⟩⟩⟩⟩⟩⟩⟩⟩⟩ ?_
          exact ih y2 (y3 + (1 : Int32)) s3 k hX50 hX47
        · have k := k.2 c
          refine Ex.fg (L := [pu, pu, .int y2, pu, pu, pu, pu, pu, pu]) ⟨Or.inr ⟨rfl, rfl⟩, ⟨Or.inl rfl, ⟨Or.inl rfl, ⟨Or.inr ⟨rfl, rfl⟩, ⟨Or.inr ⟨rfl, rfl⟩, ⟨Or.inl rfl, ⟨Or.inl rfl, ⟨Or.inl rfl, ⟨Or.inl rfl, trivial⟩⟩⟩⟩⟩⟩⟩⟩⟩ ?_
          exact hX47 y2 s3 k
/-- RowAuditor.thingsAround(I)I -/
def w_163 (p1 : Int32) (s : ST) (K : Int32 → ST → Prop) : Prop := w_181 p1 (0 : Int32) (35 : Int32) s (fun r2 s1 => ((r2 = 0 → (∃ m, w_163_L14 m (0 : Int32) (0 : Int32) s1 (fun y2 s4 => K y2 s4) (fun y2 s5 => K y2 s5) K)) ∧ (¬ (r2 = 0) → (pin p1 36 = true ∧ (∃ m, w_163_L14 m ((s1.2.1 28) (p1).toNatClampNeg) (0 : Int32) s1 (fun y2 s6 => K y2 s6) (fun y2 s7 => K y2 s7) K)))))
theorem q_163 {d : Nat} {K : Int32 → ST → Prop} (p1 : Int32) (s : ST) (k : w_163 p1 s K) : Rn sc (d + 1) 163 [.ref 0, .int p1] (hpS s) (kI K) := by
  have hq : prog[163]? = some pm163 := rfl
  refine Rn.of (L := [.ref 0, .int p1, pu, pu, pu, pu, pu, pu, pu]) hq rfl rfl ?_
  unfold w_163 at k
  refine Ex.seg hq 3 (j := 3) (L' := [.ref 0, .int p1, pu, pu, pu, pu, pu, pu, pu]) (S' := [.int (35 : Int32), .int (0 : Int32), .int p1]) (h' := hpS s) rfl ?_
  refine Ex.cl hq rfl rfl ?_
  refine Rn.mono (q_181 (d := d + 0) p1 (0 : Int32) (35 : Int32) s k) ?_
  rintro _ _ ⟨r2, s1, rfl, hzr2, rfl, k⟩
  show Ex sc (d + 1) 163 4 [.ref 0, .int p1, pu, pu, pu, pu, pu, pu, pu] [.int r2] (hpS s1) _
  refine Ex.i1 hq rfl (fun c => ?_) (fun c => ?_)
  · have k := k.1 c
    refine Ex.seg hq 4 (j := 14) (L' := [.ref 0, .int p1, .int (0 : Int32), .int (0 : Int32), pu, pu, pu, pu, pu]) (S' := []) (h' := hpS s1) rfl ?_
    obtain ⟨m, k⟩ := k
    refine Ex.fg (L := [.ref 0, pu, .int (0 : Int32), .int (0 : Int32), pu, pu, pu, pu, pu]) ⟨Or.inl rfl, ⟨Or.inr ⟨rfl, rfl⟩, ⟨Or.inl rfl, ⟨Or.inl rfl, ⟨Or.inl rfl, ⟨Or.inl rfl, ⟨Or.inl rfl, ⟨Or.inl rfl, ⟨Or.inl rfl, trivial⟩⟩⟩⟩⟩⟩⟩⟩⟩ ?_
    refine q_163_L14 (d := d) m (0 : Int32) (0 : Int32) s1 k ?_ ?_
    · intro y2 s4 k
      refine Ex.seg hq 1 (j := 51) (L' := [pu, pu, .int y2, pu, pu, pu, pu, pu, pu]) (S' := [.int y2]) (h' := hpS s4) rfl ?_
      exact Ex.rt hq rfl rfl ⟨y2, s4, rfl, rfl, k⟩
    · intro y2 s5 k
      refine Ex.seg hq 2 (j := 51) (L' := [pu, pu, .int y2, pu, pu, pu, pu, pu, pu]) (S' := [.int y2]) (h' := hpS s5) rfl ?_
      exact Ex.rt hq rfl rfl ⟨y2, s5, rfl, rfl, k⟩
  · have k := k.2 c
    refine Ex.seg hq 3 (j := 8) (L' := [.ref 0, .int p1, pu, pu, pu, pu, pu, pu, pu]) (S' := [.int p1, .ref 28]) (h' := hpS s1) rfl ?_
    obtain ⟨hin, k⟩ := k
    refine Ex.ial hq rfl rfl hin ?_
    refine Ex.seg hq 4 (j := 14) (L' := [.ref 0, .int p1, .int ((s1.2.1 28) (p1).toNatClampNeg), .int (0 : Int32), pu, pu, pu, pu, pu]) (S' := []) (h' := hpS s1) rfl ?_
    obtain ⟨m, k⟩ := k
    refine Ex.fg (L := [.ref 0, pu, .int ((s1.2.1 28) (p1).toNatClampNeg), .int (0 : Int32), pu, pu, pu, pu, pu]) ⟨Or.inl rfl, ⟨Or.inr ⟨rfl, rfl⟩, ⟨Or.inl rfl, ⟨Or.inl rfl, ⟨Or.inl rfl, ⟨Or.inl rfl, ⟨Or.inl rfl, ⟨Or.inl rfl, ⟨Or.inl rfl, trivial⟩⟩⟩⟩⟩⟩⟩⟩⟩ ?_
    refine q_163_L14 (d := d) m ((s1.2.1 28) (p1).toNatClampNeg) (0 : Int32) s1 k ?_ ?_
    · intro y2 s6 k
      refine Ex.seg hq 1 (j := 51) (L' := [pu, pu, .int y2, pu, pu, pu, pu, pu, pu]) (S' := [.int y2]) (h' := hpS s6) rfl ?_
      exact Ex.rt hq rfl rfl ⟨y2, s6, rfl, rfl, k⟩
    · intro y2 s7 k
      refine Ex.seg hq 2 (j := 51) (L' := [pu, pu, .int y2, pu, pu, pu, pu, pu, pu]) (S' := [.int y2]) (h' := hpS s7) rfl ?_
      exact Ex.rt hq rfl rfl ⟨y2, s7, rfl, rfl, k⟩
/-- RowAuditor.behind(IZIZ)I -/
def w_160 (p1 : Int32) (p2 : Int32) (p3 : Int32) (p4 : Int32) (s : ST) (K : Int32 → ST → Prop) : Prop := w_162 p1 p2 s (fun r2 s1 => w_162 p3 p4 s1 (fun r4 s3 => ((r2 = (-1 : Int32) → K (-1 : Int32) s3) ∧ (¬ (r2 = (-1 : Int32)) → ((¬ r4 = (-1 : Int32) → ((r2 = r4 → K (1 : Int32) s3) ∧ (¬ (r2 = r4) → w_163 r2 s3 (fun r6 s5 => (pin r4 36 = true ∧ (((r6 &&& ((s5.2.1 28) (r4).toNatClampNeg)) = 0 → K (0 : Int32) s5) ∧ (¬ ((r6 &&& ((s5.2.1 28) (r4).toNatClampNeg)) = 0) → K (1 : Int32) s5))))))) ∧ (¬ (¬ r4 = (-1 : Int32)) → K (-1 : Int32) s3))))))
theorem q_160 {d : Nat} {K : Int32 → ST → Prop} (p1 : Int32) (p2 : Int32) (p3 : Int32) (p4 : Int32) (s : ST) (k : w_160 p1 p2 p3 p4 s K) : Rn sc (d + 3) 160 [.ref 0, .int p1, .int p2, .int p3, .int p4] (hpS s) (kI K) := by
  have hq : prog[160]? = some pm160 := rfl
  refine Rn.of (L := [.ref 0, .int p1, .int p2, .int p3, .int p4, pu, pu]) hq rfl rfl ?_
  unfold w_160 at k
  refine Ex.seg hq 2 (j := 2) (L' := [.ref 0, .int p1, .int p2, .int p3, .int p4, pu, pu]) (S' := [.int p2, .int p1]) (h' := hpS s) rfl ?_
  refine Ex.cl hq rfl rfl ?_
  refine Rn.mono (q_162 (d := d + 0) p1 p2 s k) ?_
  rintro _ _ ⟨r2, s1, rfl, rfl, k⟩
  show Ex sc (d + 3) 160 3 [.ref 0, .int p1, .int p2, .int p3, .int p4, pu, pu] [.int r2] (hpS s1) _
  refine Ex.seg hq 3 (j := 6) (L' := [.ref 0, .int p1, .int p2, .int p3, .int p4, .int r2, pu]) (S' := [.int p4, .int p3]) (h' := hpS s1) rfl ?_
  refine Ex.cl hq rfl rfl ?_
  refine Rn.mono (q_162 (d := d + 0) p3 p4 s1 k) ?_
  rintro _ _ ⟨r4, s3, rfl, rfl, k⟩
  show Ex sc (d + 3) 160 7 [.ref 0, .int p1, .int p2, .int p3, .int p4, .int r2, pu] [.int r4] (hpS s3) _
  refine Ex.seg hq 3 (j := 10) (L' := [.ref 0, .int p1, .int p2, .int p3, .int p4, .int r2, .int r4]) (S' := [.int (-1 : Int32), .int r2]) (h' := hpS s3) rfl ?_
  refine Ex.i2 hq rfl (fun c => ?_) (fun c => ?_)
  · have k := k.1 c
    refine Ex.seg hq 1 (j := 15) (L' := [.ref 0, .int p1, .int p2, .int p3, .int p4, .int r2, .int r4]) (S' := [.int (-1 : Int32)]) (h' := hpS s3) rfl ?_
    exact Ex.rt hq rfl rfl ⟨(-1 : Int32), s3, rfl, rfl, k⟩
  · have k := k.2 c
    refine Ex.seg hq 2 (j := 13) (L' := [.ref 0, .int p1, .int p2, .int p3, .int p4, .int r2, .int r4]) (S' := [.int (-1 : Int32), .int r4]) (h' := hpS s3) rfl ?_
    refine Ex.i2 hq rfl (fun c => ?_) (fun c => ?_)
    · have k := k.1 c
      refine Ex.seg hq 2 (j := 18) (L' := [.ref 0, .int p1, .int p2, .int p3, .int p4, .int r2, .int r4]) (S' := [.int r4, .int r2]) (h' := hpS s3) rfl ?_
      refine Ex.i2 hq rfl (fun c => ?_) (fun c => ?_)
      · have k := k.1 c
        refine Ex.seg hq 2 (j := 31) (L' := [.ref 0, .int p1, .int p2, .int p3, .int p4, .int r2, .int r4]) (S' := [.int (1 : Int32)]) (h' := hpS s3) rfl ?_
        exact Ex.rt hq rfl rfl ⟨(1 : Int32), s3, rfl, rfl, k⟩
      · have k := k.2 c
        refine Ex.seg hq 2 (j := 21) (L' := [.ref 0, .int p1, .int p2, .int p3, .int p4, .int r2, .int r4]) (S' := [.int r2, .ref 0]) (h' := hpS s3) rfl ?_
        refine Ex.cl hq rfl rfl ?_
        refine Rn.mono (q_163 (d := d + 1) r2 s3 k) ?_
        rintro _ _ ⟨r6, s5, rfl, rfl, k⟩
        show Ex sc (d + 3) 160 22 [.ref 0, .int p1, .int p2, .int p3, .int p4, .int r2, .int r4] [.int r6] (hpS s5) _
        refine Ex.seg hq 3 (j := 25) (L' := [.ref 0, .int p1, .int p2, .int p3, .int p4, .int r2, .int r4]) (S' := [.int r4, .ref 28, .int r6]) (h' := hpS s5) rfl ?_
        obtain ⟨hin, k⟩ := k
        refine Ex.ial hq rfl rfl hin ?_
        refine Ex.seg hq 1 (j := 27) (L' := [.ref 0, .int p1, .int p2, .int p3, .int p4, .int r2, .int r4]) (S' := [.int (r6 &&& ((s5.2.1 28) (r4).toNatClampNeg))]) (h' := hpS s5) rfl ?_
        refine Ex.i1 hq rfl (fun c => ?_) (fun c => ?_)
        · have k := k.1 c
          refine Ex.seg hq 1 (j := 31) (L' := [.ref 0, .int p1, .int p2, .int p3, .int p4, .int r2, .int r4]) (S' := [.int (0 : Int32)]) (h' := hpS s5) rfl ?_
          exact Ex.rt hq rfl rfl ⟨(0 : Int32), s5, rfl, rfl, k⟩
        · have k := k.2 c
          refine Ex.seg hq 2 (j := 31) (L' := [.ref 0, .int p1, .int p2, .int p3, .int p4, .int r2, .int r4]) (S' := [.int (1 : Int32)]) (h' := hpS s5) rfl ?_
          exact Ex.rt hq rfl rfl ⟨(1 : Int32), s5, rfl, rfl, k⟩
    · have k := k.2 c
      refine Ex.seg hq 1 (j := 15) (L' := [.ref 0, .int p1, .int p2, .int p3, .int p4, .int r2, .int r4]) (S' := [.int (-1 : Int32)]) (h' := hpS s3) rfl ?_
      exact Ex.rt hq rfl rfl ⟨(-1 : Int32), s3, rfl, rfl, k⟩
def w_161_L21 : Nat → Int32 → Int32 → Int32 → ST → (Int32 → ST → Prop) → (Int32 → ST → Prop) → Prop
  | 0, _, _, _, _, _, _ => False
  | n + 1, x2, x3, x4, s, X70, K => (((s.1 801) ≤ x4 → X70 x3 s) ∧ (¬ ((s.1 801) ≤ x4) → w_123 x4 s (fun r10 s9 => w_15 r10 s9 (fun r12 s11 => w_162 r12 (1 : Int32) s11 (fun r14 s13 => ((r14 = (-1 : Int32) → w_161_L21 n x2 x3 (x4 + (1 : Int32)) s13 X70 K) ∧ (¬ (r14 = (-1 : Int32)) → (pin r14 36 = true ∧ (((((s13.2.1 28) (r14).toNatClampNeg) &&& x2) = 0 → w_161_L21 n x2 x3 (x4 + (1 : Int32)) s13 X70 K) ∧ (¬ ((((s13.2.1 28) (r14).toNatClampNeg) &&& x2) = 0) → w_9 r10 (0 : Int32) s13 (fun r16 s15 => ((¬ r16 = (1 : Int32) → w_119 r10 s15 (fun r18 s17 => w_161_L21 n x2 (x3 + (-r18)) (x4 + (1 : Int32)) s17 X70 K)) ∧ (¬ (¬ r16 = (1 : Int32)) → w_119 r10 s15 (fun r20 s19 => w_161_L21 n x2 (x3 + r20) (x4 + (1 : Int32)) s19 X70 K))))))))))))))
theorem q_161_L21 {d : Nat} {X70 : Int32 → ST → Prop} {K : Int32 → ST → Prop} : ∀ (n : Nat) (x2 : Int32) (x3 : Int32) (x4 : Int32) (s : ST), w_161_L21 n x2 x3 x4 s X70 K → (∀ (y3 : Int32) (s : ST), X70 y3 s → Ex sc (d + 5) 161 70 [pu, pu, pu, .int y3, pu, pu, pu] [] (hpS s) (kI K)) → Ex sc (d + 5) 161 21 [.ref 0, pu, .int x2, .int x3, .int x4, pu, pu] [] (hpS s) (kI K) := by
  have hq : prog[161]? = some pm161 := rfl
  intro n
  induction n with
  | zero =>
    intro x2 x3 x4 s k
    exact k.elim
  | succ n ih =>
    intro x2 x3 x4 s k hX70
    rw [w_161_L21] at k
    refine Ex.seg hq 4 (j := 25) (L' := [.ref 0, pu, .int x2, .int x3, .int x4, pu, pu]) (S' := [.int (s.1 801), .int x4]) (h' := hpS s) rfl ?_
    refine Ex.i2 hq rfl (fun c => ?_) (fun c => ?_)
    · have k := k.1 c
      refine Ex.fg (L := [pu, pu, pu, .int x3, pu, pu, pu]) ⟨Or.inr ⟨rfl, rfl⟩, ⟨Or.inl rfl, ⟨Or.inr ⟨rfl, rfl⟩, ⟨Or.inl rfl, ⟨Or.inr ⟨rfl, rfl⟩, ⟨Or.inl rfl, ⟨Or.inl rfl, trivial⟩⟩⟩⟩⟩⟩⟩ ?_
      exact hX70 x3 s k
    · have k := k.2 c
      refine Ex.seg hq 3 (j := 29) (L' := [.ref 0, pu, .int x2, .int x3, .int x4, pu, pu]) (S' := [.int x4, .ref 8]) (h' := hpS s) rfl ?_
      refine Ex.cl hq rfl rfl ?_
      refine Rn.mono (q_123 (d := d + 4) x4 s k) ?_
      rintro _ _ ⟨r10, s9, rfl, rfl, k⟩
      show Ex sc (d + 5) 161 30 [.ref 0, pu, .int x2, .int x3, .int x4, pu, pu] [.int r10] (hpS s9) _
      refine Ex.seg hq 4 (j := 34) (L' := [.ref 0, pu, .int x2, .int x3, .int x4, .int r10, pu]) (S' := [.int r10, .ref 1]) (h' := hpS s9) rfl ?_
      refine Ex.cl hq rfl rfl ?_
      refine Rn.mono (q_15 (d := d + 3) r10 s9 k) ?_
      rintro _ _ ⟨r12, s11, rfl, rfl, k⟩
      show Ex sc (d + 5) 161 35 [.ref 0, pu, .int x2, .int x3, .int x4, .int r10, pu] [.int r12] (hpS s11) _
      refine Ex.seg hq 1 (j := 36) (L' := [.ref 0, pu, .int x2, .int x3, .int x4, .int r10, pu]) (S' := [.int (1 : Int32), .int r12]) (h' := hpS s11) rfl ?_
      refine Ex.cl hq rfl rfl ?_
      refine Rn.mono (q_162 (d := d + 2) r12 (1 : Int32) s11 k) ?_
      rintro _ _ ⟨r14, s13, rfl, rfl, k⟩
      show Ex sc (d + 5) 161 37 [.ref 0, pu, .int x2, .int x3, .int x4, .int r10, pu] [.int r14] (hpS s13) _
      refine Ex.seg hq 3 (j := 40) (L' := [.ref 0, pu, .int x2, .int x3, .int x4, .int r10, .int r14]) (S' := [.int (-1 : Int32), .int r14]) (h' := hpS s13) rfl ?_
      refine Ex.i2 hq rfl (fun c => ?_) (fun c => ?_)
      · have k := k.1 c
        refine Ex.seg hq 2 (j := 21) (L' := [.ref 0, pu, .int x2, .int x3, .int (x4 + (1 : Int32)), .int r10, .int r14]) (S' := []) (h' := hpS s13) rfl ?_
        refine Ex.fg (L := [.ref 0, pu, .int x2, .int x3, .int (x4 + (1 : Int32)), pu, pu]) ⟨Or.inl rfl, ⟨Or.inl rfl, ⟨Or.inl rfl, ⟨Or.inl rfl, ⟨Or.inl rfl, ⟨Or.inr ⟨rfl, rfl⟩, ⟨Or.inr ⟨rfl, rfl⟩, trivial⟩⟩⟩⟩⟩⟩⟩ ?_
        exact ih x2 x3 (x4 + (1 : Int32)) s13 k hX70
      · have k := k.2 c
        refine Ex.seg hq 3 (j := 44) (L' := [.ref 0, pu, .int x2, .int x3, .int x4, .int r10, .int r14]) (S' := [.int r14, .ref 28]) (h' := hpS s13) rfl ?_
        obtain ⟨hin, k⟩ := k
        refine Ex.ial hq rfl rfl hin ?_
        refine Ex.seg hq 2 (j := 47) (L' := [.ref 0, pu, .int x2, .int x3, .int x4, .int r10, .int r14]) (S' := [.int (((s13.2.1 28) (r14).toNatClampNeg) &&& x2)]) (h' := hpS s13) rfl ?_
        refine Ex.i1 hq rfl (fun c => ?_) (fun c => ?_)
        · have k := k.1 c
          refine Ex.seg hq 2 (j := 21) (L' := [.ref 0, pu, .int x2, .int x3, .int (x4 + (1 : Int32)), .int r10, .int r14]) (S' := []) (h' := hpS s13) rfl ?_
          refine Ex.fg (L := [.ref 0, pu, .int x2, .int x3, .int (x4 + (1 : Int32)), pu, pu]) ⟨Or.inl rfl, ⟨Or.inl rfl, ⟨Or.inl rfl, ⟨Or.inl rfl, ⟨Or.inl rfl, ⟨Or.inr ⟨rfl, rfl⟩, ⟨Or.inr ⟨rfl, rfl⟩, trivial⟩⟩⟩⟩⟩⟩⟩ ?_
          exact ih x2 x3 (x4 + (1 : Int32)) s13 k hX70
        · have k := k.2 c
          refine Ex.seg hq 5 (j := 53) (L' := [.ref 0, pu, .int x2, .int x3, .int x4, .int r10, .int r14]) (S' := [.int (0 : Int32), .int r10, .ref 1, .int x3]) (h' := hpS s13) rfl ?_
          refine Ex.cl hq rfl rfl ?_
          refine Rn.mono (q_9 (d := d + 4) r10 (0 : Int32) s13 k) ?_
          rintro _ _ ⟨r16, s15, rfl, rfl, k⟩
          show Ex sc (d + 5) 161 54 [.ref 0, pu, .int x2, .int x3, .int x4, .int r10, .int r14] [.int r16, .int x3] (hpS s15) _
          refine Ex.seg hq 1 (j := 55) (L' := [.ref 0, pu, .int x2, .int x3, .int x4, .int r10, .int r14]) (S' := [.int (1 : Int32), .int r16, .int x3]) (h' := hpS s15) rfl ?_
          refine Ex.i2 hq rfl (fun c => ?_) (fun c => ?_)
          · have k := k.1 c
            refine Ex.seg hq 3 (j := 64) (L' := [.ref 0, pu, .int x2, .int x3, .int x4, .int r10, .int r14]) (S' := [.int r10, .ref 8, .int x3]) (h' := hpS s15) rfl ?_
            refine Ex.cl hq rfl rfl ?_
            refine Rn.mono (q_119 (d := d + 4) r10 s15 k) ?_
            rintro _ _ ⟨r18, s17, rfl, rfl, k⟩
            show Ex sc (d + 5) 161 65 [.ref 0, pu, .int x2, .int x3, .int x4, .int r10, .int r14] [.int r18, .int x3] (hpS s17) _
            refine Ex.seg hq 5 (j := 21) (L' := [.ref 0, pu, .int x2, .int (x3 + (-r18)), .int (x4 + (1 : Int32)), .int r10, .int r14]) (S' := []) (h' := hpS s17) rfl ?_
            refine Ex.fg (L := [.ref 0, pu, .int x2, .int (x3 + (-r18)), .int (x4 + (1 : Int32)), pu, pu]) ⟨Or.inl rfl, ⟨Or.inl rfl, ⟨Or.inl rfl, ⟨Or.inl rfl, ⟨Or.inl rfl, ⟨Or.inr ⟨rfl, rfl⟩, ⟨Or.inr ⟨rfl, rfl⟩, trivial⟩⟩⟩⟩⟩⟩⟩ ?_
            exact ih x2 (x3 + (-r18)) (x4 + (1 : Int32)) s17 k hX70
          · have k := k.2 c
            refine Ex.seg hq 3 (j := 59) (L' := [.ref 0, pu, .int x2, .int x3, .int x4, .int r10, .int r14]) (S' := [.int r10, .ref 8, .int x3]) (h' := hpS s15) rfl ?_
            refine Ex.cl hq rfl rfl ?_
            refine Rn.mono (q_119 (d := d + 4) r10 s15 k) ?_
            rintro _ _ ⟨r20, s19, rfl, rfl, k⟩
            show Ex sc (d + 5) 161 60 [.ref 0, pu, .int x2, .int x3, .int x4, .int r10, .int r14] [.int r20, .int x3] (hpS s19) _
            refine Ex.seg hq 5 (j := 21) (L' := [.ref 0, pu, .int x2, .int (x3 + r20), .int (x4 + (1 : Int32)), .int r10, .int r14]) (S' := []) (h' := hpS s19) rfl ?_
            refine Ex.fg (L := [.ref 0, pu, .int x2, .int (x3 + r20), .int (x4 + (1 : Int32)), pu, pu]) ⟨Or.inl rfl, ⟨Or.inl rfl, ⟨Or.inl rfl, ⟨Or.inl rfl, ⟨Or.inl rfl, ⟨Or.inr ⟨rfl, rfl⟩, ⟨Or.inr ⟨rfl, rfl⟩, trivial⟩⟩⟩⟩⟩⟩⟩ ?_
            exact ih x2 (x3 + r20) (x4 + (1 : Int32)) s19 k hX70
/-- RowAuditor.grown(I)I -/
def w_161 (p1 : Int32) (s : ST) (K : Int32 → ST → Prop) : Prop := w_183 p1 s (fun r2 s1 => ((¬ r2 = 0 → w_162 p1 (0 : Int32) s1 (fun r4 s3 => w_163 r4 s3 (fun r6 s5 => w_111 (s5.1 100) s5 (fun s7 => (∃ m, w_161_L21 m r6 (0 : Int32) (0 : Int32) s7 (fun y3 s21 => K y3 s21) K))))) ∧ (¬ (¬ r2 = 0) → K (-1000000000 : Int32) s1)))
theorem q_161 {d : Nat} {K : Int32 → ST → Prop} (p1 : Int32) (s : ST) (k : w_161 p1 s K) : Rn sc (d + 5) 161 [.ref 0, .int p1] (hpS s) (kI K) := by
  have hq : prog[161]? = some pm161 := rfl
  refine Rn.of (L := [.ref 0, .int p1, pu, pu, pu, pu, pu]) hq rfl rfl ?_
  unfold w_161 at k
  refine Ex.seg hq 1 (j := 1) (L' := [.ref 0, .int p1, pu, pu, pu, pu, pu]) (S' := [.int p1]) (h' := hpS s) rfl ?_
  refine Ex.cl hq rfl rfl ?_
  refine Rn.mono (q_183 (d := d + 3) p1 s k) ?_
  rintro _ _ ⟨r2, s1, rfl, hzr2, rfl, k⟩
  show Ex sc (d + 5) 161 2 [.ref 0, .int p1, pu, pu, pu, pu, pu] [.int r2] (hpS s1) _
  refine Ex.i1 hq rfl (fun c => ?_) (fun c => ?_)
  · have k := k.1 c
    refine Ex.seg hq 3 (j := 8) (L' := [.ref 0, .int p1, pu, pu, pu, pu, pu]) (S' := [.int (0 : Int32), .int p1, .ref 0]) (h' := hpS s1) rfl ?_
    refine Ex.cl hq rfl rfl ?_
    refine Rn.mono (q_162 (d := d + 2) p1 (0 : Int32) s1 k) ?_
    rintro _ _ ⟨r4, s3, rfl, rfl, k⟩
    show Ex sc (d + 5) 161 9 [.ref 0, .int p1, pu, pu, pu, pu, pu] [.int r4, .ref 0] (hpS s3) _
    refine Ex.cl hq rfl rfl ?_
    refine Rn.mono (q_163 (d := d + 3) r4 s3 k) ?_
    rintro _ _ ⟨r6, s5, rfl, rfl, k⟩
    show Ex sc (d + 5) 161 10 [.ref 0, .int p1, pu, pu, pu, pu, pu] [.int r6] (hpS s5) _
    refine Ex.seg hq 6 (j := 16) (L' := [.ref 0, .int p1, .int r6, pu, pu, pu, pu]) (S' := [.int (s5.1 100), .ref 8]) (h' := hpS s5) rfl ?_
    refine Ex.cl hq rfl rfl ?_
    refine Rn.mono (q_111 (d := d + 0) (s5.1 100) s5 k) ?_
    rintro _ _ ⟨s7, rfl, rfl, k⟩
    show Ex sc (d + 5) 161 17 [.ref 0, .int p1, .int r6, pu, pu, pu, pu] [] (hpS s7) _
    refine Ex.seg hq 4 (j := 21) (L' := [.ref 0, .int p1, .int r6, .int (0 : Int32), .int (0 : Int32), pu, pu]) (S' := []) (h' := hpS s7) rfl ?_
    obtain ⟨m, k⟩ := k
    refine Ex.fg (L := [.ref 0, pu, .int r6, .int (0 : Int32), .int (0 : Int32), pu, pu]) ⟨Or.inl rfl, ⟨Or.inr ⟨rfl, rfl⟩, ⟨Or.inl rfl, ⟨Or.inl rfl, ⟨Or.inl rfl, ⟨Or.inl rfl, ⟨Or.inl rfl, trivial⟩⟩⟩⟩⟩⟩⟩ ?_
    refine q_161_L21 (d := d) m r6 (0 : Int32) (0 : Int32) s7 k ?_
    · intro y3 s21 k
      refine Ex.seg hq 1 (j := 71) (L' := [pu, pu, pu, .int y3, pu, pu, pu]) (S' := [.int y3]) (h' := hpS s21) rfl ?_
      exact Ex.rt hq rfl rfl ⟨y3, s21, rfl, rfl, k⟩
  · have k := k.2 c
    refine Ex.seg hq 1 (j := 4) (L' := [.ref 0, .int p1, pu, pu, pu, pu, pu]) (S' := [.int (-1000000000 : Int32)]) (h' := hpS s1) rfl ?_
    exact Ex.rt hq rfl rfl ⟨(-1000000000 : Int32), s1, rfl, rfl, k⟩
def w_166_L2 : Nat → Int32 → Int32 → Int32 → ST → (ST → Prop) → (ST → Prop) → (Int32 → ST → Prop) → Prop
  | 0, _, _, _, _, _, _, _ => False
  | n + 1, x1, x2, x3, s, X18, X14, K => ((x2 ≤ x3 → X18  s) ∧ (¬ (x2 ≤ x3) → (((50 : Int32) ≤ x3 → X18  s) ∧ (¬ ((50 : Int32) ≤ x3) → (pin x3 50 = true ∧ ((¬ ((s.2.1 33) (x3).toNatClampNeg) = x1 → w_166_L2 n x1 x2 (x3 + (1 : Int32)) s X18 X14 K) ∧ (¬ (¬ ((s.2.1 33) (x3).toNatClampNeg) = x1) → X14  s)))))))
theorem q_166_L2 {d : Nat} {X18 : ST → Prop} {X14 : ST → Prop} {K : Int32 → ST → Prop} : ∀ (n : Nat) (x1 : Int32) (x2 : Int32) (x3 : Int32) (s : ST), w_166_L2 n x1 x2 x3 s X18 X14 K → (∀ (s : ST), X18  s → Ex sc (d + 0) 166 18 [pu, pu, pu, pu] [] (hpS s) (kZ K)) → (∀ (s : ST), X14  s → Ex sc (d + 0) 166 14 [pu, pu, pu, pu] [] (hpS s) (kZ K)) → Ex sc (d + 0) 166 2 [.ref 0, .int x1, .int x2, .int x3] [] (hpS s) (kZ K) := by
  have hq : prog[166]? = some pm166 := rfl
  intro n
  induction n with
  | zero =>
    intro x1 x2 x3 s k
    exact k.elim
  | succ n ih =>
    intro x1 x2 x3 s k hX18 hX14
    rw [w_166_L2] at k
    refine Ex.seg hq 2 (j := 4) (L' := [.ref 0, .int x1, .int x2, .int x3]) (S' := [.int x2, .int x3]) (h' := hpS s) rfl ?_
    refine Ex.i2 hq rfl (fun c => ?_) (fun c => ?_)
    · have k := k.1 c
      refine Ex.fg (L := [pu, pu, pu, pu]) ⟨Or.inr ⟨rfl, rfl⟩, ⟨Or.inr ⟨rfl, rfl⟩, ⟨Or.inr ⟨rfl, rfl⟩, ⟨Or.inr ⟨rfl, rfl⟩, trivial⟩⟩⟩⟩ ?_
      exact hX18  s k
    · have k := k.2 c
      refine Ex.seg hq 2 (j := 7) (L' := [.ref 0, .int x1, .int x2, .int x3]) (S' := [.int (50 : Int32), .int x3]) (h' := hpS s) rfl ?_
      refine Ex.i2 hq rfl (fun c => ?_) (fun c => ?_)
      · have k := k.1 c
        refine Ex.fg (L := [pu, pu, pu, pu]) ⟨Or.inr ⟨rfl, rfl⟩, ⟨Or.inr ⟨rfl, rfl⟩, ⟨Or.inr ⟨rfl, rfl⟩, ⟨Or.inr ⟨rfl, rfl⟩, trivial⟩⟩⟩⟩ ?_
        exact hX18  s k
      · have k := k.2 c
        refine Ex.seg hq 3 (j := 11) (L' := [.ref 0, .int x1, .int x2, .int x3]) (S' := [.int x3, .ref 33]) (h' := hpS s) rfl ?_
        obtain ⟨hin, k⟩ := k
        refine Ex.ial hq rfl rfl hin ?_
        refine Ex.seg hq 1 (j := 13) (L' := [.ref 0, .int x1, .int x2, .int x3]) (S' := [.int x1, .int ((s.2.1 33) (x3).toNatClampNeg)]) (h' := hpS s) rfl ?_
        refine Ex.i2 hq rfl (fun c => ?_) (fun c => ?_)
        · have k := k.1 c
          refine Ex.seg hq 2 (j := 2) (L' := [.ref 0, .int x1, .int x2, .int (x3 + (1 : Int32))]) (S' := []) (h' := hpS s) rfl ?_
          exact ih x1 x2 (x3 + (1 : Int32)) s k hX18 hX14
        · have k := k.2 c
          refine Ex.fg (L := [pu, pu, pu, pu]) ⟨Or.inr ⟨rfl, rfl⟩, ⟨Or.inr ⟨rfl, rfl⟩, ⟨Or.inr ⟨rfl, rfl⟩, ⟨Or.inr ⟨rfl, rfl⟩, trivial⟩⟩⟩⟩ ?_
          exact hX14  s k
/-- RowAuditor.isDrawn(II)Z -/
def w_166 (p1 : Int32) (p2 : Int32) (s : ST) (K : Int32 → ST → Prop) : Prop := (∃ m, w_166_L2 m p1 p2 (0 : Int32) s (fun s1 => K (0 : Int32) s1) (fun s2 => K (1 : Int32) s2) K)
theorem q_166 {d : Nat} {K : Int32 → ST → Prop} (p1 : Int32) (p2 : Int32) (s : ST) (k : w_166 p1 p2 s K) : Rn sc (d + 0) 166 [.ref 0, .int p1, .int p2] (hpS s) (kZ K) := by
  have hq : prog[166]? = some pm166 := rfl
  refine Rn.of (L := [.ref 0, .int p1, .int p2, pu]) hq rfl rfl ?_
  unfold w_166 at k
  refine Ex.seg hq 2 (j := 2) (L' := [.ref 0, .int p1, .int p2, .int (0 : Int32)]) (S' := []) (h' := hpS s) rfl ?_
  obtain ⟨m, k⟩ := k
  refine q_166_L2 (d := d) m p1 p2 (0 : Int32) s k ?_ ?_
  · intro s1 k
    refine Ex.seg hq 1 (j := 19) (L' := [pu, pu, pu, pu]) (S' := [.int (0 : Int32)]) (h' := hpS s1) rfl ?_
    exact Ex.zr hq rfl rfl (Or.inl rfl) ⟨(0 : Int32), s1, rfl, (Or.inl rfl), rfl, k⟩
  · intro s2 k
    refine Ex.seg hq 1 (j := 15) (L' := [pu, pu, pu, pu]) (S' := [.int (1 : Int32)]) (h' := hpS s2) rfl ?_
    exact Ex.zr hq rfl rfl (Or.inr rfl) ⟨(1 : Int32), s2, rfl, (Or.inr rfl), rfl, k⟩
def w_165_L11 : Nat → Int32 → Int32 → Int32 → Int64 → Int32 → ST → (Int32 → Int64 → ST → Prop) → (Int32 → ST → Prop) → Prop
  | 0, _, _, _, _, _, _, _, _ => False
  | n + 1, x1, x3, x4, x5, x7, s, X48, K => ((x1 ≤ x7 → X48 x3 x5 s) ∧ (¬ (x1 ≤ x7) → (¬ (65536 : Int64) = 0 ∧ w_125 ((((((((25173 : Int32) * x4) + (13849 : Int32)) &&& (65535 : Int32))).toInt64) * x5) / (65536 : Int64)) s (fun r4 s3 => w_166 r4 x3 s3 (fun r6 s5 => ((¬ r6 = 0 → w_165_L11 n x1 x3 ((((25173 : Int32) * x4) + (13849 : Int32)) &&& (65535 : Int32)) x5 (x7 + (1 : Int32)) s5 X48 K) ∧ (¬ (¬ r6 = 0) → (((50 : Int32) ≤ x3 → w_165_L11 n x1 x3 ((((25173 : Int32) * x4) + (13849 : Int32)) &&& (65535 : Int32)) x5 (x7 + (1 : Int32)) s5 X48 K) ∧ (¬ ((50 : Int32) ≤ x3) → (pin x3 50 = true ∧ w_165_L11 n x1 (x3 + (1 : Int32)) ((((25173 : Int32) * x4) + (13849 : Int32)) &&& (65535 : Int32)) x5 (x7 + (1 : Int32)) (sA s5 33 (upd (s5.2.1 33) (x3).toNatClampNeg r4)) X48 K))))))))))
theorem q_165_L11 {d : Nat} {X48 : Int32 → Int64 → ST → Prop} {K : Int32 → ST → Prop} : ∀ (n : Nat) (x1 : Int32) (x3 : Int32) (x4 : Int32) (x5 : Int64) (x7 : Int32) (s : ST), w_165_L11 n x1 x3 x4 x5 x7 s X48 K → (∀ (y3 : Int32) (y5 : Int64) (s : ST), X48 y3 y5 s → Ex sc (d + 2) 165 48 [pu, pu, pu, .int y3, pu, .long y5, pu, pu, pu] [] (hpS s) (kI K)) → Ex sc (d + 2) 165 11 [.ref 0, .int x1, pu, .int x3, .int x4, .long x5, pu, .int x7, pu] [] (hpS s) (kI K) := by
  have hq : prog[165]? = some pm165 := rfl
  intro n
  induction n with
  | zero =>
    intro x1 x3 x4 x5 x7 s k
    exact k.elim
  | succ n ih =>
    intro x1 x3 x4 x5 x7 s k hX48
    rw [w_165_L11] at k
    refine Ex.seg hq 2 (j := 13) (L' := [.ref 0, .int x1, pu, .int x3, .int x4, .long x5, pu, .int x7, pu]) (S' := [.int x1, .int x7]) (h' := hpS s) rfl ?_
    refine Ex.i2 hq rfl (fun c => ?_) (fun c => ?_)
    · have k := k.1 c
      refine Ex.fg (L := [pu, pu, pu, .int x3, pu, .long x5, pu, pu, pu]) ⟨Or.inr ⟨rfl, rfl⟩, ⟨Or.inr ⟨rfl, rfl⟩, ⟨Or.inl rfl, ⟨Or.inl rfl, ⟨Or.inr ⟨rfl, rfl⟩, ⟨Or.inl rfl, ⟨Or.inl rfl, ⟨Or.inr ⟨rfl, rfl⟩, ⟨Or.inl rfl, trivial⟩⟩⟩⟩⟩⟩⟩⟩⟩ ?_
      exact hX48 x3 x5 s k
    · have k := k.2 c
      refine Ex.seg hq 15 (j := 29) (L' := [.ref 0, .int x1, pu, .int x3, .int ((((25173 : Int32) * x4) + (13849 : Int32)) &&& (65535 : Int32)), .long x5, pu, .int x7, pu]) (S' := [.long (65536 : Int64), .long (((((((25173 : Int32) * x4) + (13849 : Int32)) &&& (65535 : Int32))).toInt64) * x5), .ref 8]) (h' := hpS s) rfl ?_
      obtain ⟨hz, k⟩ := k
      refine Ex.ldv hq rfl hz ?_
      refine Ex.cl hq rfl rfl ?_
      refine Rn.mono (q_125 (d := d + 0) ((((((((25173 : Int32) * x4) + (13849 : Int32)) &&& (65535 : Int32))).toInt64) * x5) / (65536 : Int64)) s k) ?_
      rintro _ _ ⟨r4, s3, rfl, rfl, k⟩
      show Ex sc (d + 2) 165 31 [.ref 0, .int x1, pu, .int x3, .int ((((25173 : Int32) * x4) + (13849 : Int32)) &&& (65535 : Int32)), .long x5, pu, .int x7, pu] [.int r4] (hpS s3) _
      refine Ex.seg hq 4 (j := 35) (L' := [.ref 0, .int x1, pu, .int x3, .int ((((25173 : Int32) * x4) + (13849 : Int32)) &&& (65535 : Int32)), .long x5, pu, .int x7, .int r4]) (S' := [.int x3, .int r4, .ref 0]) (h' := hpS s3) rfl ?_
      refine Ex.cl hq rfl rfl ?_
      refine Rn.mono (q_166 (d := d + 1) r4 x3 s3 k) ?_
      rintro _ _ ⟨r6, s5, rfl, hzr6, rfl, k⟩
      show Ex sc (d + 2) 165 36 [.ref 0, .int x1, pu, .int x3, .int ((((25173 : Int32) * x4) + (13849 : Int32)) &&& (65535 : Int32)), .long x5, pu, .int x7, .int r4] [.int r6] (hpS s5) _
      refine Ex.i1 hq rfl (fun c => ?_) (fun c => ?_)
      · have k := k.1 c
        refine Ex.seg hq 2 (j := 11) (L' := [.ref 0, .int x1, pu, .int x3, .int ((((25173 : Int32) * x4) + (13849 : Int32)) &&& (65535 : Int32)), .long x5, pu, .int (x7 + (1 : Int32)), .int r4]) (S' := []) (h' := hpS s5) rfl ?_
        refine Ex.fg (L := [.ref 0, .int x1, pu, .int x3, .int ((((25173 : Int32) * x4) + (13849 : Int32)) &&& (65535 : Int32)), .long x5, pu, .int (x7 + (1 : Int32)), pu]) ⟨Or.inl rfl, ⟨Or.inl rfl, ⟨Or.inl rfl, ⟨Or.inl rfl, ⟨Or.inl rfl, ⟨Or.inl rfl, ⟨Or.inl rfl, ⟨Or.inl rfl, ⟨Or.inr ⟨rfl, rfl⟩, trivial⟩⟩⟩⟩⟩⟩⟩⟩⟩ ?_
        exact ih x1 x3 ((((25173 : Int32) * x4) + (13849 : Int32)) &&& (65535 : Int32)) x5 (x7 + (1 : Int32)) s5 k hX48
      · have k := k.2 c
        refine Ex.seg hq 2 (j := 39) (L' := [.ref 0, .int x1, pu, .int x3, .int ((((25173 : Int32) * x4) + (13849 : Int32)) &&& (65535 : Int32)), .long x5, pu, .int x7, .int r4]) (S' := [.int (50 : Int32), .int x3]) (h' := hpS s5) rfl ?_
        refine Ex.i2 hq rfl (fun c => ?_) (fun c => ?_)
        · have k := k.1 c
          refine Ex.seg hq 2 (j := 11) (L' := [.ref 0, .int x1, pu, .int x3, .int ((((25173 : Int32) * x4) + (13849 : Int32)) &&& (65535 : Int32)), .long x5, pu, .int (x7 + (1 : Int32)), .int r4]) (S' := []) (h' := hpS s5) rfl ?_
          refine Ex.fg (L := [.ref 0, .int x1, pu, .int x3, .int ((((25173 : Int32) * x4) + (13849 : Int32)) &&& (65535 : Int32)), .long x5, pu, .int (x7 + (1 : Int32)), pu]) ⟨Or.inl rfl, ⟨Or.inl rfl, ⟨Or.inl rfl, ⟨Or.inl rfl, ⟨Or.inl rfl, ⟨Or.inl rfl, ⟨Or.inl rfl, ⟨Or.inl rfl, ⟨Or.inr ⟨rfl, rfl⟩, trivial⟩⟩⟩⟩⟩⟩⟩⟩⟩ ?_
          exact ih x1 x3 ((((25173 : Int32) * x4) + (13849 : Int32)) &&& (65535 : Int32)) x5 (x7 + (1 : Int32)) s5 k hX48
        · have k := k.2 c
          refine Ex.seg hq 4 (j := 44) (L' := [.ref 0, .int x1, pu, .int x3, .int ((((25173 : Int32) * x4) + (13849 : Int32)) &&& (65535 : Int32)), .long x5, pu, .int x7, .int r4]) (S' := [.int r4, .int x3, .ref 33]) (h' := hpS s5) rfl ?_
          obtain ⟨hin, k⟩ := k
          refine Ex.ias hq rfl rfl hin (h' := hpS (sA s5 33 (upd (s5.2.1 33) (x3).toNatClampNeg r4))) (hset_33 _ _) ?_
          refine Ex.seg hq 3 (j := 11) (L' := [.ref 0, .int x1, pu, .int (x3 + (1 : Int32)), .int ((((25173 : Int32) * x4) + (13849 : Int32)) &&& (65535 : Int32)), .long x5, pu, .int (x7 + (1 : Int32)), .int r4]) (S' := []) (h' := hpS (sA s5 33 (upd (s5.2.1 33) (x3).toNatClampNeg r4))) rfl ?_
          refine Ex.fg (L := [.ref 0, .int x1, pu, .int (x3 + (1 : Int32)), .int ((((25173 : Int32) * x4) + (13849 : Int32)) &&& (65535 : Int32)), .long x5, pu, .int (x7 + (1 : Int32)), pu]) ⟨Or.inl rfl, ⟨Or.inl rfl, ⟨Or.inl rfl, ⟨Or.inl rfl, ⟨Or.inl rfl, ⟨Or.inl rfl, ⟨Or.inl rfl, ⟨Or.inl rfl, ⟨Or.inr ⟨rfl, rfl⟩, trivial⟩⟩⟩⟩⟩⟩⟩⟩⟩ ?_
          exact ih x1 (x3 + (1 : Int32)) ((((25173 : Int32) * x4) + (13849 : Int32)) &&& (65535 : Int32)) x5 (x7 + (1 : Int32)) (sA s5 33 (upd (s5.2.1 33) (x3).toNatClampNeg r4)) k hX48
/-- RowAuditor.draw(II)I -/
def w_165 (p1 : Int32) (p2 : Int32) (s : ST) (K : Int32 → ST → Prop) : Prop := w_124 s (fun r2 s1 => (∃ m, w_165_L11 m p1 (0 : Int32) p2 ((r2).toInt64) (0 : Int32) s1 (fun y3 y5 s7 => K y3 s7) K))
theorem q_165 {d : Nat} {K : Int32 → ST → Prop} (p1 : Int32) (p2 : Int32) (s : ST) (k : w_165 p1 p2 s K) : Rn sc (d + 2) 165 [.ref 0, .int p1, .int p2] (hpS s) (kI K) := by
  have hq : prog[165]? = some pm165 := rfl
  refine Rn.of (L := [.ref 0, .int p1, .int p2, pu, pu, pu, pu, pu, pu]) hq rfl rfl ?_
  unfold w_165 at k
  refine Ex.seg hq 6 (j := 6) (L' := [.ref 0, .int p1, .int p2, .int (0 : Int32), .int p2, pu, pu, pu, pu]) (S' := [.ref 8]) (h' := hpS s) rfl ?_
  refine Ex.cl hq rfl rfl ?_
  refine Rn.mono (q_124 (d := d + 0) s k) ?_
  rintro _ _ ⟨r2, s1, rfl, rfl, k⟩
  show Ex sc (d + 2) 165 7 [.ref 0, .int p1, .int p2, .int (0 : Int32), .int p2, pu, pu, pu, pu] [.int r2] (hpS s1) _
  refine Ex.seg hq 4 (j := 11) (L' := [.ref 0, .int p1, .int p2, .int (0 : Int32), .int p2, .long ((r2).toInt64), pu, .int (0 : Int32), pu]) (S' := []) (h' := hpS s1) rfl ?_
  obtain ⟨m, k⟩ := k
  refine Ex.fg (L := [.ref 0, .int p1, pu, .int (0 : Int32), .int p2, .long ((r2).toInt64), pu, .int (0 : Int32), pu]) ⟨Or.inl rfl, ⟨Or.inl rfl, ⟨Or.inr ⟨rfl, rfl⟩, ⟨Or.inl rfl, ⟨Or.inl rfl, ⟨Or.inl rfl, ⟨Or.inl rfl, ⟨Or.inl rfl, ⟨Or.inl rfl, trivial⟩⟩⟩⟩⟩⟩⟩⟩⟩ ?_
  refine q_165_L11 (d := d) m p1 (0 : Int32) p2 ((r2).toInt64) (0 : Int32) s1 k ?_
  · intro y3 y5 s7 k
    refine Ex.seg hq 1 (j := 49) (L' := [pu, pu, pu, .int y3, pu, .long y5, pu, pu, pu]) (S' := [.int y3]) (h' := hpS s7) rfl ?_
    exact Ex.rt hq rfl rfl ⟨y3, s7, rfl, rfl, k⟩
end WP
