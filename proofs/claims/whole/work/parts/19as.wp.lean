/-! ===== weakest preconditions, printed by wip/whole/genwp.py ===== -/
section WP
variable {sc : Nat × (Nat → Int32)}
def w_220_L47 : Nat → ST → (ST → Prop) → (ST → Prop) → (Int32 → ST → Prop) → Prop
  | 0, _, _, _, _ => False
  | n + 1, s, X80, X75, K => w_202 s (fun r18 s17 => ((¬ r18 = (41 : Int32) → X80  s17) ∧ (¬ (¬ r18 = (41 : Int32)) → w_217 (1 : Int32) s17 (fun s19 => ((¬ ((s19.1 5531) - (1 : Int32)) = 0 → w_216 (sI (sI (sI s19 5531 ((s19.1 5531) - (1 : Int32))) 5529 ((s19.1 5529) - (1 : Int32))) 5526 ((s19.1 5526) + (1 : Int32))) (fun s21 => w_220_L47 n  s21 X80 X75 K)) ∧ (¬ (¬ ((s19.1 5531) - (1 : Int32)) = 0) → X75  (sI (sI (sI s19 5531 ((s19.1 5531) - (1 : Int32))) 5529 ((s19.1 5529) - (1 : Int32))) 5526 ((s19.1 5526) + (1 : Int32)))))))))
theorem q_220_L47 {d : Nat} {X80 : ST → Prop} {X75 : ST → Prop} {K : Int32 → ST → Prop} : ∀ (n : Nat)  (s : ST), w_220_L47 n  s X80 X75 K → (∀ (s : ST), X80  s → Ex sc (d + 6) 220 80 [.ref 55] [] (hpS s) (kZ K)) → (∀ (s : ST), X75  s → Ex sc (d + 6) 220 75 [pu] [] (hpS s) (kZ K)) → Ex sc (d + 6) 220 47 [.ref 55] [] (hpS s) (kZ K) := by
  have hq : prog[220]? = some pm220 := rfl
  intro n
  induction n with
  | zero =>
    intro s k
    exact k.elim
  | succ n ih =>
    intro s k hX80 hX75
    rw [w_220_L47] at k
    refine Ex.seg hq 1 (j := 48) (L' := [.ref 55]) (S' := [.ref 55]) (h' := hpS s) rfl ?_
    refine Ex.cl hq rfl rfl ?_
    refine Rn.mono (q_202 (d := d + 5) s k) ?_
    rintro _ _ ⟨r18, s17, rfl, rfl, k⟩
    show Ex sc (d + 6) 220 49 [.ref 55] [.int r18] (hpS s17) _
    refine Ex.seg hq 1 (j := 50) (L' := [.ref 55]) (S' := [.int (41 : Int32), .int r18]) (h' := hpS s17) rfl ?_
    refine Ex.i2 hq rfl (fun c => ?_) (fun c => ?_)
    · have k := k.1 c
      exact hX80  s17 k
    · have k := k.2 c
      refine Ex.seg hq 2 (j := 53) (L' := [.ref 55]) (S' := [.int (1 : Int32), .ref 55]) (h' := hpS s17) rfl ?_
      refine Ex.cl hq rfl rfl ?_
      refine Rn.mono (q_217 (d := d + 4) (1 : Int32) s17 k) ?_
      rintro _ _ ⟨s19, rfl, rfl, k⟩
      show Ex sc (d + 6) 220 54 [.ref 55] [] (hpS s19) _
      refine Ex.seg hq 20 (j := 74) (L' := [.ref 55]) (S' := [.int ((s19.1 5531) - (1 : Int32))]) (h' := hpS (sI (sI (sI s19 5531 ((s19.1 5531) - (1 : Int32))) 5529 ((s19.1 5529) - (1 : Int32))) 5526 ((s19.1 5526) + (1 : Int32)))) rfl ?_
      refine Ex.i1 hq rfl (fun c => ?_) (fun c => ?_)
      · have k := k.1 c
        refine Ex.seg hq 1 (j := 78) (L' := [.ref 55]) (S' := [.ref 55]) (h' := hpS (sI (sI (sI s19 5531 ((s19.1 5531) - (1 : Int32))) 5529 ((s19.1 5529) - (1 : Int32))) 5526 ((s19.1 5526) + (1 : Int32)))) rfl ?_
        refine Ex.cl hq rfl rfl ?_
        refine Rn.mono (q_216 (d := d + 4) (sI (sI (sI s19 5531 ((s19.1 5531) - (1 : Int32))) 5529 ((s19.1 5529) - (1 : Int32))) 5526 ((s19.1 5526) + (1 : Int32))) k) ?_
        rintro _ _ ⟨s21, rfl, rfl, k⟩
        show Ex sc (d + 6) 220 79 [.ref 55] [] (hpS s21) _
        refine Ex.seg hq 1 (j := 47) (L' := [.ref 55]) (S' := []) (h' := hpS s21) rfl ?_
        exact ih  s21 k hX80 hX75
      · have k := k.2 c
        refine Ex.fg (L := [pu]) ⟨Or.inr ⟨rfl, rfl⟩, trivial⟩ ?_
        exact hX75  (sI (sI (sI s19 5531 ((s19.1 5531) - (1 : Int32))) 5529 ((s19.1 5529) - (1 : Int32))) 5526 ((s19.1 5526) + (1 : Int32))) k
def w_220_L22 : Nat → ST → (ST → Prop) → (ST → Prop) → (ST → Prop) → (ST → Prop) → (Int32 → ST → Prop) → Prop
  | 0, _, _, _, _, _, _ => False
  | n + 1, s, X40, X88, X75, X45, K => w_202 s (fun r6 s5 => ((r6 = (33 : Int32) → w_202 s5 (fun r8 s7 => ((¬ r8 = (33 : Int32) → w_208 (13 : Int32) s7 (fun r10 s9 => ((¬ r10 = 0 → w_220_L22 n  s9 X40 X88 X75 X45 K) ∧ (¬ (¬ r10 = 0) → X40  s9)))) ∧ (¬ (¬ r8 = (33 : Int32)) → w_208 (10 : Int32) s7 (fun r12 s11 => ((¬ r12 = 0 → w_220_L22 n  s11 X40 X88 X75 X45 K) ∧ (¬ (¬ r12 = 0) → X40  s11))))))) ∧ (¬ (r6 = (33 : Int32)) → w_202 s5 (fun r14 s13 => ((¬ r14 = (40 : Int32) → w_219 s13 (fun r16 s15 => ((¬ r16 = 0 → (∃ m, w_220_L47 m  s15 (fun s17 => w_202 s17 (fun r19 s18 => ((r19 = (38 : Int32) → w_202 s18 (fun r21 s20 => ((¬ r21 = (124 : Int32) → w_217 (0 : Int32) s20 (fun s22 => w_202 s22 (fun r25 s24 => ((¬ r25 = (38 : Int32) → w_218 (12 : Int32) s24 (fun s26 => w_220_L22 n  s26 X40 X88 X75 X45 K)) ∧ (¬ (¬ r25 = (38 : Int32)) → w_218 (11 : Int32) s24 (fun s28 => w_220_L22 n  s28 X40 X88 X75 X45 K)))))) ∧ (¬ (¬ r21 = (124 : Int32)) → w_217 (1 : Int32) s20 (fun s30 => w_202 s30 (fun r33 s32 => ((¬ r33 = (38 : Int32) → w_218 (12 : Int32) s32 (fun s34 => w_220_L22 n  s34 X40 X88 X75 X45 K)) ∧ (¬ (¬ r33 = (38 : Int32)) → w_218 (11 : Int32) s32 (fun s36 => w_220_L22 n  s36 X40 X88 X75 X45 K))))))))) ∧ (¬ (r19 = (38 : Int32)) → w_202 s18 (fun r39 s38 => ((r39 = (124 : Int32) → w_202 s38 (fun r41 s40 => ((¬ r41 = (124 : Int32) → w_217 (0 : Int32) s40 (fun s42 => w_202 s42 (fun r45 s44 => ((¬ r45 = (38 : Int32) → w_218 (12 : Int32) s44 (fun s46 => w_220_L22 n  s46 X40 X88 X75 X45 K)) ∧ (¬ (¬ r45 = (38 : Int32)) → w_218 (11 : Int32) s44 (fun s48 => w_220_L22 n  s48 X40 X88 X75 X45 K)))))) ∧ (¬ (¬ r41 = (124 : Int32)) → w_217 (1 : Int32) s40 (fun s50 => w_202 s50 (fun r53 s52 => ((¬ r53 = (38 : Int32) → w_218 (12 : Int32) s52 (fun s54 => w_220_L22 n  s54 X40 X88 X75 X45 K)) ∧ (¬ (¬ r53 = (38 : Int32)) → w_218 (11 : Int32) s52 (fun s56 => w_220_L22 n  s56 X40 X88 X75 X45 K))))))))) ∧ (¬ (r39 = (124 : Int32)) → X88  s38))))))) (fun s58 => X75  s58) K)) ∧ (¬ (¬ r16 = 0) → X45  s15)))) ∧ (¬ (¬ r14 = (40 : Int32)) → w_202 s13 (fun r60 s59 => ((¬ r60 = (33 : Int32) → w_208 (13 : Int32) s59 (fun r62 s61 => ((¬ r62 = 0 → w_220_L22 n  s61 X40 X88 X75 X45 K) ∧ (¬ (¬ r62 = 0) → X40  s61)))) ∧ (¬ (¬ r60 = (33 : Int32)) → w_208 (10 : Int32) s59 (fun r64 s63 => ((¬ r64 = 0 → w_220_L22 n  s63 X40 X88 X75 X45 K) ∧ (¬ (¬ r64 = 0) → X40  s63))))))))))))
theorem q_220_L22 {d : Nat} {X40 : ST → Prop} {X88 : ST → Prop} {X75 : ST → Prop} {X45 : ST → Prop} {K : Int32 → ST → Prop} : ∀ (n : Nat)  (s : ST), w_220_L22 n  s X40 X88 X75 X45 K → (∀ (s : ST), X40  s → Ex sc (d + 6) 220 40 [pu] [] (hpS s) (kZ K)) → (∀ (s : ST), X88  s → Ex sc (d + 6) 220 88 [.ref 55] [] (hpS s) (kZ K)) → (∀ (s : ST), X75  s → Ex sc (d + 6) 220 75 [pu] [] (hpS s) (kZ K)) → (∀ (s : ST), X45  s → Ex sc (d + 6) 220 45 [pu] [] (hpS s) (kZ K)) → Ex sc (d + 6) 220 22 [.ref 55] [] (hpS s) (kZ K) := by
  have hq : prog[220]? = some pm220 := rfl
  intro n
  induction n with
  | zero =>
    intro s k
    exact k.elim
  | succ n ih =>
    intro s k hX40 hX88 hX75 hX45
    rw [w_220_L22] at k
    refine Ex.seg hq 1 (j := 23) (L' := [.ref 55]) (S' := [.ref 55]) (h' := hpS s) rfl ?_
    refine Ex.cl hq rfl rfl ?_
    refine Rn.mono (q_202 (d := d + 5) s k) ?_
    rintro _ _ ⟨r6, s5, rfl, rfl, k⟩
    show Ex sc (d + 6) 220 24 [.ref 55] [.int r6] (hpS s5) _
    refine Ex.seg hq 1 (j := 25) (L' := [.ref 55]) (S' := [.int (33 : Int32), .int r6]) (h' := hpS s5) rfl ?_
    refine Ex.i2 hq rfl (fun c => ?_) (fun c => ?_)
    · have k := k.1 c
      refine Ex.seg hq 2 (j := 32) (L' := [.ref 55]) (S' := [.ref 55, .ref 55]) (h' := hpS s5) rfl ?_
      refine Ex.cl hq rfl rfl ?_
      refine Rn.mono (q_202 (d := d + 5) s5 k) ?_
      rintro _ _ ⟨r8, s7, rfl, rfl, k⟩
      show Ex sc (d + 6) 220 33 [.ref 55] [.int r8, .ref 55] (hpS s7) _
      refine Ex.seg hq 1 (j := 34) (L' := [.ref 55]) (S' := [.int (33 : Int32), .int r8, .ref 55]) (h' := hpS s7) rfl ?_
      refine Ex.i2 hq rfl (fun c => ?_) (fun c => ?_)
      · have k := k.1 c
        refine Ex.seg hq 1 (j := 38) (L' := [.ref 55]) (S' := [.int (13 : Int32), .ref 55]) (h' := hpS s7) rfl ?_
        refine Ex.cl hq rfl rfl ?_
        refine Rn.mono (q_208 (d := d + 4) (13 : Int32) s7 k) ?_
        rintro _ _ ⟨r10, s9, rfl, hzr10, rfl, k⟩
        show Ex sc (d + 6) 220 39 [.ref 55] [.int r10] (hpS s9) _
        refine Ex.i1 hq rfl (fun c => ?_) (fun c => ?_)
        · have k := k.1 c
          exact ih  s9 k hX40 hX88 hX75 hX45
        · have k := k.2 c
          refine Ex.fg (L := [pu]) ⟨Or.inr ⟨rfl, rfl⟩, trivial⟩ ?_
          exact hX40  s9 k
      · have k := k.2 c
        refine Ex.seg hq 2 (j := 38) (L' := [.ref 55]) (S' := [.int (10 : Int32), .ref 55]) (h' := hpS s7) rfl ?_
        refine Ex.cl hq rfl rfl ?_
        refine Rn.mono (q_208 (d := d + 4) (10 : Int32) s7 k) ?_
        rintro _ _ ⟨r12, s11, rfl, hzr12, rfl, k⟩
        show Ex sc (d + 6) 220 39 [.ref 55] [.int r12] (hpS s11) _
        refine Ex.i1 hq rfl (fun c => ?_) (fun c => ?_)
        · have k := k.1 c
          exact ih  s11 k hX40 hX88 hX75 hX45
        · have k := k.2 c
          refine Ex.fg (L := [pu]) ⟨Or.inr ⟨rfl, rfl⟩, trivial⟩ ?_
          exact hX40  s11 k
    · have k := k.2 c
      refine Ex.seg hq 1 (j := 27) (L' := [.ref 55]) (S' := [.ref 55]) (h' := hpS s5) rfl ?_
      refine Ex.cl hq rfl rfl ?_
      refine Rn.mono (q_202 (d := d + 5) s5 k) ?_
      rintro _ _ ⟨r14, s13, rfl, rfl, k⟩
      show Ex sc (d + 6) 220 28 [.ref 55] [.int r14] (hpS s13) _
      refine Ex.seg hq 1 (j := 29) (L' := [.ref 55]) (S' := [.int (40 : Int32), .int r14]) (h' := hpS s13) rfl ?_
      refine Ex.i2 hq rfl (fun c => ?_) (fun c => ?_)
      · have k := k.1 c
        refine Ex.seg hq 1 (j := 43) (L' := [.ref 55]) (S' := [.ref 55]) (h' := hpS s13) rfl ?_
        refine Ex.cl hq rfl rfl ?_
        refine Rn.mono (q_219 (d := d + 0) s13 k) ?_
        rintro _ _ ⟨r16, s15, rfl, hzr16, rfl, k⟩
        show Ex sc (d + 6) 220 44 [.ref 55] [.int r16] (hpS s15) _
        refine Ex.i1 hq rfl (fun c => ?_) (fun c => ?_)
        · have k := k.1 c
          obtain ⟨m, k⟩ := k
          refine q_220_L47 (d := d) m  s15 k ?_ ?_
          · intro s17 k
            refine Ex.seg hq 1 (j := 81) (L' := [.ref 55]) (S' := [.ref 55]) (h' := hpS s17) rfl ?_
            refine Ex.cl hq rfl rfl ?_
            refine Rn.mono (q_202 (d := d + 5) s17 k) ?_
            rintro _ _ ⟨r19, s18, rfl, rfl, k⟩
            show Ex sc (d + 6) 220 82 [.ref 55] [.int r19] (hpS s18) _
            refine Ex.seg hq 1 (j := 83) (L' := [.ref 55]) (S' := [.int (38 : Int32), .int r19]) (h' := hpS s18) rfl ?_
            refine Ex.i2 hq rfl (fun c => ?_) (fun c => ?_)
            · have k := k.1 c
              refine Ex.seg hq 2 (j := 96) (L' := [.ref 55]) (S' := [.ref 55, .ref 55]) (h' := hpS s18) rfl ?_
              refine Ex.cl hq rfl rfl ?_
              refine Rn.mono (q_202 (d := d + 5) s18 k) ?_
              rintro _ _ ⟨r21, s20, rfl, rfl, k⟩
              show Ex sc (d + 6) 220 97 [.ref 55] [.int r21, .ref 55] (hpS s20) _
              refine Ex.seg hq 1 (j := 98) (L' := [.ref 55]) (S' := [.int (124 : Int32), .int r21, .ref 55]) (h' := hpS s20) rfl ?_
              refine Ex.i2 hq rfl (fun c => ?_) (fun c => ?_)
              · have k := k.1 c
                refine Ex.seg hq 1 (j := 102) (L' := [.ref 55]) (S' := [.int (0 : Int32), .ref 55]) (h' := hpS s20) rfl ?_
                refine Ex.cl hq rfl rfl ?_
                refine Rn.mono (q_217 (d := d + 4) (0 : Int32) s20 k) ?_
                rintro _ _ ⟨s22, rfl, rfl, k⟩
                show Ex sc (d + 6) 220 103 [.ref 55] [] (hpS s22) _
                refine Ex.seg hq 2 (j := 105) (L' := [.ref 55]) (S' := [.ref 55, .ref 55]) (h' := hpS s22) rfl ?_
                refine Ex.cl hq rfl rfl ?_
                refine Rn.mono (q_202 (d := d + 5) s22 k) ?_
                rintro _ _ ⟨r25, s24, rfl, rfl, k⟩
                show Ex sc (d + 6) 220 106 [.ref 55] [.int r25, .ref 55] (hpS s24) _
                refine Ex.seg hq 1 (j := 107) (L' := [.ref 55]) (S' := [.int (38 : Int32), .int r25, .ref 55]) (h' := hpS s24) rfl ?_
                refine Ex.i2 hq rfl (fun c => ?_) (fun c => ?_)
                · have k := k.1 c
                  refine Ex.seg hq 1 (j := 111) (L' := [.ref 55]) (S' := [.int (12 : Int32), .ref 55]) (h' := hpS s24) rfl ?_
                  refine Ex.cl hq rfl rfl ?_
                  refine Rn.mono (q_218 (d := d + 4) (12 : Int32) s24 k) ?_
                  rintro _ _ ⟨s26, rfl, rfl, k⟩
                  show Ex sc (d + 6) 220 112 [.ref 55] [] (hpS s26) _
                  refine Ex.seg hq 1 (j := 22) (L' := [.ref 55]) (S' := []) (h' := hpS s26) rfl ?_
                  exact ih  s26 k hX40 hX88 hX75 hX45
                · have k := k.2 c
                  refine Ex.seg hq 2 (j := 111) (L' := [.ref 55]) (S' := [.int (11 : Int32), .ref 55]) (h' := hpS s24) rfl ?_
                  refine Ex.cl hq rfl rfl ?_
                  refine Rn.mono (q_218 (d := d + 4) (11 : Int32) s24 k) ?_
                  rintro _ _ ⟨s28, rfl, rfl, k⟩
                  show Ex sc (d + 6) 220 112 [.ref 55] [] (hpS s28) _
                  refine Ex.seg hq 1 (j := 22) (L' := [.ref 55]) (S' := []) (h' := hpS s28) rfl ?_
                  exact ih  s28 k hX40 hX88 hX75 hX45
              · have k := k.2 c
                refine Ex.seg hq 2 (j := 102) (L' := [.ref 55]) (S' := [.int (1 : Int32), .ref 55]) (h' := hpS s20) rfl ?_
                refine Ex.cl hq rfl rfl ?_
                refine Rn.mono (q_217 (d := d + 4) (1 : Int32) s20 k) ?_
                rintro _ _ ⟨s30, rfl, rfl, k⟩
                show Ex sc (d + 6) 220 103 [.ref 55] [] (hpS s30) _
                refine Ex.seg hq 2 (j := 105) (L' := [.ref 55]) (S' := [.ref 55, .ref 55]) (h' := hpS s30) rfl ?_
                refine Ex.cl hq rfl rfl ?_
                refine Rn.mono (q_202 (d := d + 5) s30 k) ?_
                rintro _ _ ⟨r33, s32, rfl, rfl, k⟩
                show Ex sc (d + 6) 220 106 [.ref 55] [.int r33, .ref 55] (hpS s32) _
                refine Ex.seg hq 1 (j := 107) (L' := [.ref 55]) (S' := [.int (38 : Int32), .int r33, .ref 55]) (h' := hpS s32) rfl ?_
                refine Ex.i2 hq rfl (fun c => ?_) (fun c => ?_)
                · have k := k.1 c
                  refine Ex.seg hq 1 (j := 111) (L' := [.ref 55]) (S' := [.int (12 : Int32), .ref 55]) (h' := hpS s32) rfl ?_
                  refine Ex.cl hq rfl rfl ?_
                  refine Rn.mono (q_218 (d := d + 4) (12 : Int32) s32 k) ?_
                  rintro _ _ ⟨s34, rfl, rfl, k⟩
                  show Ex sc (d + 6) 220 112 [.ref 55] [] (hpS s34) _
                  refine Ex.seg hq 1 (j := 22) (L' := [.ref 55]) (S' := []) (h' := hpS s34) rfl ?_
                  exact ih  s34 k hX40 hX88 hX75 hX45
                · have k := k.2 c
                  refine Ex.seg hq 2 (j := 111) (L' := [.ref 55]) (S' := [.int (11 : Int32), .ref 55]) (h' := hpS s32) rfl ?_
                  refine Ex.cl hq rfl rfl ?_
                  refine Rn.mono (q_218 (d := d + 4) (11 : Int32) s32 k) ?_
                  rintro _ _ ⟨s36, rfl, rfl, k⟩
                  show Ex sc (d + 6) 220 112 [.ref 55] [] (hpS s36) _
                  refine Ex.seg hq 1 (j := 22) (L' := [.ref 55]) (S' := []) (h' := hpS s36) rfl ?_
                  exact ih  s36 k hX40 hX88 hX75 hX45
            · have k := k.2 c
              refine Ex.seg hq 1 (j := 85) (L' := [.ref 55]) (S' := [.ref 55]) (h' := hpS s18) rfl ?_
              refine Ex.cl hq rfl rfl ?_
              refine Rn.mono (q_202 (d := d + 5) s18 k) ?_
              rintro _ _ ⟨r39, s38, rfl, rfl, k⟩
              show Ex sc (d + 6) 220 86 [.ref 55] [.int r39] (hpS s38) _
              refine Ex.seg hq 1 (j := 87) (L' := [.ref 55]) (S' := [.int (124 : Int32), .int r39]) (h' := hpS s38) rfl ?_
              refine Ex.i2 hq rfl (fun c => ?_) (fun c => ?_)
              · have k := k.1 c
                refine Ex.seg hq 2 (j := 96) (L' := [.ref 55]) (S' := [.ref 55, .ref 55]) (h' := hpS s38) rfl ?_
                refine Ex.cl hq rfl rfl ?_
                refine Rn.mono (q_202 (d := d + 5) s38 k) ?_
                rintro _ _ ⟨r41, s40, rfl, rfl, k⟩
                show Ex sc (d + 6) 220 97 [.ref 55] [.int r41, .ref 55] (hpS s40) _
                refine Ex.seg hq 1 (j := 98) (L' := [.ref 55]) (S' := [.int (124 : Int32), .int r41, .ref 55]) (h' := hpS s40) rfl ?_
                refine Ex.i2 hq rfl (fun c => ?_) (fun c => ?_)
                · have k := k.1 c
                  refine Ex.seg hq 1 (j := 102) (L' := [.ref 55]) (S' := [.int (0 : Int32), .ref 55]) (h' := hpS s40) rfl ?_
                  refine Ex.cl hq rfl rfl ?_
                  refine Rn.mono (q_217 (d := d + 4) (0 : Int32) s40 k) ?_
                  rintro _ _ ⟨s42, rfl, rfl, k⟩
                  show Ex sc (d + 6) 220 103 [.ref 55] [] (hpS s42) _
                  refine Ex.seg hq 2 (j := 105) (L' := [.ref 55]) (S' := [.ref 55, .ref 55]) (h' := hpS s42) rfl ?_
                  refine Ex.cl hq rfl rfl ?_
                  refine Rn.mono (q_202 (d := d + 5) s42 k) ?_
                  rintro _ _ ⟨r45, s44, rfl, rfl, k⟩
                  show Ex sc (d + 6) 220 106 [.ref 55] [.int r45, .ref 55] (hpS s44) _
                  refine Ex.seg hq 1 (j := 107) (L' := [.ref 55]) (S' := [.int (38 : Int32), .int r45, .ref 55]) (h' := hpS s44) rfl ?_
                  refine Ex.i2 hq rfl (fun c => ?_) (fun c => ?_)
                  · have k := k.1 c
                    refine Ex.seg hq 1 (j := 111) (L' := [.ref 55]) (S' := [.int (12 : Int32), .ref 55]) (h' := hpS s44) rfl ?_
                    refine Ex.cl hq rfl rfl ?_
                    refine Rn.mono (q_218 (d := d + 4) (12 : Int32) s44 k) ?_
                    rintro _ _ ⟨s46, rfl, rfl, k⟩
                    show Ex sc (d + 6) 220 112 [.ref 55] [] (hpS s46) _
                    refine Ex.seg hq 1 (j := 22) (L' := [.ref 55]) (S' := []) (h' := hpS s46) rfl ?_
                    exact ih  s46 k hX40 hX88 hX75 hX45
                  · have k := k.2 c
                    refine Ex.seg hq 2 (j := 111) (L' := [.ref 55]) (S' := [.int (11 : Int32), .ref 55]) (h' := hpS s44) rfl ?_
                    refine Ex.cl hq rfl rfl ?_
                    refine Rn.mono (q_218 (d := d + 4) (11 : Int32) s44 k) ?_
                    rintro _ _ ⟨s48, rfl, rfl, k⟩
                    show Ex sc (d + 6) 220 112 [.ref 55] [] (hpS s48) _
                    refine Ex.seg hq 1 (j := 22) (L' := [.ref 55]) (S' := []) (h' := hpS s48) rfl ?_
                    exact ih  s48 k hX40 hX88 hX75 hX45
                · have k := k.2 c
                  refine Ex.seg hq 2 (j := 102) (L' := [.ref 55]) (S' := [.int (1 : Int32), .ref 55]) (h' := hpS s40) rfl ?_
                  refine Ex.cl hq rfl rfl ?_
                  refine Rn.mono (q_217 (d := d + 4) (1 : Int32) s40 k) ?_
                  rintro _ _ ⟨s50, rfl, rfl, k⟩
                  show Ex sc (d + 6) 220 103 [.ref 55] [] (hpS s50) _
                  refine Ex.seg hq 2 (j := 105) (L' := [.ref 55]) (S' := [.ref 55, .ref 55]) (h' := hpS s50) rfl ?_
                  refine Ex.cl hq rfl rfl ?_
                  refine Rn.mono (q_202 (d := d + 5) s50 k) ?_
                  rintro _ _ ⟨r53, s52, rfl, rfl, k⟩
                  show Ex sc (d + 6) 220 106 [.ref 55] [.int r53, .ref 55] (hpS s52) _
                  refine Ex.seg hq 1 (j := 107) (L' := [.ref 55]) (S' := [.int (38 : Int32), .int r53, .ref 55]) (h' := hpS s52) rfl ?_
                  refine Ex.i2 hq rfl (fun c => ?_) (fun c => ?_)
                  · have k := k.1 c
                    refine Ex.seg hq 1 (j := 111) (L' := [.ref 55]) (S' := [.int (12 : Int32), .ref 55]) (h' := hpS s52) rfl ?_
                    refine Ex.cl hq rfl rfl ?_
                    refine Rn.mono (q_218 (d := d + 4) (12 : Int32) s52 k) ?_
                    rintro _ _ ⟨s54, rfl, rfl, k⟩
                    show Ex sc (d + 6) 220 112 [.ref 55] [] (hpS s54) _
                    refine Ex.seg hq 1 (j := 22) (L' := [.ref 55]) (S' := []) (h' := hpS s54) rfl ?_
                    exact ih  s54 k hX40 hX88 hX75 hX45
                  · have k := k.2 c
                    refine Ex.seg hq 2 (j := 111) (L' := [.ref 55]) (S' := [.int (11 : Int32), .ref 55]) (h' := hpS s52) rfl ?_
                    refine Ex.cl hq rfl rfl ?_
                    refine Rn.mono (q_218 (d := d + 4) (11 : Int32) s52 k) ?_
                    rintro _ _ ⟨s56, rfl, rfl, k⟩
                    show Ex sc (d + 6) 220 112 [.ref 55] [] (hpS s56) _
                    refine Ex.seg hq 1 (j := 22) (L' := [.ref 55]) (S' := []) (h' := hpS s56) rfl ?_
                    exact ih  s56 k hX40 hX88 hX75 hX45
              · have k := k.2 c
                exact hX88  s38 k
          · intro s58 k
            exact hX75  s58 k
        · have k := k.2 c
          refine Ex.fg (L := [pu]) ⟨Or.inr ⟨rfl, rfl⟩, trivial⟩ ?_
          exact hX45  s15 k
      · have k := k.2 c
        refine Ex.seg hq 2 (j := 32) (L' := [.ref 55]) (S' := [.ref 55, .ref 55]) (h' := hpS s13) rfl ?_
        refine Ex.cl hq rfl rfl ?_
        refine Rn.mono (q_202 (d := d + 5) s13 k) ?_
        rintro _ _ ⟨r60, s59, rfl, rfl, k⟩
        show Ex sc (d + 6) 220 33 [.ref 55] [.int r60, .ref 55] (hpS s59) _
        refine Ex.seg hq 1 (j := 34) (L' := [.ref 55]) (S' := [.int (33 : Int32), .int r60, .ref 55]) (h' := hpS s59) rfl ?_
        refine Ex.i2 hq rfl (fun c => ?_) (fun c => ?_)
        · have k := k.1 c
          refine Ex.seg hq 1 (j := 38) (L' := [.ref 55]) (S' := [.int (13 : Int32), .ref 55]) (h' := hpS s59) rfl ?_
          refine Ex.cl hq rfl rfl ?_
          refine Rn.mono (q_208 (d := d + 4) (13 : Int32) s59 k) ?_
          rintro _ _ ⟨r62, s61, rfl, hzr62, rfl, k⟩
          show Ex sc (d + 6) 220 39 [.ref 55] [.int r62] (hpS s61) _
          refine Ex.i1 hq rfl (fun c => ?_) (fun c => ?_)
          · have k := k.1 c
            exact ih  s61 k hX40 hX88 hX75 hX45
          · have k := k.2 c
            refine Ex.fg (L := [pu]) ⟨Or.inr ⟨rfl, rfl⟩, trivial⟩ ?_
            exact hX40  s61 k
        · have k := k.2 c
          refine Ex.seg hq 2 (j := 38) (L' := [.ref 55]) (S' := [.int (10 : Int32), .ref 55]) (h' := hpS s59) rfl ?_
          refine Ex.cl hq rfl rfl ?_
          refine Rn.mono (q_208 (d := d + 4) (10 : Int32) s59 k) ?_
          rintro _ _ ⟨r64, s63, rfl, hzr64, rfl, k⟩
          show Ex sc (d + 6) 220 39 [.ref 55] [.int r64] (hpS s63) _
          refine Ex.i1 hq rfl (fun c => ?_) (fun c => ?_)
          · have k := k.1 c
            exact ih  s63 k hX40 hX88 hX75 hX45
          · have k := k.2 c
            refine Ex.fg (L := [pu]) ⟨Or.inr ⟨rfl, rfl⟩, trivial⟩ ?_
            exact hX40  s63 k
/-- RowAuditorModel.readsCondition()Z -/
def w_220  (s : ST) (K : Int32 → ST → Prop) : Prop := w_202 s (fun r2 s1 => ((r2 = (40 : Int32) → w_208 (13 : Int32) (sI (sI s1 5529 (0 : Int32)) 5531 (0 : Int32)) (fun r4 s3 => ((¬ r4 = 0 → (∃ m, w_220_L22 m  s3 (fun s65 => K (0 : Int32) s65) (fun s66 => w_204 (1 : Int32) (s66.1 5526) s66 (fun r68 s67 => K r68 s67)) (fun s69 => K (1 : Int32) s69) (fun s70 => K (0 : Int32) s70) K)) ∧ (¬ (¬ r4 = 0) → K (0 : Int32) s3)))) ∧ (¬ (r2 = (40 : Int32)) → w_204 (1 : Int32) (s1.1 5526) s1 (fun r72 s71 => K r72 s71))))
theorem q_220 {d : Nat} {K : Int32 → ST → Prop}  (s : ST) (k : w_220  s K) : Rn sc (d + 6) 220 [.ref 55] (hpS s) (kZ K) := by
  have hq : prog[220]? = some pm220 := rfl
  refine Rn.of (L := [.ref 55]) hq rfl rfl ?_
  unfold w_220 at k
  refine Ex.seg hq 1 (j := 1) (L' := [.ref 55]) (S' := [.ref 55]) (h' := hpS s) rfl ?_
  refine Ex.cl hq rfl rfl ?_
  refine Rn.mono (q_202 (d := d + 5) s k) ?_
  rintro _ _ ⟨r2, s1, rfl, rfl, k⟩
  show Ex sc (d + 6) 220 2 [.ref 55] [.int r2] (hpS s1) _
  refine Ex.seg hq 1 (j := 3) (L' := [.ref 55]) (S' := [.int (40 : Int32), .int r2]) (h' := hpS s1) rfl ?_
  refine Ex.i2 hq rfl (fun c => ?_) (fun c => ?_)
  · have k := k.1 c
    refine Ex.seg hq 8 (j := 18) (L' := [.ref 55]) (S' := [.int (13 : Int32), .ref 55]) (h' := hpS (sI (sI s1 5529 (0 : Int32)) 5531 (0 : Int32))) rfl ?_
    refine Ex.cl hq rfl rfl ?_
    refine Rn.mono (q_208 (d := d + 4) (13 : Int32) (sI (sI s1 5529 (0 : Int32)) 5531 (0 : Int32)) k) ?_
    rintro _ _ ⟨r4, s3, rfl, hzr4, rfl, k⟩
    show Ex sc (d + 6) 220 19 [.ref 55] [.int r4] (hpS s3) _
    refine Ex.i1 hq rfl (fun c => ?_) (fun c => ?_)
    · have k := k.1 c
      obtain ⟨m, k⟩ := k
      refine q_220_L22 (d := d) m  s3 k ?_ ?_ ?_ ?_
      · intro s65 k
        refine Ex.seg hq 1 (j := 41) (L' := [pu]) (S' := [.int (0 : Int32)]) (h' := hpS s65) rfl ?_
        exact Ex.zr hq rfl rfl (Or.inl rfl) ⟨(0 : Int32), s65, rfl, (Or.inl rfl), rfl, k⟩
      · intro s66 k
        refine Ex.seg hq 4 (j := 92) (L' := [.ref 55]) (S' := [.int (s66.1 5526), .int (1 : Int32), .ref 55]) (h' := hpS s66) rfl ?_
        refine Ex.cl hq rfl rfl ?_
        refine Rn.mono (q_204 (d := d + 5) (1 : Int32) (s66.1 5526) s66 k) ?_
        rintro _ _ ⟨r68, s67, rfl, hzr68, rfl, k⟩
        show Ex sc (d + 6) 220 93 [.ref 55] [.int r68] (hpS s67) _
        exact Ex.zr hq rfl rfl hzr68 ⟨r68, s67, rfl, hzr68, rfl, k⟩
      · intro s69 k
        refine Ex.seg hq 1 (j := 76) (L' := [pu]) (S' := [.int (1 : Int32)]) (h' := hpS s69) rfl ?_
        exact Ex.zr hq rfl rfl (Or.inr rfl) ⟨(1 : Int32), s69, rfl, (Or.inr rfl), rfl, k⟩
      · intro s70 k
        refine Ex.seg hq 1 (j := 46) (L' := [pu]) (S' := [.int (0 : Int32)]) (h' := hpS s70) rfl ?_
        exact Ex.zr hq rfl rfl (Or.inl rfl) ⟨(0 : Int32), s70, rfl, (Or.inl rfl), rfl, k⟩
    · have k := k.2 c
      refine Ex.seg hq 1 (j := 21) (L' := [.ref 55]) (S' := [.int (0 : Int32)]) (h' := hpS s3) rfl ?_
      exact Ex.zr hq rfl rfl (Or.inl rfl) ⟨(0 : Int32), s3, rfl, (Or.inl rfl), rfl, k⟩
  · have k := k.2 c
    refine Ex.seg hq 4 (j := 8) (L' := [.ref 55]) (S' := [.int (s1.1 5526), .int (1 : Int32), .ref 55]) (h' := hpS s1) rfl ?_
    refine Ex.cl hq rfl rfl ?_
    refine Rn.mono (q_204 (d := d + 5) (1 : Int32) (s1.1 5526) s1 k) ?_
    rintro _ _ ⟨r72, s71, rfl, hzr72, rfl, k⟩
    show Ex sc (d + 6) 220 9 [.ref 55] [.int r72] (hpS s71) _
    exact Ex.zr hq rfl rfl hzr72 ⟨r72, s71, rfl, hzr72, rfl, k⟩
/-- RowAuditorModel.readsClause()Z -/
def w_221  (s : ST) (K : Int32 → ST → Prop) : Prop := w_202 s (fun r2 s1 => ((r2 = (114 : Int32) → ((¬ (s1.1 5532) = (10 : Int32) → (pin (s1.1 5532) 10 = true ∧ (pin (s1.1 5532) 10 = true ∧ (pin (s1.1 5532) 10 = true ∧ (pin (s1.1 5532) 10 = true ∧ ((¬ r2 = (120 : Int32) → w_220 (sA (sA (sA (sA (sI s1 5526 ((s1.1 5526) + (1 : Int32))) 78 (upd (s1.2.1 78) ((s1.1 5532)).toNatClampNeg r2)) 81 (upd (s1.2.1 81) ((s1.1 5532)).toNatClampNeg (0 : Int32))) 82 (upd (s1.2.1 82) ((s1.1 5532)).toNatClampNeg (0 : Int32))) 79 (upd (s1.2.1 79) ((s1.1 5532)).toNatClampNeg (s1.1 5530))) (fun r4 s3 => ((¬ r4 = 0 → (pin (s1.1 5532) 10 = true ∧ K (1 : Int32) (sA (sI s3 5532 ((s3.1 5532) + (1 : Int32))) 80 (upd (s3.2.1 80) ((s1.1 5532)).toNatClampNeg (s3.1 5530))))) ∧ (¬ (¬ r4 = 0) → K (0 : Int32) s3)))) ∧ (¬ (¬ r2 = (120 : Int32)) → w_206 (19 : Int32) (sA (sA (sA (sA (sI s1 5526 ((s1.1 5526) + (1 : Int32))) 78 (upd (s1.2.1 78) ((s1.1 5532)).toNatClampNeg r2)) 81 (upd (s1.2.1 81) ((s1.1 5532)).toNatClampNeg (0 : Int32))) 82 (upd (s1.2.1 82) ((s1.1 5532)).toNatClampNeg (0 : Int32))) 79 (upd (s1.2.1 79) ((s1.1 5532)).toNatClampNeg (s1.1 5530))) (fun r6 s5 => ((¬ r6 = 0 → (pin (s1.1 5532) 10 = true ∧ w_205 (46 : Int32) (sA s5 81 (upd (s5.2.1 81) ((s1.1 5532)).toNatClampNeg (s5.1 5533))) (fun r8 s7 => ((r8 = 0 → K (0 : Int32) s7) ∧ (¬ (r8 = 0) → w_206 (9 : Int32) s7 (fun r10 s9 => ((¬ r10 = 0 → (pin (s1.1 5532) 10 = true ∧ (pin (s1.1 5532) 10 = true ∧ K (1 : Int32) (sA (sA (sI s9 5532 ((s9.1 5532) + (1 : Int32))) 82 (upd (s9.2.1 82) ((s1.1 5532)).toNatClampNeg (s9.1 5533))) 80 (upd (s9.2.1 80) ((s1.1 5532)).toNatClampNeg (s9.1 5530)))))) ∧ (¬ (¬ r10 = 0) → K (0 : Int32) s9)))))))) ∧ (¬ (¬ r6 = 0) → K (0 : Int32) s5)))))))))) ∧ (¬ (¬ (s1.1 5532) = (10 : Int32)) → w_204 (4 : Int32) (s1.1 5526) s1 (fun r12 s11 => K r12 s11)))) ∧ (¬ (r2 = (114 : Int32)) → ((r2 = (108 : Int32) → ((¬ (s1.1 5532) = (10 : Int32) → (pin (s1.1 5532) 10 = true ∧ (pin (s1.1 5532) 10 = true ∧ (pin (s1.1 5532) 10 = true ∧ (pin (s1.1 5532) 10 = true ∧ ((¬ r2 = (120 : Int32) → w_220 (sA (sA (sA (sA (sI s1 5526 ((s1.1 5526) + (1 : Int32))) 78 (upd (s1.2.1 78) ((s1.1 5532)).toNatClampNeg r2)) 81 (upd (s1.2.1 81) ((s1.1 5532)).toNatClampNeg (0 : Int32))) 82 (upd (s1.2.1 82) ((s1.1 5532)).toNatClampNeg (0 : Int32))) 79 (upd (s1.2.1 79) ((s1.1 5532)).toNatClampNeg (s1.1 5530))) (fun r14 s13 => ((¬ r14 = 0 → (pin (s1.1 5532) 10 = true ∧ K (1 : Int32) (sA (sI s13 5532 ((s13.1 5532) + (1 : Int32))) 80 (upd (s13.2.1 80) ((s1.1 5532)).toNatClampNeg (s13.1 5530))))) ∧ (¬ (¬ r14 = 0) → K (0 : Int32) s13)))) ∧ (¬ (¬ r2 = (120 : Int32)) → w_206 (19 : Int32) (sA (sA (sA (sA (sI s1 5526 ((s1.1 5526) + (1 : Int32))) 78 (upd (s1.2.1 78) ((s1.1 5532)).toNatClampNeg r2)) 81 (upd (s1.2.1 81) ((s1.1 5532)).toNatClampNeg (0 : Int32))) 82 (upd (s1.2.1 82) ((s1.1 5532)).toNatClampNeg (0 : Int32))) 79 (upd (s1.2.1 79) ((s1.1 5532)).toNatClampNeg (s1.1 5530))) (fun r16 s15 => ((¬ r16 = 0 → (pin (s1.1 5532) 10 = true ∧ w_205 (46 : Int32) (sA s15 81 (upd (s15.2.1 81) ((s1.1 5532)).toNatClampNeg (s15.1 5533))) (fun r18 s17 => ((r18 = 0 → K (0 : Int32) s17) ∧ (¬ (r18 = 0) → w_206 (9 : Int32) s17 (fun r20 s19 => ((¬ r20 = 0 → (pin (s1.1 5532) 10 = true ∧ (pin (s1.1 5532) 10 = true ∧ K (1 : Int32) (sA (sA (sI s19 5532 ((s19.1 5532) + (1 : Int32))) 82 (upd (s19.2.1 82) ((s1.1 5532)).toNatClampNeg (s19.1 5533))) 80 (upd (s19.2.1 80) ((s1.1 5532)).toNatClampNeg (s19.1 5530)))))) ∧ (¬ (¬ r20 = 0) → K (0 : Int32) s19)))))))) ∧ (¬ (¬ r16 = 0) → K (0 : Int32) s15)))))))))) ∧ (¬ (¬ (s1.1 5532) = (10 : Int32)) → w_204 (4 : Int32) (s1.1 5526) s1 (fun r22 s21 => K r22 s21)))) ∧ (¬ (r2 = (108 : Int32)) → ((r2 = (120 : Int32) → ((¬ (s1.1 5532) = (10 : Int32) → (pin (s1.1 5532) 10 = true ∧ (pin (s1.1 5532) 10 = true ∧ (pin (s1.1 5532) 10 = true ∧ (pin (s1.1 5532) 10 = true ∧ ((¬ r2 = (120 : Int32) → w_220 (sA (sA (sA (sA (sI s1 5526 ((s1.1 5526) + (1 : Int32))) 78 (upd (s1.2.1 78) ((s1.1 5532)).toNatClampNeg r2)) 81 (upd (s1.2.1 81) ((s1.1 5532)).toNatClampNeg (0 : Int32))) 82 (upd (s1.2.1 82) ((s1.1 5532)).toNatClampNeg (0 : Int32))) 79 (upd (s1.2.1 79) ((s1.1 5532)).toNatClampNeg (s1.1 5530))) (fun r24 s23 => ((¬ r24 = 0 → (pin (s1.1 5532) 10 = true ∧ K (1 : Int32) (sA (sI s23 5532 ((s23.1 5532) + (1 : Int32))) 80 (upd (s23.2.1 80) ((s1.1 5532)).toNatClampNeg (s23.1 5530))))) ∧ (¬ (¬ r24 = 0) → K (0 : Int32) s23)))) ∧ (¬ (¬ r2 = (120 : Int32)) → w_206 (19 : Int32) (sA (sA (sA (sA (sI s1 5526 ((s1.1 5526) + (1 : Int32))) 78 (upd (s1.2.1 78) ((s1.1 5532)).toNatClampNeg r2)) 81 (upd (s1.2.1 81) ((s1.1 5532)).toNatClampNeg (0 : Int32))) 82 (upd (s1.2.1 82) ((s1.1 5532)).toNatClampNeg (0 : Int32))) 79 (upd (s1.2.1 79) ((s1.1 5532)).toNatClampNeg (s1.1 5530))) (fun r26 s25 => ((¬ r26 = 0 → (pin (s1.1 5532) 10 = true ∧ w_205 (46 : Int32) (sA s25 81 (upd (s25.2.1 81) ((s1.1 5532)).toNatClampNeg (s25.1 5533))) (fun r28 s27 => ((r28 = 0 → K (0 : Int32) s27) ∧ (¬ (r28 = 0) → w_206 (9 : Int32) s27 (fun r30 s29 => ((¬ r30 = 0 → (pin (s1.1 5532) 10 = true ∧ (pin (s1.1 5532) 10 = true ∧ K (1 : Int32) (sA (sA (sI s29 5532 ((s29.1 5532) + (1 : Int32))) 82 (upd (s29.2.1 82) ((s1.1 5532)).toNatClampNeg (s29.1 5533))) 80 (upd (s29.2.1 80) ((s1.1 5532)).toNatClampNeg (s29.1 5530)))))) ∧ (¬ (¬ r30 = 0) → K (0 : Int32) s29)))))))) ∧ (¬ (¬ r26 = 0) → K (0 : Int32) s25)))))))))) ∧ (¬ (¬ (s1.1 5532) = (10 : Int32)) → w_204 (4 : Int32) (s1.1 5526) s1 (fun r32 s31 => K r32 s31)))) ∧ (¬ (r2 = (120 : Int32)) → w_204 (1 : Int32) (s1.1 5526) s1 (fun r34 s33 => K r34 s33))))))))
theorem q_221 {d : Nat} {K : Int32 → ST → Prop}  (s : ST) (k : w_221  s K) : Rn sc (d + 7) 221 [.ref 55] (hpS s) (kZ K) := by
  have hq : prog[221]? = some pm221 := rfl
  refine Rn.of (L := [.ref 55, pu, pu]) hq rfl rfl ?_
  unfold w_221 at k
  refine Ex.seg hq 1 (j := 1) (L' := [.ref 55, pu, pu]) (S' := [.ref 55]) (h' := hpS s) rfl ?_
  refine Ex.cl hq rfl rfl ?_
  refine Rn.mono (q_202 (d := d + 6) s k) ?_
  rintro _ _ ⟨r2, s1, rfl, rfl, k⟩
  show Ex sc (d + 7) 221 2 [.ref 55, pu, pu] [.int r2] (hpS s1) _
  refine Ex.seg hq 3 (j := 5) (L' := [.ref 55, .int r2, pu]) (S' := [.int (114 : Int32), .int r2]) (h' := hpS s1) rfl ?_
  refine Ex.i2 hq rfl (fun c => ?_) (fun c => ?_)
  · have k := k.1 c
    refine Ex.seg hq 3 (j := 21) (L' := [.ref 55, .int r2, pu]) (S' := [.int (10 : Int32), .int (s1.1 5532)]) (h' := hpS s1) rfl ?_
    refine Ex.i2 hq rfl (fun c => ?_) (fun c => ?_)
    · have k := k.1 c
      refine Ex.seg hq 13 (j := 41) (L' := [.ref 55, .int r2, .int (s1.1 5532)]) (S' := [.int r2, .int (s1.1 5532), .ref 78]) (h' := hpS (sI s1 5526 ((s1.1 5526) + (1 : Int32)))) rfl ?_
      obtain ⟨hin, k⟩ := k
      refine Ex.ias hq rfl rfl hin (h' := hpS (sA (sI s1 5526 ((s1.1 5526) + (1 : Int32))) 78 (upd (s1.2.1 78) ((s1.1 5532)).toNatClampNeg r2))) (hset_78 _ _) ?_
      refine Ex.seg hq 4 (j := 46) (L' := [.ref 55, .int r2, .int (s1.1 5532)]) (S' := [.int (0 : Int32), .int (s1.1 5532), .ref 81]) (h' := hpS (sA (sI s1 5526 ((s1.1 5526) + (1 : Int32))) 78 (upd (s1.2.1 78) ((s1.1 5532)).toNatClampNeg r2))) rfl ?_
      obtain ⟨hin, k⟩ := k
      refine Ex.ias hq rfl rfl hin (h' := hpS (sA (sA (sI s1 5526 ((s1.1 5526) + (1 : Int32))) 78 (upd (s1.2.1 78) ((s1.1 5532)).toNatClampNeg r2)) 81 (upd (s1.2.1 81) ((s1.1 5532)).toNatClampNeg (0 : Int32)))) (hset_81 _ _) ?_
      refine Ex.seg hq 4 (j := 51) (L' := [.ref 55, .int r2, .int (s1.1 5532)]) (S' := [.int (0 : Int32), .int (s1.1 5532), .ref 82]) (h' := hpS (sA (sA (sI s1 5526 ((s1.1 5526) + (1 : Int32))) 78 (upd (s1.2.1 78) ((s1.1 5532)).toNatClampNeg r2)) 81 (upd (s1.2.1 81) ((s1.1 5532)).toNatClampNeg (0 : Int32)))) rfl ?_
      obtain ⟨hin, k⟩ := k
      refine Ex.ias hq rfl rfl hin (h' := hpS (sA (sA (sA (sI s1 5526 ((s1.1 5526) + (1 : Int32))) 78 (upd (s1.2.1 78) ((s1.1 5532)).toNatClampNeg r2)) 81 (upd (s1.2.1 81) ((s1.1 5532)).toNatClampNeg (0 : Int32))) 82 (upd (s1.2.1 82) ((s1.1 5532)).toNatClampNeg (0 : Int32)))) (hset_82 _ _) ?_
      refine Ex.seg hq 5 (j := 57) (L' := [.ref 55, .int r2, .int (s1.1 5532)]) (S' := [.int (s1.1 5530), .int (s1.1 5532), .ref 79]) (h' := hpS (sA (sA (sA (sI s1 5526 ((s1.1 5526) + (1 : Int32))) 78 (upd (s1.2.1 78) ((s1.1 5532)).toNatClampNeg r2)) 81 (upd (s1.2.1 81) ((s1.1 5532)).toNatClampNeg (0 : Int32))) 82 (upd (s1.2.1 82) ((s1.1 5532)).toNatClampNeg (0 : Int32)))) rfl ?_
      obtain ⟨hin, k⟩ := k
      refine Ex.ias hq rfl rfl hin (h' := hpS (sA (sA (sA (sA (sI s1 5526 ((s1.1 5526) + (1 : Int32))) 78 (upd (s1.2.1 78) ((s1.1 5532)).toNatClampNeg r2)) 81 (upd (s1.2.1 81) ((s1.1 5532)).toNatClampNeg (0 : Int32))) 82 (upd (s1.2.1 82) ((s1.1 5532)).toNatClampNeg (0 : Int32))) 79 (upd (s1.2.1 79) ((s1.1 5532)).toNatClampNeg (s1.1 5530)))) (hset_79 _ _) ?_
      refine Ex.seg hq 2 (j := 60) (L' := [.ref 55, .int r2, .int (s1.1 5532)]) (S' := [.int (120 : Int32), .int r2]) (h' := hpS (sA (sA (sA (sA (sI s1 5526 ((s1.1 5526) + (1 : Int32))) 78 (upd (s1.2.1 78) ((s1.1 5532)).toNatClampNeg r2)) 81 (upd (s1.2.1 81) ((s1.1 5532)).toNatClampNeg (0 : Int32))) 82 (upd (s1.2.1 82) ((s1.1 5532)).toNatClampNeg (0 : Int32))) 79 (upd (s1.2.1 79) ((s1.1 5532)).toNatClampNeg (s1.1 5530)))) rfl ?_
      refine Ex.i2 hq rfl (fun c => ?_) (fun c => ?_)
      · have k := k.1 c
        refine Ex.seg hq 1 (j := 91) (L' := [.ref 55, .int r2, .int (s1.1 5532)]) (S' := [.ref 55]) (h' := hpS (sA (sA (sA (sA (sI s1 5526 ((s1.1 5526) + (1 : Int32))) 78 (upd (s1.2.1 78) ((s1.1 5532)).toNatClampNeg r2)) 81 (upd (s1.2.1 81) ((s1.1 5532)).toNatClampNeg (0 : Int32))) 82 (upd (s1.2.1 82) ((s1.1 5532)).toNatClampNeg (0 : Int32))) 79 (upd (s1.2.1 79) ((s1.1 5532)).toNatClampNeg (s1.1 5530)))) rfl ?_
        refine Ex.cl hq rfl rfl ?_
        refine Rn.mono (q_220 (d := d + 0) (sA (sA (sA (sA (sI s1 5526 ((s1.1 5526) + (1 : Int32))) 78 (upd (s1.2.1 78) ((s1.1 5532)).toNatClampNeg r2)) 81 (upd (s1.2.1 81) ((s1.1 5532)).toNatClampNeg (0 : Int32))) 82 (upd (s1.2.1 82) ((s1.1 5532)).toNatClampNeg (0 : Int32))) 79 (upd (s1.2.1 79) ((s1.1 5532)).toNatClampNeg (s1.1 5530))) k) ?_
        rintro _ _ ⟨r4, s3, rfl, hzr4, rfl, k⟩
        show Ex sc (d + 7) 221 92 [.ref 55, .int r2, .int (s1.1 5532)] [.int r4] (hpS s3) _
        refine Ex.i1 hq rfl (fun c => ?_) (fun c => ?_)
        · have k := k.1 c
          refine Ex.seg hq 5 (j := 100) (L' := [.ref 55, .int r2, .int (s1.1 5532)]) (S' := [.int (s3.1 5530), .int (s1.1 5532), .ref 80]) (h' := hpS s3) rfl ?_
          obtain ⟨hin, k⟩ := k
          refine Ex.ias hq rfl rfl hin (h' := hpS (sA s3 80 (upd (s3.2.1 80) ((s1.1 5532)).toNatClampNeg (s3.1 5530)))) (hset_80 _ _) ?_
          refine Ex.seg hq 7 (j := 108) (L' := [.ref 55, .int r2, .int (s1.1 5532)]) (S' := [.int (1 : Int32)]) (h' := hpS (sA (sI s3 5532 ((s3.1 5532) + (1 : Int32))) 80 (upd (s3.2.1 80) ((s1.1 5532)).toNatClampNeg (s3.1 5530)))) rfl ?_
          exact Ex.zr hq rfl rfl (Or.inr rfl) ⟨(1 : Int32), (sA (sI s3 5532 ((s3.1 5532) + (1 : Int32))) 80 (upd (s3.2.1 80) ((s1.1 5532)).toNatClampNeg (s3.1 5530))), rfl, (Or.inr rfl), rfl, k⟩
        · have k := k.2 c
          refine Ex.seg hq 1 (j := 94) (L' := [.ref 55, .int r2, .int (s1.1 5532)]) (S' := [.int (0 : Int32)]) (h' := hpS s3) rfl ?_
          exact Ex.zr hq rfl rfl (Or.inl rfl) ⟨(0 : Int32), s3, rfl, (Or.inl rfl), rfl, k⟩
      · have k := k.2 c
        refine Ex.seg hq 2 (j := 63) (L' := [.ref 55, .int r2, .int (s1.1 5532)]) (S' := [.int (19 : Int32), .ref 55]) (h' := hpS (sA (sA (sA (sA (sI s1 5526 ((s1.1 5526) + (1 : Int32))) 78 (upd (s1.2.1 78) ((s1.1 5532)).toNatClampNeg r2)) 81 (upd (s1.2.1 81) ((s1.1 5532)).toNatClampNeg (0 : Int32))) 82 (upd (s1.2.1 82) ((s1.1 5532)).toNatClampNeg (0 : Int32))) 79 (upd (s1.2.1 79) ((s1.1 5532)).toNatClampNeg (s1.1 5530)))) rfl ?_
        refine Ex.cl hq rfl rfl ?_
        refine Rn.mono (q_206 (d := d + 4) (19 : Int32) (sA (sA (sA (sA (sI s1 5526 ((s1.1 5526) + (1 : Int32))) 78 (upd (s1.2.1 78) ((s1.1 5532)).toNatClampNeg r2)) 81 (upd (s1.2.1 81) ((s1.1 5532)).toNatClampNeg (0 : Int32))) 82 (upd (s1.2.1 82) ((s1.1 5532)).toNatClampNeg (0 : Int32))) 79 (upd (s1.2.1 79) ((s1.1 5532)).toNatClampNeg (s1.1 5530))) k) ?_
        rintro _ _ ⟨r6, s5, rfl, hzr6, rfl, k⟩
        show Ex sc (d + 7) 221 64 [.ref 55, .int r2, .int (s1.1 5532)] [.int r6] (hpS s5) _
        refine Ex.i1 hq rfl (fun c => ?_) (fun c => ?_)
        · have k := k.1 c
          refine Ex.seg hq 5 (j := 72) (L' := [.ref 55, .int r2, .int (s1.1 5532)]) (S' := [.int (s5.1 5533), .int (s1.1 5532), .ref 81]) (h' := hpS s5) rfl ?_
          obtain ⟨hin, k⟩ := k
          refine Ex.ias hq rfl rfl hin (h' := hpS (sA s5 81 (upd (s5.2.1 81) ((s1.1 5532)).toNatClampNeg (s5.1 5533)))) (hset_81 _ _) ?_
          refine Ex.seg hq 2 (j := 75) (L' := [.ref 55, .int r2, .int (s1.1 5532)]) (S' := [.int (46 : Int32), .ref 55]) (h' := hpS (sA s5 81 (upd (s5.2.1 81) ((s1.1 5532)).toNatClampNeg (s5.1 5533)))) rfl ?_
          refine Ex.cl hq rfl rfl ?_
          refine Rn.mono (q_205 (d := d + 5) (46 : Int32) (sA s5 81 (upd (s5.2.1 81) ((s1.1 5532)).toNatClampNeg (s5.1 5533))) k) ?_
          rintro _ _ ⟨r8, s7, rfl, hzr8, rfl, k⟩
          show Ex sc (d + 7) 221 76 [.ref 55, .int r2, .int (s1.1 5532)] [.int r8] (hpS s7) _
          refine Ex.i1 hq rfl (fun c => ?_) (fun c => ?_)
          · have k := k.1 c
            refine Ex.seg hq 1 (j := 82) (L' := [.ref 55, .int r2, .int (s1.1 5532)]) (S' := [.int (0 : Int32)]) (h' := hpS s7) rfl ?_
            exact Ex.zr hq rfl rfl (Or.inl rfl) ⟨(0 : Int32), s7, rfl, (Or.inl rfl), rfl, k⟩
          · have k := k.2 c
            refine Ex.seg hq 2 (j := 79) (L' := [.ref 55, .int r2, .int (s1.1 5532)]) (S' := [.int (9 : Int32), .ref 55]) (h' := hpS s7) rfl ?_
            refine Ex.cl hq rfl rfl ?_
            refine Rn.mono (q_206 (d := d + 4) (9 : Int32) s7 k) ?_
            rintro _ _ ⟨r10, s9, rfl, hzr10, rfl, k⟩
            show Ex sc (d + 7) 221 80 [.ref 55, .int r2, .int (s1.1 5532)] [.int r10] (hpS s9) _
            refine Ex.i1 hq rfl (fun c => ?_) (fun c => ?_)
            · have k := k.1 c
              refine Ex.seg hq 5 (j := 88) (L' := [.ref 55, .int r2, .int (s1.1 5532)]) (S' := [.int (s9.1 5533), .int (s1.1 5532), .ref 82]) (h' := hpS s9) rfl ?_
              obtain ⟨hin, k⟩ := k
              refine Ex.ias hq rfl rfl hin (h' := hpS (sA s9 82 (upd (s9.2.1 82) ((s1.1 5532)).toNatClampNeg (s9.1 5533)))) (hset_82 _ _) ?_
              refine Ex.seg hq 6 (j := 100) (L' := [.ref 55, .int r2, .int (s1.1 5532)]) (S' := [.int (s9.1 5530), .int (s1.1 5532), .ref 80]) (h' := hpS (sA s9 82 (upd (s9.2.1 82) ((s1.1 5532)).toNatClampNeg (s9.1 5533)))) rfl ?_
              obtain ⟨hin, k⟩ := k
              refine Ex.ias hq rfl rfl hin (h' := hpS (sA (sA s9 82 (upd (s9.2.1 82) ((s1.1 5532)).toNatClampNeg (s9.1 5533))) 80 (upd (s9.2.1 80) ((s1.1 5532)).toNatClampNeg (s9.1 5530)))) (hset_80 _ _) ?_
              refine Ex.seg hq 7 (j := 108) (L' := [.ref 55, .int r2, .int (s1.1 5532)]) (S' := [.int (1 : Int32)]) (h' := hpS (sA (sA (sI s9 5532 ((s9.1 5532) + (1 : Int32))) 82 (upd (s9.2.1 82) ((s1.1 5532)).toNatClampNeg (s9.1 5533))) 80 (upd (s9.2.1 80) ((s1.1 5532)).toNatClampNeg (s9.1 5530)))) rfl ?_
              exact Ex.zr hq rfl rfl (Or.inr rfl) ⟨(1 : Int32), (sA (sA (sI s9 5532 ((s9.1 5532) + (1 : Int32))) 82 (upd (s9.2.1 82) ((s1.1 5532)).toNatClampNeg (s9.1 5533))) 80 (upd (s9.2.1 80) ((s1.1 5532)).toNatClampNeg (s9.1 5530))), rfl, (Or.inr rfl), rfl, k⟩
            · have k := k.2 c
              refine Ex.seg hq 1 (j := 82) (L' := [.ref 55, .int r2, .int (s1.1 5532)]) (S' := [.int (0 : Int32)]) (h' := hpS s9) rfl ?_
              exact Ex.zr hq rfl rfl (Or.inl rfl) ⟨(0 : Int32), s9, rfl, (Or.inl rfl), rfl, k⟩
        · have k := k.2 c
          refine Ex.seg hq 1 (j := 66) (L' := [.ref 55, .int r2, .int (s1.1 5532)]) (S' := [.int (0 : Int32)]) (h' := hpS s5) rfl ?_
          exact Ex.zr hq rfl rfl (Or.inl rfl) ⟨(0 : Int32), s5, rfl, (Or.inl rfl), rfl, k⟩
    · have k := k.2 c
      refine Ex.seg hq 4 (j := 26) (L' := [.ref 55, .int r2, pu]) (S' := [.int (s1.1 5526), .int (4 : Int32), .ref 55]) (h' := hpS s1) rfl ?_
      refine Ex.cl hq rfl rfl ?_
      refine Rn.mono (q_204 (d := d + 6) (4 : Int32) (s1.1 5526) s1 k) ?_
      rintro _ _ ⟨r12, s11, rfl, hzr12, rfl, k⟩
      show Ex sc (d + 7) 221 27 [.ref 55, .int r2, pu] [.int r12] (hpS s11) _
      exact Ex.zr hq rfl rfl hzr12 ⟨r12, s11, rfl, hzr12, rfl, k⟩
  · have k := k.2 c
    refine Ex.seg hq 2 (j := 8) (L' := [.ref 55, .int r2, pu]) (S' := [.int (108 : Int32), .int r2]) (h' := hpS s1) rfl ?_
    refine Ex.i2 hq rfl (fun c => ?_) (fun c => ?_)
    · have k := k.1 c
      refine Ex.seg hq 3 (j := 21) (L' := [.ref 55, .int r2, pu]) (S' := [.int (10 : Int32), .int (s1.1 5532)]) (h' := hpS s1) rfl ?_
      refine Ex.i2 hq rfl (fun c => ?_) (fun c => ?_)
      · have k := k.1 c
        refine Ex.seg hq 13 (j := 41) (L' := [.ref 55, .int r2, .int (s1.1 5532)]) (S' := [.int r2, .int (s1.1 5532), .ref 78]) (h' := hpS (sI s1 5526 ((s1.1 5526) + (1 : Int32)))) rfl ?_
        obtain ⟨hin, k⟩ := k
        refine Ex.ias hq rfl rfl hin (h' := hpS (sA (sI s1 5526 ((s1.1 5526) + (1 : Int32))) 78 (upd (s1.2.1 78) ((s1.1 5532)).toNatClampNeg r2))) (hset_78 _ _) ?_
        refine Ex.seg hq 4 (j := 46) (L' := [.ref 55, .int r2, .int (s1.1 5532)]) (S' := [.int (0 : Int32), .int (s1.1 5532), .ref 81]) (h' := hpS (sA (sI s1 5526 ((s1.1 5526) + (1 : Int32))) 78 (upd (s1.2.1 78) ((s1.1 5532)).toNatClampNeg r2))) rfl ?_
        obtain ⟨hin, k⟩ := k
        refine Ex.ias hq rfl rfl hin (h' := hpS (sA (sA (sI s1 5526 ((s1.1 5526) + (1 : Int32))) 78 (upd (s1.2.1 78) ((s1.1 5532)).toNatClampNeg r2)) 81 (upd (s1.2.1 81) ((s1.1 5532)).toNatClampNeg (0 : Int32)))) (hset_81 _ _) ?_
        refine Ex.seg hq 4 (j := 51) (L' := [.ref 55, .int r2, .int (s1.1 5532)]) (S' := [.int (0 : Int32), .int (s1.1 5532), .ref 82]) (h' := hpS (sA (sA (sI s1 5526 ((s1.1 5526) + (1 : Int32))) 78 (upd (s1.2.1 78) ((s1.1 5532)).toNatClampNeg r2)) 81 (upd (s1.2.1 81) ((s1.1 5532)).toNatClampNeg (0 : Int32)))) rfl ?_
        obtain ⟨hin, k⟩ := k
        refine Ex.ias hq rfl rfl hin (h' := hpS (sA (sA (sA (sI s1 5526 ((s1.1 5526) + (1 : Int32))) 78 (upd (s1.2.1 78) ((s1.1 5532)).toNatClampNeg r2)) 81 (upd (s1.2.1 81) ((s1.1 5532)).toNatClampNeg (0 : Int32))) 82 (upd (s1.2.1 82) ((s1.1 5532)).toNatClampNeg (0 : Int32)))) (hset_82 _ _) ?_
        refine Ex.seg hq 5 (j := 57) (L' := [.ref 55, .int r2, .int (s1.1 5532)]) (S' := [.int (s1.1 5530), .int (s1.1 5532), .ref 79]) (h' := hpS (sA (sA (sA (sI s1 5526 ((s1.1 5526) + (1 : Int32))) 78 (upd (s1.2.1 78) ((s1.1 5532)).toNatClampNeg r2)) 81 (upd (s1.2.1 81) ((s1.1 5532)).toNatClampNeg (0 : Int32))) 82 (upd (s1.2.1 82) ((s1.1 5532)).toNatClampNeg (0 : Int32)))) rfl ?_
        obtain ⟨hin, k⟩ := k
        refine Ex.ias hq rfl rfl hin (h' := hpS (sA (sA (sA (sA (sI s1 5526 ((s1.1 5526) + (1 : Int32))) 78 (upd (s1.2.1 78) ((s1.1 5532)).toNatClampNeg r2)) 81 (upd (s1.2.1 81) ((s1.1 5532)).toNatClampNeg (0 : Int32))) 82 (upd (s1.2.1 82) ((s1.1 5532)).toNatClampNeg (0 : Int32))) 79 (upd (s1.2.1 79) ((s1.1 5532)).toNatClampNeg (s1.1 5530)))) (hset_79 _ _) ?_
        refine Ex.seg hq 2 (j := 60) (L' := [.ref 55, .int r2, .int (s1.1 5532)]) (S' := [.int (120 : Int32), .int r2]) (h' := hpS (sA (sA (sA (sA (sI s1 5526 ((s1.1 5526) + (1 : Int32))) 78 (upd (s1.2.1 78) ((s1.1 5532)).toNatClampNeg r2)) 81 (upd (s1.2.1 81) ((s1.1 5532)).toNatClampNeg (0 : Int32))) 82 (upd (s1.2.1 82) ((s1.1 5532)).toNatClampNeg (0 : Int32))) 79 (upd (s1.2.1 79) ((s1.1 5532)).toNatClampNeg (s1.1 5530)))) rfl ?_
        refine Ex.i2 hq rfl (fun c => ?_) (fun c => ?_)
        · have k := k.1 c
          refine Ex.seg hq 1 (j := 91) (L' := [.ref 55, .int r2, .int (s1.1 5532)]) (S' := [.ref 55]) (h' := hpS (sA (sA (sA (sA (sI s1 5526 ((s1.1 5526) + (1 : Int32))) 78 (upd (s1.2.1 78) ((s1.1 5532)).toNatClampNeg r2)) 81 (upd (s1.2.1 81) ((s1.1 5532)).toNatClampNeg (0 : Int32))) 82 (upd (s1.2.1 82) ((s1.1 5532)).toNatClampNeg (0 : Int32))) 79 (upd (s1.2.1 79) ((s1.1 5532)).toNatClampNeg (s1.1 5530)))) rfl ?_
          refine Ex.cl hq rfl rfl ?_
          refine Rn.mono (q_220 (d := d + 0) (sA (sA (sA (sA (sI s1 5526 ((s1.1 5526) + (1 : Int32))) 78 (upd (s1.2.1 78) ((s1.1 5532)).toNatClampNeg r2)) 81 (upd (s1.2.1 81) ((s1.1 5532)).toNatClampNeg (0 : Int32))) 82 (upd (s1.2.1 82) ((s1.1 5532)).toNatClampNeg (0 : Int32))) 79 (upd (s1.2.1 79) ((s1.1 5532)).toNatClampNeg (s1.1 5530))) k) ?_
          rintro _ _ ⟨r14, s13, rfl, hzr14, rfl, k⟩
          show Ex sc (d + 7) 221 92 [.ref 55, .int r2, .int (s1.1 5532)] [.int r14] (hpS s13) _
          refine Ex.i1 hq rfl (fun c => ?_) (fun c => ?_)
          · have k := k.1 c
            refine Ex.seg hq 5 (j := 100) (L' := [.ref 55, .int r2, .int (s1.1 5532)]) (S' := [.int (s13.1 5530), .int (s1.1 5532), .ref 80]) (h' := hpS s13) rfl ?_
            obtain ⟨hin, k⟩ := k
            refine Ex.ias hq rfl rfl hin (h' := hpS (sA s13 80 (upd (s13.2.1 80) ((s1.1 5532)).toNatClampNeg (s13.1 5530)))) (hset_80 _ _) ?_
            refine Ex.seg hq 7 (j := 108) (L' := [.ref 55, .int r2, .int (s1.1 5532)]) (S' := [.int (1 : Int32)]) (h' := hpS (sA (sI s13 5532 ((s13.1 5532) + (1 : Int32))) 80 (upd (s13.2.1 80) ((s1.1 5532)).toNatClampNeg (s13.1 5530)))) rfl ?_
            exact Ex.zr hq rfl rfl (Or.inr rfl) ⟨(1 : Int32), (sA (sI s13 5532 ((s13.1 5532) + (1 : Int32))) 80 (upd (s13.2.1 80) ((s1.1 5532)).toNatClampNeg (s13.1 5530))), rfl, (Or.inr rfl), rfl, k⟩
          · have k := k.2 c
            refine Ex.seg hq 1 (j := 94) (L' := [.ref 55, .int r2, .int (s1.1 5532)]) (S' := [.int (0 : Int32)]) (h' := hpS s13) rfl ?_
            exact Ex.zr hq rfl rfl (Or.inl rfl) ⟨(0 : Int32), s13, rfl, (Or.inl rfl), rfl, k⟩
        · have k := k.2 c
          refine Ex.seg hq 2 (j := 63) (L' := [.ref 55, .int r2, .int (s1.1 5532)]) (S' := [.int (19 : Int32), .ref 55]) (h' := hpS (sA (sA (sA (sA (sI s1 5526 ((s1.1 5526) + (1 : Int32))) 78 (upd (s1.2.1 78) ((s1.1 5532)).toNatClampNeg r2)) 81 (upd (s1.2.1 81) ((s1.1 5532)).toNatClampNeg (0 : Int32))) 82 (upd (s1.2.1 82) ((s1.1 5532)).toNatClampNeg (0 : Int32))) 79 (upd (s1.2.1 79) ((s1.1 5532)).toNatClampNeg (s1.1 5530)))) rfl ?_
          refine Ex.cl hq rfl rfl ?_
          refine Rn.mono (q_206 (d := d + 4) (19 : Int32) (sA (sA (sA (sA (sI s1 5526 ((s1.1 5526) + (1 : Int32))) 78 (upd (s1.2.1 78) ((s1.1 5532)).toNatClampNeg r2)) 81 (upd (s1.2.1 81) ((s1.1 5532)).toNatClampNeg (0 : Int32))) 82 (upd (s1.2.1 82) ((s1.1 5532)).toNatClampNeg (0 : Int32))) 79 (upd (s1.2.1 79) ((s1.1 5532)).toNatClampNeg (s1.1 5530))) k) ?_
          rintro _ _ ⟨r16, s15, rfl, hzr16, rfl, k⟩
          show Ex sc (d + 7) 221 64 [.ref 55, .int r2, .int (s1.1 5532)] [.int r16] (hpS s15) _
          refine Ex.i1 hq rfl (fun c => ?_) (fun c => ?_)
          · have k := k.1 c
            refine Ex.seg hq 5 (j := 72) (L' := [.ref 55, .int r2, .int (s1.1 5532)]) (S' := [.int (s15.1 5533), .int (s1.1 5532), .ref 81]) (h' := hpS s15) rfl ?_
            obtain ⟨hin, k⟩ := k
            refine Ex.ias hq rfl rfl hin (h' := hpS (sA s15 81 (upd (s15.2.1 81) ((s1.1 5532)).toNatClampNeg (s15.1 5533)))) (hset_81 _ _) ?_
            refine Ex.seg hq 2 (j := 75) (L' := [.ref 55, .int r2, .int (s1.1 5532)]) (S' := [.int (46 : Int32), .ref 55]) (h' := hpS (sA s15 81 (upd (s15.2.1 81) ((s1.1 5532)).toNatClampNeg (s15.1 5533)))) rfl ?_
            refine Ex.cl hq rfl rfl ?_
            refine Rn.mono (q_205 (d := d + 5) (46 : Int32) (sA s15 81 (upd (s15.2.1 81) ((s1.1 5532)).toNatClampNeg (s15.1 5533))) k) ?_
            rintro _ _ ⟨r18, s17, rfl, hzr18, rfl, k⟩
            show Ex sc (d + 7) 221 76 [.ref 55, .int r2, .int (s1.1 5532)] [.int r18] (hpS s17) _
            refine Ex.i1 hq rfl (fun c => ?_) (fun c => ?_)
            · have k := k.1 c
              refine Ex.seg hq 1 (j := 82) (L' := [.ref 55, .int r2, .int (s1.1 5532)]) (S' := [.int (0 : Int32)]) (h' := hpS s17) rfl ?_
              exact Ex.zr hq rfl rfl (Or.inl rfl) ⟨(0 : Int32), s17, rfl, (Or.inl rfl), rfl, k⟩
            · have k := k.2 c
              refine Ex.seg hq 2 (j := 79) (L' := [.ref 55, .int r2, .int (s1.1 5532)]) (S' := [.int (9 : Int32), .ref 55]) (h' := hpS s17) rfl ?_
              refine Ex.cl hq rfl rfl ?_
              refine Rn.mono (q_206 (d := d + 4) (9 : Int32) s17 k) ?_
              rintro _ _ ⟨r20, s19, rfl, hzr20, rfl, k⟩
              show Ex sc (d + 7) 221 80 [.ref 55, .int r2, .int (s1.1 5532)] [.int r20] (hpS s19) _
              refine Ex.i1 hq rfl (fun c => ?_) (fun c => ?_)
              · have k := k.1 c
                refine Ex.seg hq 5 (j := 88) (L' := [.ref 55, .int r2, .int (s1.1 5532)]) (S' := [.int (s19.1 5533), .int (s1.1 5532), .ref 82]) (h' := hpS s19) rfl ?_
                obtain ⟨hin, k⟩ := k
                refine Ex.ias hq rfl rfl hin (h' := hpS (sA s19 82 (upd (s19.2.1 82) ((s1.1 5532)).toNatClampNeg (s19.1 5533)))) (hset_82 _ _) ?_
                refine Ex.seg hq 6 (j := 100) (L' := [.ref 55, .int r2, .int (s1.1 5532)]) (S' := [.int (s19.1 5530), .int (s1.1 5532), .ref 80]) (h' := hpS (sA s19 82 (upd (s19.2.1 82) ((s1.1 5532)).toNatClampNeg (s19.1 5533)))) rfl ?_
                obtain ⟨hin, k⟩ := k
                refine Ex.ias hq rfl rfl hin (h' := hpS (sA (sA s19 82 (upd (s19.2.1 82) ((s1.1 5532)).toNatClampNeg (s19.1 5533))) 80 (upd (s19.2.1 80) ((s1.1 5532)).toNatClampNeg (s19.1 5530)))) (hset_80 _ _) ?_
                refine Ex.seg hq 7 (j := 108) (L' := [.ref 55, .int r2, .int (s1.1 5532)]) (S' := [.int (1 : Int32)]) (h' := hpS (sA (sA (sI s19 5532 ((s19.1 5532) + (1 : Int32))) 82 (upd (s19.2.1 82) ((s1.1 5532)).toNatClampNeg (s19.1 5533))) 80 (upd (s19.2.1 80) ((s1.1 5532)).toNatClampNeg (s19.1 5530)))) rfl ?_
                exact Ex.zr hq rfl rfl (Or.inr rfl) ⟨(1 : Int32), (sA (sA (sI s19 5532 ((s19.1 5532) + (1 : Int32))) 82 (upd (s19.2.1 82) ((s1.1 5532)).toNatClampNeg (s19.1 5533))) 80 (upd (s19.2.1 80) ((s1.1 5532)).toNatClampNeg (s19.1 5530))), rfl, (Or.inr rfl), rfl, k⟩
              · have k := k.2 c
                refine Ex.seg hq 1 (j := 82) (L' := [.ref 55, .int r2, .int (s1.1 5532)]) (S' := [.int (0 : Int32)]) (h' := hpS s19) rfl ?_
                exact Ex.zr hq rfl rfl (Or.inl rfl) ⟨(0 : Int32), s19, rfl, (Or.inl rfl), rfl, k⟩
          · have k := k.2 c
            refine Ex.seg hq 1 (j := 66) (L' := [.ref 55, .int r2, .int (s1.1 5532)]) (S' := [.int (0 : Int32)]) (h' := hpS s15) rfl ?_
            exact Ex.zr hq rfl rfl (Or.inl rfl) ⟨(0 : Int32), s15, rfl, (Or.inl rfl), rfl, k⟩
      · have k := k.2 c
        refine Ex.seg hq 4 (j := 26) (L' := [.ref 55, .int r2, pu]) (S' := [.int (s1.1 5526), .int (4 : Int32), .ref 55]) (h' := hpS s1) rfl ?_
        refine Ex.cl hq rfl rfl ?_
        refine Rn.mono (q_204 (d := d + 6) (4 : Int32) (s1.1 5526) s1 k) ?_
        rintro _ _ ⟨r22, s21, rfl, hzr22, rfl, k⟩
        show Ex sc (d + 7) 221 27 [.ref 55, .int r2, pu] [.int r22] (hpS s21) _
        exact Ex.zr hq rfl rfl hzr22 ⟨r22, s21, rfl, hzr22, rfl, k⟩
    · have k := k.2 c
      refine Ex.seg hq 2 (j := 11) (L' := [.ref 55, .int r2, pu]) (S' := [.int (120 : Int32), .int r2]) (h' := hpS s1) rfl ?_
      refine Ex.i2 hq rfl (fun c => ?_) (fun c => ?_)
      · have k := k.1 c
        refine Ex.seg hq 3 (j := 21) (L' := [.ref 55, .int r2, pu]) (S' := [.int (10 : Int32), .int (s1.1 5532)]) (h' := hpS s1) rfl ?_
        refine Ex.i2 hq rfl (fun c => ?_) (fun c => ?_)
        · have k := k.1 c
          refine Ex.seg hq 13 (j := 41) (L' := [.ref 55, .int r2, .int (s1.1 5532)]) (S' := [.int r2, .int (s1.1 5532), .ref 78]) (h' := hpS (sI s1 5526 ((s1.1 5526) + (1 : Int32)))) rfl ?_
          obtain ⟨hin, k⟩ := k
          refine Ex.ias hq rfl rfl hin (h' := hpS (sA (sI s1 5526 ((s1.1 5526) + (1 : Int32))) 78 (upd (s1.2.1 78) ((s1.1 5532)).toNatClampNeg r2))) (hset_78 _ _) ?_
          refine Ex.seg hq 4 (j := 46) (L' := [.ref 55, .int r2, .int (s1.1 5532)]) (S' := [.int (0 : Int32), .int (s1.1 5532), .ref 81]) (h' := hpS (sA (sI s1 5526 ((s1.1 5526) + (1 : Int32))) 78 (upd (s1.2.1 78) ((s1.1 5532)).toNatClampNeg r2))) rfl ?_
          obtain ⟨hin, k⟩ := k
          refine Ex.ias hq rfl rfl hin (h' := hpS (sA (sA (sI s1 5526 ((s1.1 5526) + (1 : Int32))) 78 (upd (s1.2.1 78) ((s1.1 5532)).toNatClampNeg r2)) 81 (upd (s1.2.1 81) ((s1.1 5532)).toNatClampNeg (0 : Int32)))) (hset_81 _ _) ?_
          refine Ex.seg hq 4 (j := 51) (L' := [.ref 55, .int r2, .int (s1.1 5532)]) (S' := [.int (0 : Int32), .int (s1.1 5532), .ref 82]) (h' := hpS (sA (sA (sI s1 5526 ((s1.1 5526) + (1 : Int32))) 78 (upd (s1.2.1 78) ((s1.1 5532)).toNatClampNeg r2)) 81 (upd (s1.2.1 81) ((s1.1 5532)).toNatClampNeg (0 : Int32)))) rfl ?_
          obtain ⟨hin, k⟩ := k
          refine Ex.ias hq rfl rfl hin (h' := hpS (sA (sA (sA (sI s1 5526 ((s1.1 5526) + (1 : Int32))) 78 (upd (s1.2.1 78) ((s1.1 5532)).toNatClampNeg r2)) 81 (upd (s1.2.1 81) ((s1.1 5532)).toNatClampNeg (0 : Int32))) 82 (upd (s1.2.1 82) ((s1.1 5532)).toNatClampNeg (0 : Int32)))) (hset_82 _ _) ?_
          refine Ex.seg hq 5 (j := 57) (L' := [.ref 55, .int r2, .int (s1.1 5532)]) (S' := [.int (s1.1 5530), .int (s1.1 5532), .ref 79]) (h' := hpS (sA (sA (sA (sI s1 5526 ((s1.1 5526) + (1 : Int32))) 78 (upd (s1.2.1 78) ((s1.1 5532)).toNatClampNeg r2)) 81 (upd (s1.2.1 81) ((s1.1 5532)).toNatClampNeg (0 : Int32))) 82 (upd (s1.2.1 82) ((s1.1 5532)).toNatClampNeg (0 : Int32)))) rfl ?_
          obtain ⟨hin, k⟩ := k
          refine Ex.ias hq rfl rfl hin (h' := hpS (sA (sA (sA (sA (sI s1 5526 ((s1.1 5526) + (1 : Int32))) 78 (upd (s1.2.1 78) ((s1.1 5532)).toNatClampNeg r2)) 81 (upd (s1.2.1 81) ((s1.1 5532)).toNatClampNeg (0 : Int32))) 82 (upd (s1.2.1 82) ((s1.1 5532)).toNatClampNeg (0 : Int32))) 79 (upd (s1.2.1 79) ((s1.1 5532)).toNatClampNeg (s1.1 5530)))) (hset_79 _ _) ?_
          refine Ex.seg hq 2 (j := 60) (L' := [.ref 55, .int r2, .int (s1.1 5532)]) (S' := [.int (120 : Int32), .int r2]) (h' := hpS (sA (sA (sA (sA (sI s1 5526 ((s1.1 5526) + (1 : Int32))) 78 (upd (s1.2.1 78) ((s1.1 5532)).toNatClampNeg r2)) 81 (upd (s1.2.1 81) ((s1.1 5532)).toNatClampNeg (0 : Int32))) 82 (upd (s1.2.1 82) ((s1.1 5532)).toNatClampNeg (0 : Int32))) 79 (upd (s1.2.1 79) ((s1.1 5532)).toNatClampNeg (s1.1 5530)))) rfl ?_
          refine Ex.i2 hq rfl (fun c => ?_) (fun c => ?_)
          · have k := k.1 c
            refine Ex.seg hq 1 (j := 91) (L' := [.ref 55, .int r2, .int (s1.1 5532)]) (S' := [.ref 55]) (h' := hpS (sA (sA (sA (sA (sI s1 5526 ((s1.1 5526) + (1 : Int32))) 78 (upd (s1.2.1 78) ((s1.1 5532)).toNatClampNeg r2)) 81 (upd (s1.2.1 81) ((s1.1 5532)).toNatClampNeg (0 : Int32))) 82 (upd (s1.2.1 82) ((s1.1 5532)).toNatClampNeg (0 : Int32))) 79 (upd (s1.2.1 79) ((s1.1 5532)).toNatClampNeg (s1.1 5530)))) rfl ?_
            refine Ex.cl hq rfl rfl ?_
            refine Rn.mono (q_220 (d := d + 0) (sA (sA (sA (sA (sI s1 5526 ((s1.1 5526) + (1 : Int32))) 78 (upd (s1.2.1 78) ((s1.1 5532)).toNatClampNeg r2)) 81 (upd (s1.2.1 81) ((s1.1 5532)).toNatClampNeg (0 : Int32))) 82 (upd (s1.2.1 82) ((s1.1 5532)).toNatClampNeg (0 : Int32))) 79 (upd (s1.2.1 79) ((s1.1 5532)).toNatClampNeg (s1.1 5530))) k) ?_
            rintro _ _ ⟨r24, s23, rfl, hzr24, rfl, k⟩
            show Ex sc (d + 7) 221 92 [.ref 55, .int r2, .int (s1.1 5532)] [.int r24] (hpS s23) _
            refine Ex.i1 hq rfl (fun c => ?_) (fun c => ?_)
            · have k := k.1 c
              refine Ex.seg hq 5 (j := 100) (L' := [.ref 55, .int r2, .int (s1.1 5532)]) (S' := [.int (s23.1 5530), .int (s1.1 5532), .ref 80]) (h' := hpS s23) rfl ?_
              obtain ⟨hin, k⟩ := k
              refine Ex.ias hq rfl rfl hin (h' := hpS (sA s23 80 (upd (s23.2.1 80) ((s1.1 5532)).toNatClampNeg (s23.1 5530)))) (hset_80 _ _) ?_
              refine Ex.seg hq 7 (j := 108) (L' := [.ref 55, .int r2, .int (s1.1 5532)]) (S' := [.int (1 : Int32)]) (h' := hpS (sA (sI s23 5532 ((s23.1 5532) + (1 : Int32))) 80 (upd (s23.2.1 80) ((s1.1 5532)).toNatClampNeg (s23.1 5530)))) rfl ?_
              exact Ex.zr hq rfl rfl (Or.inr rfl) ⟨(1 : Int32), (sA (sI s23 5532 ((s23.1 5532) + (1 : Int32))) 80 (upd (s23.2.1 80) ((s1.1 5532)).toNatClampNeg (s23.1 5530))), rfl, (Or.inr rfl), rfl, k⟩
            · have k := k.2 c
              refine Ex.seg hq 1 (j := 94) (L' := [.ref 55, .int r2, .int (s1.1 5532)]) (S' := [.int (0 : Int32)]) (h' := hpS s23) rfl ?_
              exact Ex.zr hq rfl rfl (Or.inl rfl) ⟨(0 : Int32), s23, rfl, (Or.inl rfl), rfl, k⟩
          · have k := k.2 c
            refine Ex.seg hq 2 (j := 63) (L' := [.ref 55, .int r2, .int (s1.1 5532)]) (S' := [.int (19 : Int32), .ref 55]) (h' := hpS (sA (sA (sA (sA (sI s1 5526 ((s1.1 5526) + (1 : Int32))) 78 (upd (s1.2.1 78) ((s1.1 5532)).toNatClampNeg r2)) 81 (upd (s1.2.1 81) ((s1.1 5532)).toNatClampNeg (0 : Int32))) 82 (upd (s1.2.1 82) ((s1.1 5532)).toNatClampNeg (0 : Int32))) 79 (upd (s1.2.1 79) ((s1.1 5532)).toNatClampNeg (s1.1 5530)))) rfl ?_
            refine Ex.cl hq rfl rfl ?_
            refine Rn.mono (q_206 (d := d + 4) (19 : Int32) (sA (sA (sA (sA (sI s1 5526 ((s1.1 5526) + (1 : Int32))) 78 (upd (s1.2.1 78) ((s1.1 5532)).toNatClampNeg r2)) 81 (upd (s1.2.1 81) ((s1.1 5532)).toNatClampNeg (0 : Int32))) 82 (upd (s1.2.1 82) ((s1.1 5532)).toNatClampNeg (0 : Int32))) 79 (upd (s1.2.1 79) ((s1.1 5532)).toNatClampNeg (s1.1 5530))) k) ?_
            rintro _ _ ⟨r26, s25, rfl, hzr26, rfl, k⟩
            show Ex sc (d + 7) 221 64 [.ref 55, .int r2, .int (s1.1 5532)] [.int r26] (hpS s25) _
            refine Ex.i1 hq rfl (fun c => ?_) (fun c => ?_)
            · have k := k.1 c
              refine Ex.seg hq 5 (j := 72) (L' := [.ref 55, .int r2, .int (s1.1 5532)]) (S' := [.int (s25.1 5533), .int (s1.1 5532), .ref 81]) (h' := hpS s25) rfl ?_
              obtain ⟨hin, k⟩ := k
              refine Ex.ias hq rfl rfl hin (h' := hpS (sA s25 81 (upd (s25.2.1 81) ((s1.1 5532)).toNatClampNeg (s25.1 5533)))) (hset_81 _ _) ?_
              refine Ex.seg hq 2 (j := 75) (L' := [.ref 55, .int r2, .int (s1.1 5532)]) (S' := [.int (46 : Int32), .ref 55]) (h' := hpS (sA s25 81 (upd (s25.2.1 81) ((s1.1 5532)).toNatClampNeg (s25.1 5533)))) rfl ?_
              refine Ex.cl hq rfl rfl ?_
              refine Rn.mono (q_205 (d := d + 5) (46 : Int32) (sA s25 81 (upd (s25.2.1 81) ((s1.1 5532)).toNatClampNeg (s25.1 5533))) k) ?_
              rintro _ _ ⟨r28, s27, rfl, hzr28, rfl, k⟩
              show Ex sc (d + 7) 221 76 [.ref 55, .int r2, .int (s1.1 5532)] [.int r28] (hpS s27) _
              refine Ex.i1 hq rfl (fun c => ?_) (fun c => ?_)
              · have k := k.1 c
                refine Ex.seg hq 1 (j := 82) (L' := [.ref 55, .int r2, .int (s1.1 5532)]) (S' := [.int (0 : Int32)]) (h' := hpS s27) rfl ?_
                exact Ex.zr hq rfl rfl (Or.inl rfl) ⟨(0 : Int32), s27, rfl, (Or.inl rfl), rfl, k⟩
              · have k := k.2 c
                refine Ex.seg hq 2 (j := 79) (L' := [.ref 55, .int r2, .int (s1.1 5532)]) (S' := [.int (9 : Int32), .ref 55]) (h' := hpS s27) rfl ?_
                refine Ex.cl hq rfl rfl ?_
                refine Rn.mono (q_206 (d := d + 4) (9 : Int32) s27 k) ?_
                rintro _ _ ⟨r30, s29, rfl, hzr30, rfl, k⟩
                show Ex sc (d + 7) 221 80 [.ref 55, .int r2, .int (s1.1 5532)] [.int r30] (hpS s29) _
                refine Ex.i1 hq rfl (fun c => ?_) (fun c => ?_)
                · have k := k.1 c
                  refine Ex.seg hq 5 (j := 88) (L' := [.ref 55, .int r2, .int (s1.1 5532)]) (S' := [.int (s29.1 5533), .int (s1.1 5532), .ref 82]) (h' := hpS s29) rfl ?_
                  obtain ⟨hin, k⟩ := k
                  refine Ex.ias hq rfl rfl hin (h' := hpS (sA s29 82 (upd (s29.2.1 82) ((s1.1 5532)).toNatClampNeg (s29.1 5533)))) (hset_82 _ _) ?_
                  refine Ex.seg hq 6 (j := 100) (L' := [.ref 55, .int r2, .int (s1.1 5532)]) (S' := [.int (s29.1 5530), .int (s1.1 5532), .ref 80]) (h' := hpS (sA s29 82 (upd (s29.2.1 82) ((s1.1 5532)).toNatClampNeg (s29.1 5533)))) rfl ?_
                  obtain ⟨hin, k⟩ := k
                  refine Ex.ias hq rfl rfl hin (h' := hpS (sA (sA s29 82 (upd (s29.2.1 82) ((s1.1 5532)).toNatClampNeg (s29.1 5533))) 80 (upd (s29.2.1 80) ((s1.1 5532)).toNatClampNeg (s29.1 5530)))) (hset_80 _ _) ?_
                  refine Ex.seg hq 7 (j := 108) (L' := [.ref 55, .int r2, .int (s1.1 5532)]) (S' := [.int (1 : Int32)]) (h' := hpS (sA (sA (sI s29 5532 ((s29.1 5532) + (1 : Int32))) 82 (upd (s29.2.1 82) ((s1.1 5532)).toNatClampNeg (s29.1 5533))) 80 (upd (s29.2.1 80) ((s1.1 5532)).toNatClampNeg (s29.1 5530)))) rfl ?_
                  exact Ex.zr hq rfl rfl (Or.inr rfl) ⟨(1 : Int32), (sA (sA (sI s29 5532 ((s29.1 5532) + (1 : Int32))) 82 (upd (s29.2.1 82) ((s1.1 5532)).toNatClampNeg (s29.1 5533))) 80 (upd (s29.2.1 80) ((s1.1 5532)).toNatClampNeg (s29.1 5530))), rfl, (Or.inr rfl), rfl, k⟩
                · have k := k.2 c
                  refine Ex.seg hq 1 (j := 82) (L' := [.ref 55, .int r2, .int (s1.1 5532)]) (S' := [.int (0 : Int32)]) (h' := hpS s29) rfl ?_
                  exact Ex.zr hq rfl rfl (Or.inl rfl) ⟨(0 : Int32), s29, rfl, (Or.inl rfl), rfl, k⟩
            · have k := k.2 c
              refine Ex.seg hq 1 (j := 66) (L' := [.ref 55, .int r2, .int (s1.1 5532)]) (S' := [.int (0 : Int32)]) (h' := hpS s25) rfl ?_
              exact Ex.zr hq rfl rfl (Or.inl rfl) ⟨(0 : Int32), s25, rfl, (Or.inl rfl), rfl, k⟩
        · have k := k.2 c
          refine Ex.seg hq 4 (j := 26) (L' := [.ref 55, .int r2, pu]) (S' := [.int (s1.1 5526), .int (4 : Int32), .ref 55]) (h' := hpS s1) rfl ?_
          refine Ex.cl hq rfl rfl ?_
          refine Rn.mono (q_204 (d := d + 6) (4 : Int32) (s1.1 5526) s1 k) ?_
          rintro _ _ ⟨r32, s31, rfl, hzr32, rfl, k⟩
          show Ex sc (d + 7) 221 27 [.ref 55, .int r2, pu] [.int r32] (hpS s31) _
          exact Ex.zr hq rfl rfl hzr32 ⟨r32, s31, rfl, hzr32, rfl, k⟩
      · have k := k.2 c
        refine Ex.seg hq 4 (j := 16) (L' := [.ref 55, .int r2, pu]) (S' := [.int (s1.1 5526), .int (1 : Int32), .ref 55]) (h' := hpS s1) rfl ?_
        refine Ex.cl hq rfl rfl ?_
        refine Rn.mono (q_204 (d := d + 6) (1 : Int32) (s1.1 5526) s1 k) ?_
        rintro _ _ ⟨r34, s33, rfl, hzr34, rfl, k⟩
        show Ex sc (d + 7) 221 17 [.ref 55, .int r2, pu] [.int r34] (hpS s33) _
        exact Ex.zr hq rfl rfl hzr34 ⟨r34, s33, rfl, hzr34, rfl, k⟩
/-- RowAuditorModel.letterBit(I)I -/
def w_222 (p0 : Int32) (s : ST) (K : Int32 → ST → Prop) : Prop := ((¬ p0 = (112 : Int32) → ((¬ p0 = (119 : Int32) → ((¬ p0 = (111 : Int32) → K (0 : Int32) s) ∧ (¬ (¬ p0 = (111 : Int32)) → K (4 : Int32) s))) ∧ (¬ (¬ p0 = (119 : Int32)) → K (2 : Int32) s))) ∧ (¬ (¬ p0 = (112 : Int32)) → K (1 : Int32) s))
theorem q_222 {d : Nat} {K : Int32 → ST → Prop} (p0 : Int32) (s : ST) (k : w_222 p0 s K) : Rn sc (d + 0) 222 [.int p0] (hpS s) (kI K) := by
  have hq : prog[222]? = some pm222 := rfl
  refine Rn.of (L := [.int p0]) hq rfl rfl ?_
  unfold w_222 at k
  refine Ex.seg hq 2 (j := 2) (L' := [.int p0]) (S' := [.int (112 : Int32), .int p0]) (h' := hpS s) rfl ?_
  refine Ex.i2 hq rfl (fun c => ?_) (fun c => ?_)
  · have k := k.1 c
    refine Ex.seg hq 2 (j := 7) (L' := [.int p0]) (S' := [.int (119 : Int32), .int p0]) (h' := hpS s) rfl ?_
    refine Ex.i2 hq rfl (fun c => ?_) (fun c => ?_)
    · have k := k.1 c
      refine Ex.seg hq 2 (j := 12) (L' := [.int p0]) (S' := [.int (111 : Int32), .int p0]) (h' := hpS s) rfl ?_
      refine Ex.i2 hq rfl (fun c => ?_) (fun c => ?_)
      · have k := k.1 c
        refine Ex.seg hq 1 (j := 16) (L' := [.int p0]) (S' := [.int (0 : Int32)]) (h' := hpS s) rfl ?_
        exact Ex.rt hq rfl rfl ⟨(0 : Int32), s, rfl, rfl, k⟩
      · have k := k.2 c
        refine Ex.seg hq 2 (j := 16) (L' := [.int p0]) (S' := [.int (4 : Int32)]) (h' := hpS s) rfl ?_
        exact Ex.rt hq rfl rfl ⟨(4 : Int32), s, rfl, rfl, k⟩
    · have k := k.2 c
      refine Ex.seg hq 2 (j := 16) (L' := [.int p0]) (S' := [.int (2 : Int32)]) (h' := hpS s) rfl ?_
      exact Ex.rt hq rfl rfl ⟨(2 : Int32), s, rfl, rfl, k⟩
  · have k := k.2 c
    refine Ex.seg hq 2 (j := 16) (L' := [.int p0]) (S' := [.int (1 : Int32)]) (h' := hpS s) rfl ?_
    exact Ex.rt hq rfl rfl ⟨(1 : Int32), s, rfl, rfl, k⟩
def w_223_L55 : Nat → Int32 → ST → (ST → Prop) → (ST → Prop) → (Int32 → ST → Prop) → Prop
  | 0, _, _, _, _, _ => False
  | n + 1, x1, s, X95, X72, K => ((x1 ≤ 0 → X95  s) ∧ (¬ (x1 ≤ 0) → w_202 s (fun r6 s5 => w_222 r6 s5 (fun r8 s7 => ((r8 = 0 → X95  s7) ∧ (¬ (r8 = 0) → w_202 s7 (fun r10 s9 => w_222 r10 s9 (fun r12 s11 => (pin x1 10 = true ∧ (((((s11.2.1 81) (x1).toNatClampNeg) &&& r12) = 0 → (pin x1 10 = true ∧ (pin x1 10 = true ∧ w_223_L55 n x1 (sA (sI s11 5526 ((s11.1 5526) + (1 : Int32))) 81 (upd (s11.2.1 81) (x1).toNatClampNeg (((s11.2.1 81) (x1).toNatClampNeg) ||| r12))) X95 X72 K))) ∧ (¬ ((((s11.2.1 81) (x1).toNatClampNeg) &&& r12) = 0) → X72  s11)))))))))))
theorem q_223_L55 {d : Nat} {X95 : ST → Prop} {X72 : ST → Prop} {K : Int32 → ST → Prop} : ∀ (n : Nat) (x1 : Int32) (s : ST), w_223_L55 n x1 s X95 X72 K → (∀ (s : ST), X95  s → Ex sc (d + 7) 223 95 [.ref 55, pu, pu] [] (hpS s) (kZ K)) → (∀ (s : ST), X72  s → Ex sc (d + 7) 223 72 [.ref 55, pu, pu] [] (hpS s) (kZ K)) → Ex sc (d + 7) 223 55 [.ref 55, .int x1, pu] [] (hpS s) (kZ K) := by
  have hq : prog[223]? = some pm223 := rfl
  intro n
  induction n with
  | zero =>
    intro x1 s k
    exact k.elim
  | succ n ih =>
    intro x1 s k hX95 hX72
    rw [w_223_L55] at k
    refine Ex.seg hq 1 (j := 56) (L' := [.ref 55, .int x1, pu]) (S' := [.int x1]) (h' := hpS s) rfl ?_
    refine Ex.i1 hq rfl (fun c => ?_) (fun c => ?_)
    · have k := k.1 c
      refine Ex.fg (L := [.ref 55, pu, pu]) ⟨Or.inl rfl, ⟨Or.inr ⟨rfl, rfl⟩, ⟨Or.inl rfl, trivial⟩⟩⟩ ?_
      exact hX95  s k
    · have k := k.2 c
      refine Ex.seg hq 1 (j := 58) (L' := [.ref 55, .int x1, pu]) (S' := [.ref 55]) (h' := hpS s) rfl ?_
      refine Ex.cl hq rfl rfl ?_
      refine Rn.mono (q_202 (d := d + 6) s k) ?_
      rintro _ _ ⟨r6, s5, rfl, rfl, k⟩
      show Ex sc (d + 7) 223 59 [.ref 55, .int x1, pu] [.int r6] (hpS s5) _
      refine Ex.cl hq rfl rfl ?_
      refine Rn.mono (q_222 (d := d + 6) r6 s5 k) ?_
      rintro _ _ ⟨r8, s7, rfl, rfl, k⟩
      show Ex sc (d + 7) 223 60 [.ref 55, .int x1, pu] [.int r8] (hpS s7) _
      refine Ex.i1 hq rfl (fun c => ?_) (fun c => ?_)
      · have k := k.1 c
        refine Ex.fg (L := [.ref 55, pu, pu]) ⟨Or.inl rfl, ⟨Or.inr ⟨rfl, rfl⟩, ⟨Or.inl rfl, trivial⟩⟩⟩ ?_
        exact hX95  s7 k
      · have k := k.2 c
        refine Ex.seg hq 1 (j := 62) (L' := [.ref 55, .int x1, pu]) (S' := [.ref 55]) (h' := hpS s7) rfl ?_
        refine Ex.cl hq rfl rfl ?_
        refine Rn.mono (q_202 (d := d + 6) s7 k) ?_
        rintro _ _ ⟨r10, s9, rfl, rfl, k⟩
        show Ex sc (d + 7) 223 63 [.ref 55, .int x1, pu] [.int r10] (hpS s9) _
        refine Ex.cl hq rfl rfl ?_
        refine Rn.mono (q_222 (d := d + 6) r10 s9 k) ?_
        rintro _ _ ⟨r12, s11, rfl, rfl, k⟩
        show Ex sc (d + 7) 223 64 [.ref 55, .int x1, pu] [.int r12] (hpS s11) _
        refine Ex.seg hq 4 (j := 68) (L' := [.ref 55, .int x1, .int r12]) (S' := [.int x1, .ref 81]) (h' := hpS s11) rfl ?_
        obtain ⟨hin, k⟩ := k
        refine Ex.ial hq rfl rfl hin ?_
        refine Ex.seg hq 2 (j := 71) (L' := [.ref 55, .int x1, .int r12]) (S' := [.int (((s11.2.1 81) (x1).toNatClampNeg) &&& r12)]) (h' := hpS s11) rfl ?_
        refine Ex.i1 hq rfl (fun c => ?_) (fun c => ?_)
        · have k := k.1 c
          refine Ex.seg hq 6 (j := 84) (L' := [.ref 55, .int x1, .int r12]) (S' := [.int x1, .ref 81, .int x1, .ref 81]) (h' := hpS s11) rfl ?_
          obtain ⟨hin, k⟩ := k
          refine Ex.ial hq rfl rfl hin ?_
          refine Ex.seg hq 2 (j := 87) (L' := [.ref 55, .int x1, .int r12]) (S' := [.int (((s11.2.1 81) (x1).toNatClampNeg) ||| r12), .int x1, .ref 81]) (h' := hpS s11) rfl ?_
          obtain ⟨hin, k⟩ := k
          refine Ex.ias hq rfl rfl hin (h' := hpS (sA s11 81 (upd (s11.2.1 81) (x1).toNatClampNeg (((s11.2.1 81) (x1).toNatClampNeg) ||| r12)))) (hset_81 _ _) ?_
          refine Ex.seg hq 7 (j := 55) (L' := [.ref 55, .int x1, .int r12]) (S' := []) (h' := hpS (sA (sI s11 5526 ((s11.1 5526) + (1 : Int32))) 81 (upd (s11.2.1 81) (x1).toNatClampNeg (((s11.2.1 81) (x1).toNatClampNeg) ||| r12)))) rfl ?_
          refine Ex.fg (L := [.ref 55, .int x1, pu]) ⟨Or.inl rfl, ⟨Or.inl rfl, ⟨Or.inr ⟨rfl, rfl⟩, trivial⟩⟩⟩ ?_
          exact ih x1 (sA (sI s11 5526 ((s11.1 5526) + (1 : Int32))) 81 (upd (s11.2.1 81) (x1).toNatClampNeg (((s11.2.1 81) (x1).toNatClampNeg) ||| r12))) k hX95 hX72
        · have k := k.2 c
          refine Ex.fg (L := [.ref 55, pu, pu]) ⟨Or.inl rfl, ⟨Or.inr ⟨rfl, rfl⟩, ⟨Or.inr ⟨rfl, rfl⟩, trivial⟩⟩⟩ ?_
          exact hX72  s11 k
/-- RowAuditorModel.readsStep()Z -/
def w_223  (s : ST) (K : Int32 → ST → Prop) : Prop := w_202 s (fun r2 s1 => ((r2 = (40 : Int32) → ((¬ (s1.1 5532) = (4 : Int32) → (pin (s1.1 5532) 10 = true ∧ (pin (s1.1 5532) 10 = true ∧ (pin (s1.1 5532) 10 = true ∧ (pin (s1.1 5532) 10 = true ∧ w_220 (sA (sA (sA (sA s1 78 (upd (s1.2.1 78) ((s1.1 5532)).toNatClampNeg (99 : Int32))) 81 (upd (s1.2.1 81) ((s1.1 5532)).toNatClampNeg (0 : Int32))) 82 (upd (s1.2.1 82) ((s1.1 5532)).toNatClampNeg (0 : Int32))) 79 (upd (s1.2.1 79) ((s1.1 5532)).toNatClampNeg (s1.1 5530))) (fun r4 s3 => ((¬ r4 = 0 → (pin (s1.1 5532) 10 = true ∧ (∃ m, w_223_L55 m (s1.1 5532) (sA s3 80 (upd (s3.2.1 80) ((s1.1 5532)).toNatClampNeg (s3.1 5530))) (fun s13 => K (1 : Int32) (sI s13 5532 ((s13.1 5532) + (1 : Int32)))) (fun s14 => w_204 (6 : Int32) (s14.1 5526) s14 (fun r16 s15 => K r16 s15)) K))) ∧ (¬ (¬ r4 = 0) → K (0 : Int32) s3)))))))) ∧ (¬ (¬ (s1.1 5532) = (4 : Int32)) → w_204 (4 : Int32) (s1.1 5526) s1 (fun r18 s17 => K r18 s17)))) ∧ (¬ (r2 = (40 : Int32)) → w_204 (1 : Int32) (s1.1 5526) s1 (fun r20 s19 => K r20 s19))))
theorem q_223 {d : Nat} {K : Int32 → ST → Prop}  (s : ST) (k : w_223  s K) : Rn sc (d + 7) 223 [.ref 55] (hpS s) (kZ K) := by
  have hq : prog[223]? = some pm223 := rfl
  refine Rn.of (L := [.ref 55, pu, pu]) hq rfl rfl ?_
  unfold w_223 at k
  refine Ex.seg hq 1 (j := 1) (L' := [.ref 55, pu, pu]) (S' := [.ref 55]) (h' := hpS s) rfl ?_
  refine Ex.cl hq rfl rfl ?_
  refine Rn.mono (q_202 (d := d + 6) s k) ?_
  rintro _ _ ⟨r2, s1, rfl, rfl, k⟩
  show Ex sc (d + 7) 223 2 [.ref 55, pu, pu] [.int r2] (hpS s1) _
  refine Ex.seg hq 1 (j := 3) (L' := [.ref 55, pu, pu]) (S' := [.int (40 : Int32), .int r2]) (h' := hpS s1) rfl ?_
  refine Ex.i2 hq rfl (fun c => ?_) (fun c => ?_)
  · have k := k.1 c
    refine Ex.seg hq 3 (j := 13) (L' := [.ref 55, pu, pu]) (S' := [.int (4 : Int32), .int (s1.1 5532)]) (h' := hpS s1) rfl ?_
    refine Ex.i2 hq rfl (fun c => ?_) (fun c => ?_)
    · have k := k.1 c
      refine Ex.seg hq 7 (j := 27) (L' := [.ref 55, .int (s1.1 5532), pu]) (S' := [.int (99 : Int32), .int (s1.1 5532), .ref 78]) (h' := hpS s1) rfl ?_
      obtain ⟨hin, k⟩ := k
      refine Ex.ias hq rfl rfl hin (h' := hpS (sA s1 78 (upd (s1.2.1 78) ((s1.1 5532)).toNatClampNeg (99 : Int32)))) (hset_78 _ _) ?_
      refine Ex.seg hq 4 (j := 32) (L' := [.ref 55, .int (s1.1 5532), pu]) (S' := [.int (0 : Int32), .int (s1.1 5532), .ref 81]) (h' := hpS (sA s1 78 (upd (s1.2.1 78) ((s1.1 5532)).toNatClampNeg (99 : Int32)))) rfl ?_
      obtain ⟨hin, k⟩ := k
      refine Ex.ias hq rfl rfl hin (h' := hpS (sA (sA s1 78 (upd (s1.2.1 78) ((s1.1 5532)).toNatClampNeg (99 : Int32))) 81 (upd (s1.2.1 81) ((s1.1 5532)).toNatClampNeg (0 : Int32)))) (hset_81 _ _) ?_
      refine Ex.seg hq 4 (j := 37) (L' := [.ref 55, .int (s1.1 5532), pu]) (S' := [.int (0 : Int32), .int (s1.1 5532), .ref 82]) (h' := hpS (sA (sA s1 78 (upd (s1.2.1 78) ((s1.1 5532)).toNatClampNeg (99 : Int32))) 81 (upd (s1.2.1 81) ((s1.1 5532)).toNatClampNeg (0 : Int32)))) rfl ?_
      obtain ⟨hin, k⟩ := k
      refine Ex.ias hq rfl rfl hin (h' := hpS (sA (sA (sA s1 78 (upd (s1.2.1 78) ((s1.1 5532)).toNatClampNeg (99 : Int32))) 81 (upd (s1.2.1 81) ((s1.1 5532)).toNatClampNeg (0 : Int32))) 82 (upd (s1.2.1 82) ((s1.1 5532)).toNatClampNeg (0 : Int32)))) (hset_82 _ _) ?_
      refine Ex.seg hq 5 (j := 43) (L' := [.ref 55, .int (s1.1 5532), pu]) (S' := [.int (s1.1 5530), .int (s1.1 5532), .ref 79]) (h' := hpS (sA (sA (sA s1 78 (upd (s1.2.1 78) ((s1.1 5532)).toNatClampNeg (99 : Int32))) 81 (upd (s1.2.1 81) ((s1.1 5532)).toNatClampNeg (0 : Int32))) 82 (upd (s1.2.1 82) ((s1.1 5532)).toNatClampNeg (0 : Int32)))) rfl ?_
      obtain ⟨hin, k⟩ := k
      refine Ex.ias hq rfl rfl hin (h' := hpS (sA (sA (sA (sA s1 78 (upd (s1.2.1 78) ((s1.1 5532)).toNatClampNeg (99 : Int32))) 81 (upd (s1.2.1 81) ((s1.1 5532)).toNatClampNeg (0 : Int32))) 82 (upd (s1.2.1 82) ((s1.1 5532)).toNatClampNeg (0 : Int32))) 79 (upd (s1.2.1 79) ((s1.1 5532)).toNatClampNeg (s1.1 5530)))) (hset_79 _ _) ?_
      refine Ex.seg hq 1 (j := 45) (L' := [.ref 55, .int (s1.1 5532), pu]) (S' := [.ref 55]) (h' := hpS (sA (sA (sA (sA s1 78 (upd (s1.2.1 78) ((s1.1 5532)).toNatClampNeg (99 : Int32))) 81 (upd (s1.2.1 81) ((s1.1 5532)).toNatClampNeg (0 : Int32))) 82 (upd (s1.2.1 82) ((s1.1 5532)).toNatClampNeg (0 : Int32))) 79 (upd (s1.2.1 79) ((s1.1 5532)).toNatClampNeg (s1.1 5530)))) rfl ?_
      refine Ex.cl hq rfl rfl ?_
      refine Rn.mono (q_220 (d := d + 0) (sA (sA (sA (sA s1 78 (upd (s1.2.1 78) ((s1.1 5532)).toNatClampNeg (99 : Int32))) 81 (upd (s1.2.1 81) ((s1.1 5532)).toNatClampNeg (0 : Int32))) 82 (upd (s1.2.1 82) ((s1.1 5532)).toNatClampNeg (0 : Int32))) 79 (upd (s1.2.1 79) ((s1.1 5532)).toNatClampNeg (s1.1 5530))) k) ?_
      rintro _ _ ⟨r4, s3, rfl, hzr4, rfl, k⟩
      show Ex sc (d + 7) 223 46 [.ref 55, .int (s1.1 5532), pu] [.int r4] (hpS s3) _
      refine Ex.i1 hq rfl (fun c => ?_) (fun c => ?_)
      · have k := k.1 c
        refine Ex.seg hq 5 (j := 54) (L' := [.ref 55, .int (s1.1 5532), pu]) (S' := [.int (s3.1 5530), .int (s1.1 5532), .ref 80]) (h' := hpS s3) rfl ?_
        obtain ⟨hin, k⟩ := k
        refine Ex.ias hq rfl rfl hin (h' := hpS (sA s3 80 (upd (s3.2.1 80) ((s1.1 5532)).toNatClampNeg (s3.1 5530)))) (hset_80 _ _) ?_
        obtain ⟨m, k⟩ := k
        refine q_223_L55 (d := d) m (s1.1 5532) (sA s3 80 (upd (s3.2.1 80) ((s1.1 5532)).toNatClampNeg (s3.1 5530))) k ?_ ?_
        · intro s13 k
          refine Ex.seg hq 7 (j := 102) (L' := [.ref 55, pu, pu]) (S' := [.int (1 : Int32)]) (h' := hpS (sI s13 5532 ((s13.1 5532) + (1 : Int32)))) rfl ?_
          exact Ex.zr hq rfl rfl (Or.inr rfl) ⟨(1 : Int32), (sI s13 5532 ((s13.1 5532) + (1 : Int32))), rfl, (Or.inr rfl), rfl, k⟩
        · intro s14 k
          refine Ex.seg hq 4 (j := 76) (L' := [.ref 55, pu, pu]) (S' := [.int (s14.1 5526), .int (6 : Int32), .ref 55]) (h' := hpS s14) rfl ?_
          refine Ex.cl hq rfl rfl ?_
          refine Rn.mono (q_204 (d := d + 6) (6 : Int32) (s14.1 5526) s14 k) ?_
          rintro _ _ ⟨r16, s15, rfl, hzr16, rfl, k⟩
          show Ex sc (d + 7) 223 77 [.ref 55, pu, pu] [.int r16] (hpS s15) _
          exact Ex.zr hq rfl rfl hzr16 ⟨r16, s15, rfl, hzr16, rfl, k⟩
      · have k := k.2 c
        refine Ex.seg hq 1 (j := 48) (L' := [.ref 55, .int (s1.1 5532), pu]) (S' := [.int (0 : Int32)]) (h' := hpS s3) rfl ?_
        exact Ex.zr hq rfl rfl (Or.inl rfl) ⟨(0 : Int32), s3, rfl, (Or.inl rfl), rfl, k⟩
    · have k := k.2 c
      refine Ex.seg hq 4 (j := 18) (L' := [.ref 55, pu, pu]) (S' := [.int (s1.1 5526), .int (4 : Int32), .ref 55]) (h' := hpS s1) rfl ?_
      refine Ex.cl hq rfl rfl ?_
      refine Rn.mono (q_204 (d := d + 6) (4 : Int32) (s1.1 5526) s1 k) ?_
      rintro _ _ ⟨r18, s17, rfl, hzr18, rfl, k⟩
      show Ex sc (d + 7) 223 19 [.ref 55, pu, pu] [.int r18] (hpS s17) _
      exact Ex.zr hq rfl rfl hzr18 ⟨r18, s17, rfl, hzr18, rfl, k⟩
  · have k := k.2 c
    refine Ex.seg hq 4 (j := 8) (L' := [.ref 55, pu, pu]) (S' := [.int (s1.1 5526), .int (1 : Int32), .ref 55]) (h' := hpS s1) rfl ?_
    refine Ex.cl hq rfl rfl ?_
    refine Rn.mono (q_204 (d := d + 6) (1 : Int32) (s1.1 5526) s1 k) ?_
    rintro _ _ ⟨r20, s19, rfl, hzr20, rfl, k⟩
    show Ex sc (d + 7) 223 9 [.ref 55, pu, pu] [.int r20] (hpS s19) _
    exact Ex.zr hq rfl rfl hzr20 ⟨r20, s19, rfl, hzr20, rfl, k⟩
end WP
