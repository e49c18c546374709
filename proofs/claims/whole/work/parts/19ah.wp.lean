/-! ===== weakest preconditions, printed by wip/whole/genwp.py ===== -/
section WP
variable {sc : Nat × (Nat → Int32)}
/-- RowAuditor$Parser.stepLetter(I)I -/
def w_68 (p0 : Int32) (s : ST) (K : Int32 → ST → Prop) : Prop := ((p0 = (111 : Int32) → K (4 : Int32) s) ∧ (p0 = (112 : Int32) → K (1 : Int32) s) ∧ (p0 = (119 : Int32) → K (2 : Int32) s) ∧ (¬ p0 = (111 : Int32) → ¬ p0 = (112 : Int32) → ¬ p0 = (119 : Int32) → K (0 : Int32) s))
theorem q_68 {d : Nat} {K : Int32 → ST → Prop} (p0 : Int32) (s : ST) (k : w_68 p0 s K) : Rn sc (d + 0) 68 [.int p0] (hpS s) (kI K) := by
  have hq : prog[68]? = some pm68 := rfl
  refine Rn.of (L := [.int p0]) hq rfl rfl ?_
  unfold w_68 at k
  refine Ex.seg hq 1 (j := 1) (L' := [.int p0]) (S' := [.int p0]) (h' := hpS s) rfl ?_
  by_cases c0 : p0 = (111 : Int32)
  · have k := k.1 c0
    refine Ex.lsw hq rfl (t := 6) (by rw [c0]; rfl) ?_
    refine Ex.seg hq 1 (j := 7) (L' := [.int p0]) (S' := [.int (4 : Int32)]) (h' := hpS s) rfl ?_
    exact Ex.rt hq rfl rfl ⟨(4 : Int32), s, rfl, rfl, k⟩
  by_cases c1 : p0 = (112 : Int32)
  · have k := k.2.1 c1
    refine Ex.lsw hq rfl (t := 2) (by rw [c1]; rfl) ?_
    refine Ex.seg hq 1 (j := 3) (L' := [.int p0]) (S' := [.int (1 : Int32)]) (h' := hpS s) rfl ?_
    exact Ex.rt hq rfl rfl ⟨(1 : Int32), s, rfl, rfl, k⟩
  by_cases c2 : p0 = (119 : Int32)
  · have k := k.2.2.1 c2
    refine Ex.lsw hq rfl (t := 4) (by rw [c2]; rfl) ?_
    refine Ex.seg hq 1 (j := 5) (L' := [.int p0]) (S' := [.int (2 : Int32)]) (h' := hpS s) rfl ?_
    exact Ex.rt hq rfl rfl ⟨(2 : Int32), s, rfl, rfl, k⟩
  have k := k.2.2.2 c0 c1 c2
  refine Ex.lsw hq rfl (t := 8) ?_ ?_
  · show plook [(111, 39), (112, 35), (119, 37)] [6, 2, 4] 8 (p0).toInt = 8
    rw [plook, if_neg (lv_neT (a := 111) c0 rfl), plook, if_neg (lv_neT (a := 112) c1 rfl), plook, if_neg (lv_neT (a := 119) c2 rfl), plook]
    all_goals (first | done | simp)
  refine Ex.seg hq 1 (j := 9) (L' := [.int p0]) (S' := [.int (0 : Int32)]) (h' := hpS s) rfl ?_
  exact Ex.rt hq rfl rfl ⟨(0 : Int32), s, rfl, rfl, k⟩
def w_67_L4 : Nat → Int32 → Int32 → ST → (Int32 → ST → Prop) → (Int32 → ST → Prop) → (Int32 → ST → Prop) → Prop
  | 0, _, _, _, _, _, _ => False
  | n + 1, x1, x2, s, X36, X14, K => (((s.1 3502) ≤ x2 → X36 x1 s) ∧ (¬ ((s.1 3502) ≤ x2) → w_81 s (fun r2 s1 => w_68 r2 s1 (fun r4 s3 => ((¬ r4 = 0 → (((x1 &&& r4) = 0 → w_67_L4 n (x1 ||| r4) (x2 + (1 : Int32)) (sI s3 3504 ((s3.1 3504) + (1 : Int32))) X36 X14 K) ∧ (¬ ((x1 &&& r4) = 0) → w_85 (6 : Int32) (s3.1 3504) s3 (fun s5 => w_67_L4 n (x1 ||| r4) (x2 + (1 : Int32)) (sI s5 3504 ((s5.1 3504) + (1 : Int32))) X36 X14 K)))) ∧ (¬ (¬ r4 = 0) → X14 x1 s3))))))
theorem q_67_L4 {d : Nat} {X36 : Int32 → ST → Prop} {X14 : Int32 → ST → Prop} {K : Int32 → ST → Prop} : ∀ (n : Nat) (x1 : Int32) (x2 : Int32) (s : ST), w_67_L4 n x1 x2 s X36 X14 K → (∀ (y1 : Int32) (s : ST), X36 y1 s → Ex sc (d + 1) 67 36 [pu, .int y1, pu, pu] [] (hpS s) (kI K)) → (∀ (y1 : Int32) (s : ST), X14 y1 s → Ex sc (d + 1) 67 14 [pu, .int y1, pu, pu] [] (hpS s) (kI K)) → Ex sc (d + 1) 67 4 [.ref 35, .int x1, .int x2, pu] [] (hpS s) (kI K) := by
  have hq : prog[67]? = some pm67 := rfl
  intro n
  induction n with
  | zero =>
    intro x1 x2 s k
    exact k.elim
  | succ n ih =>
    intro x1 x2 s k hX36 hX14
    rw [w_67_L4] at k
    refine Ex.seg hq 3 (j := 7) (L' := [.ref 35, .int x1, .int x2, pu]) (S' := [.int (s.1 3502), .int x2]) (h' := hpS s) rfl ?_
    refine Ex.i2 hq rfl (fun c => ?_) (fun c => ?_)
    · have k := k.1 c
      refine Ex.fg (L := [pu, .int x1, pu, pu]) ⟨Or.inr ⟨rfl, rfl⟩, ⟨Or.inl rfl, ⟨Or.inr ⟨rfl, rfl⟩, ⟨Or.inl rfl, trivial⟩⟩⟩⟩ ?_
      exact hX36 x1 s k
    · have k := k.2 c
      refine Ex.seg hq 1 (j := 9) (L' := [.ref 35, .int x1, .int x2, pu]) (S' := [.ref 35]) (h' := hpS s) rfl ?_
      refine Ex.cl hq rfl rfl ?_
      refine Rn.mono (q_81 (d := d + 0) s k) ?_
      rintro _ _ ⟨r2, s1, rfl, rfl, k⟩
      show Ex sc (d + 1) 67 10 [.ref 35, .int x1, .int x2, pu] [.int r2] (hpS s1) _
      refine Ex.cl hq rfl rfl ?_
      refine Rn.mono (q_68 (d := d + 0) r2 s1 k) ?_
      rintro _ _ ⟨r4, s3, rfl, rfl, k⟩
      show Ex sc (d + 1) 67 11 [.ref 35, .int x1, .int x2, pu] [.int r4] (hpS s3) _
      refine Ex.seg hq 2 (j := 13) (L' := [.ref 35, .int x1, .int x2, .int r4]) (S' := [.int r4]) (h' := hpS s3) rfl ?_
      refine Ex.i1 hq rfl (fun c => ?_) (fun c => ?_)
      · have k := k.1 c
        refine Ex.seg hq 3 (j := 18) (L' := [.ref 35, .int x1, .int x2, .int r4]) (S' := [.int (x1 &&& r4)]) (h' := hpS s3) rfl ?_
        refine Ex.i1 hq rfl (fun c => ?_) (fun c => ?_)
        · have k := k.1 c
          refine Ex.seg hq 12 (j := 4) (L' := [.ref 35, .int (x1 ||| r4), .int (x2 + (1 : Int32)), .int r4]) (S' := []) (h' := hpS (sI s3 3504 ((s3.1 3504) + (1 : Int32)))) rfl ?_
          refine Ex.fg (L := [.ref 35, .int (x1 ||| r4), .int (x2 + (1 : Int32)), pu]) ⟨Or.inl rfl, ⟨Or.inl rfl, ⟨Or.inl rfl, ⟨Or.inr ⟨rfl, rfl⟩, trivial⟩⟩⟩⟩ ?_
          exact ih (x1 ||| r4) (x2 + (1 : Int32)) (sI s3 3504 ((s3.1 3504) + (1 : Int32))) k hX36 hX14
        · have k := k.2 c
          refine Ex.seg hq 4 (j := 23) (L' := [.ref 35, .int x1, .int x2, .int r4]) (S' := [.int (s3.1 3504), .int (6 : Int32), .ref 35]) (h' := hpS s3) rfl ?_
          refine Ex.cl hq rfl rfl ?_
          refine Rn.mono (q_85 (d := d + 0) (6 : Int32) (s3.1 3504) s3 k) ?_
          rintro _ _ ⟨s5, rfl, rfl, k⟩
          show Ex sc (d + 1) 67 24 [.ref 35, .int x1, .int x2, .int r4] [] (hpS s5) _
          refine Ex.seg hq 12 (j := 4) (L' := [.ref 35, .int (x1 ||| r4), .int (x2 + (1 : Int32)), .int r4]) (S' := []) (h' := hpS (sI s5 3504 ((s5.1 3504) + (1 : Int32)))) rfl ?_
          refine Ex.fg (L := [.ref 35, .int (x1 ||| r4), .int (x2 + (1 : Int32)), pu]) ⟨Or.inl rfl, ⟨Or.inl rfl, ⟨Or.inl rfl, ⟨Or.inr ⟨rfl, rfl⟩, trivial⟩⟩⟩⟩ ?_
          exact ih (x1 ||| r4) (x2 + (1 : Int32)) (sI s5 3504 ((s5.1 3504) + (1 : Int32))) k hX36 hX14
      · have k := k.2 c
        refine Ex.fg (L := [pu, .int x1, pu, pu]) ⟨Or.inr ⟨rfl, rfl⟩, ⟨Or.inl rfl, ⟨Or.inr ⟨rfl, rfl⟩, ⟨Or.inr ⟨rfl, rfl⟩, trivial⟩⟩⟩⟩ ?_
        exact hX14 x1 s3 k
/-- RowAuditor$Parser.stepLetters()I -/
def w_67  (s : ST) (K : Int32 → ST → Prop) : Prop := (∃ m, w_67_L4 m (0 : Int32) (0 : Int32) s (fun y1 s7 => K y1 s7) (fun y1 s8 => K y1 s8) K)
theorem q_67 {d : Nat} {K : Int32 → ST → Prop}  (s : ST) (k : w_67  s K) : Rn sc (d + 1) 67 [.ref 35] (hpS s) (kI K) := by
  have hq : prog[67]? = some pm67 := rfl
  refine Rn.of (L := [.ref 35, pu, pu, pu]) hq rfl rfl ?_
  unfold w_67 at k
  refine Ex.seg hq 4 (j := 4) (L' := [.ref 35, .int (0 : Int32), .int (0 : Int32), pu]) (S' := []) (h' := hpS s) rfl ?_
  obtain ⟨m, k⟩ := k
  refine q_67_L4 (d := d) m (0 : Int32) (0 : Int32) s k ?_ ?_
  · intro y1 s7 k
    refine Ex.seg hq 1 (j := 37) (L' := [pu, .int y1, pu, pu]) (S' := [.int y1]) (h' := hpS s7) rfl ?_
    exact Ex.rt hq rfl rfl ⟨y1, s7, rfl, rfl, k⟩
  · intro y1 s8 k
    refine Ex.seg hq 2 (j := 37) (L' := [pu, .int y1, pu, pu]) (S' := [.int y1]) (h' := hpS s8) rfl ?_
    exact Ex.rt hq rfl rfl ⟨y1, s8, rfl, rfl, k⟩
def w_63_L11 : Nat → Nat → Int32 → ST → (Nat → ST → Prop) → (Nat → ST → Prop) → (Nat → ST → Prop) → Prop
  | 0, _, _, _, _, _, _ => False
  | n + 1, x2, x3, s, X54, X51, K => (((4 : Int32) < x3 → X54 x2 s) ∧ (¬ ((4 : Int32) < x3) → ((¬ x3 = (4 : Int32) → w_66 s (fun r6 s5 => ((¬ x3 = 0 → w_67 s5 (fun r8 s7 => (∃ v9, pgf s7.2.2.2.2 x2 9 0 = some (.ref (v9 + 118)) ∧ w_18 s7.2.2.2.2.length (40 : Int32) r6 r8 (-1 : Int32) (sD s7 (s7.2.2.2.2 ++ [(Sum.inr (1, pD1) : PC)])) (fun s10 => (∃ f14, pob s10.2.2.2.2 v9 13 = some f14 ∧ w_301 v9 s7.2.2.2.2.length s10 (fun r13 s12 => w_82 (59 : Int32) s12 (fun r16 s15 => ((¬ r16 = 0 → w_63_L11 n x2 (x3 + (1 : Int32)) s15 X54 X51 K) ∧ (¬ (¬ r16 = 0) → X51 x2 s15))))))))) ∧ (¬ (¬ x3 = 0) → (∃ v17, pgf s5.2.2.2.2 x2 9 0 = some (.ref (v17 + 118)) ∧ w_18 s5.2.2.2.2.length (40 : Int32) r6 (0 : Int32) (-1 : Int32) (sD s5 (s5.2.2.2.2 ++ [(Sum.inr (1, pD1) : PC)])) (fun s18 => (∃ f22, pob s18.2.2.2.2 v17 13 = some f22 ∧ w_301 v17 s5.2.2.2.2.length s18 (fun r21 s20 => w_82 (59 : Int32) s20 (fun r24 s23 => ((¬ r24 = 0 → w_63_L11 n x2 (x3 + (1 : Int32)) s23 X54 X51 K) ∧ (¬ (¬ r24 = 0) → X51 x2 s23))))))))))) ∧ (¬ (¬ x3 = (4 : Int32)) → w_81 s (fun r26 s25 => ((¬ r26 = (40 : Int32) → w_66 s25 (fun r28 s27 => ((¬ x3 = 0 → w_67 s27 (fun r30 s29 => (∃ v31, pgf s29.2.2.2.2 x2 9 0 = some (.ref (v31 + 118)) ∧ w_18 s29.2.2.2.2.length (40 : Int32) r28 r30 (-1 : Int32) (sD s29 (s29.2.2.2.2 ++ [(Sum.inr (1, pD1) : PC)])) (fun s32 => (∃ f36, pob s32.2.2.2.2 v31 13 = some f36 ∧ w_301 v31 s29.2.2.2.2.length s32 (fun r35 s34 => w_82 (59 : Int32) s34 (fun r38 s37 => ((¬ r38 = 0 → w_63_L11 n x2 (x3 + (1 : Int32)) s37 X54 X51 K) ∧ (¬ (¬ r38 = 0) → X51 x2 s37))))))))) ∧ (¬ (¬ x3 = 0) → (∃ v39, pgf s27.2.2.2.2 x2 9 0 = some (.ref (v39 + 118)) ∧ w_18 s27.2.2.2.2.length (40 : Int32) r28 (0 : Int32) (-1 : Int32) (sD s27 (s27.2.2.2.2 ++ [(Sum.inr (1, pD1) : PC)])) (fun s40 => (∃ f44, pob s40.2.2.2.2 v39 13 = some f44 ∧ w_301 v39 s27.2.2.2.2.length s40 (fun r43 s42 => w_82 (59 : Int32) s42 (fun r46 s45 => ((¬ r46 = 0 → w_63_L11 n x2 (x3 + (1 : Int32)) s45 X54 X51 K) ∧ (¬ (¬ r46 = 0) → X51 x2 s45))))))))))) ∧ (¬ (¬ r26 = (40 : Int32)) → w_85 (4 : Int32) (s25.1 3504) s25 (fun s47 => w_66 s47 (fun r50 s49 => ((¬ x3 = 0 → w_67 s49 (fun r52 s51 => (∃ v53, pgf s51.2.2.2.2 x2 9 0 = some (.ref (v53 + 118)) ∧ w_18 s51.2.2.2.2.length (40 : Int32) r50 r52 (-1 : Int32) (sD s51 (s51.2.2.2.2 ++ [(Sum.inr (1, pD1) : PC)])) (fun s54 => (∃ f58, pob s54.2.2.2.2 v53 13 = some f58 ∧ w_301 v53 s51.2.2.2.2.length s54 (fun r57 s56 => w_82 (59 : Int32) s56 (fun r60 s59 => ((¬ r60 = 0 → w_63_L11 n x2 (x3 + (1 : Int32)) s59 X54 X51 K) ∧ (¬ (¬ r60 = 0) → X51 x2 s59))))))))) ∧ (¬ (¬ x3 = 0) → (∃ v61, pgf s49.2.2.2.2 x2 9 0 = some (.ref (v61 + 118)) ∧ w_18 s49.2.2.2.2.length (40 : Int32) r50 (0 : Int32) (-1 : Int32) (sD s49 (s49.2.2.2.2 ++ [(Sum.inr (1, pD1) : PC)])) (fun s62 => (∃ f66, pob s62.2.2.2.2 v61 13 = some f66 ∧ w_301 v61 s49.2.2.2.2.length s62 (fun r65 s64 => w_82 (59 : Int32) s64 (fun r68 s67 => ((¬ r68 = 0 → w_63_L11 n x2 (x3 + (1 : Int32)) s67 X54 X51 K) ∧ (¬ (¬ r68 = 0) → X51 x2 s67))))))))))))))))))
theorem q_63_L11 {d : Nat} {X54 : Nat → ST → Prop} {X51 : Nat → ST → Prop} {K : Nat → ST → Prop} : ∀ (n : Nat) (x2 : Nat) (x3 : Int32) (s : ST), w_63_L11 n x2 x3 s X54 X51 K → (∀ (y2 : Nat) (s : ST), X54 y2 s → Ex sc (d + 65) 63 54 [.ref 35, pu, .ref (y2 + 118), pu, pu, pu] [] (hpS s) (kA K)) → (∀ (y2 : Nat) (s : ST), X51 y2 s → Ex sc (d + 65) 63 51 [.ref 35, pu, .ref (y2 + 118), pu, pu, pu] [] (hpS s) (kA K)) → Ex sc (d + 65) 63 11 [.ref 35, pu, .ref (x2 + 118), .int x3, pu, pu] [] (hpS s) (kA K) := by
  have hq : prog[63]? = some pm63 := rfl
  intro n
  induction n with
  | zero =>
    intro x2 x3 s k
    exact k.elim
  | succ n ih =>
    intro x2 x3 s k hX54 hX51
    rw [w_63_L11] at k
    refine Ex.seg hq 2 (j := 13) (L' := [.ref 35, pu, .ref (x2 + 118), .int x3, pu, pu]) (S' := [.int (4 : Int32), .int x3]) (h' := hpS s) rfl ?_
    refine Ex.i2 hq rfl (fun c => ?_) (fun c => ?_)
    · have k := k.1 c
      refine Ex.fg (L := [.ref 35, pu, .ref (x2 + 118), pu, pu, pu]) ⟨Or.inl rfl, ⟨Or.inl rfl, ⟨Or.inl rfl, ⟨Or.inr ⟨rfl, rfl⟩, ⟨Or.inl rfl, ⟨Or.inl rfl, trivial⟩⟩⟩⟩⟩⟩ ?_
      exact hX54 x2 s k
    · have k := k.2 c
      refine Ex.seg hq 2 (j := 16) (L' := [.ref 35, pu, .ref (x2 + 118), .int x3, pu, pu]) (S' := [.int (4 : Int32), .int x3]) (h' := hpS s) rfl ?_
      refine Ex.i2 hq rfl (fun c => ?_) (fun c => ?_)
      · have k := k.1 c
        refine Ex.seg hq 1 (j := 27) (L' := [.ref 35, pu, .ref (x2 + 118), .int x3, pu, pu]) (S' := [.ref 35]) (h' := hpS s) rfl ?_
        refine Ex.cl hq rfl rfl ?_
        refine Rn.mono (q_66 (d := d + 0) s k) ?_
        rintro _ _ ⟨r6, s5, rfl, rfl, k⟩
        show Ex sc (d + 65) 63 28 [.ref 35, pu, .ref (x2 + 118), .int x3, pu, pu] [.ref (r6 + 118)] (hpS s5) _
        refine Ex.seg hq 2 (j := 30) (L' := [.ref 35, pu, .ref (x2 + 118), .int x3, .ref (r6 + 118), pu]) (S' := [.int x3]) (h' := hpS s5) rfl ?_
        refine Ex.i1 hq rfl (fun c => ?_) (fun c => ?_)
        · have k := k.1 c
          refine Ex.seg hq 1 (j := 34) (L' := [.ref 35, pu, .ref (x2 + 118), .int x3, .ref (r6 + 118), pu]) (S' := [.ref 35]) (h' := hpS s5) rfl ?_
          refine Ex.cl hq rfl rfl ?_
          refine Rn.mono (q_67 (d := d + 63) s5 k) ?_
          rintro _ _ ⟨r8, s7, rfl, rfl, k⟩
          show Ex sc (d + 65) 63 35 [.ref 35, pu, .ref (x2 + 118), .int x3, .ref (r6 + 118), pu] [.int r8] (hpS s7) _
          refine Ex.seg hq 2 (j := 37) (L' := [.ref 35, pu, .ref (x2 + 118), .int x3, .ref (r6 + 118), .int r8]) (S' := [.ref (x2 + 118)]) (h' := hpS s7) rfl ?_
          obtain ⟨v9, e, k⟩ := k
          refine Ex.gfd hq rfl e ?_
          refine Ex.nwd hq rfl rfl ?_
          show Ex sc (d + 65) 63 39 [.ref 35, pu, .ref (x2 + 118), .int x3, .ref (r6 + 118), .int r8] [.ref (s7.2.2.2.2.length + 118), .ref (v9 + 118)] (hpS (sD s7 (s7.2.2.2.2 ++ [(Sum.inr (1, pD1) : PC)]))) _
          refine Ex.seg hq 5 (j := 44) (L' := [.ref 35, pu, .ref (x2 + 118), .int x3, .ref (r6 + 118), .int r8]) (S' := [.int (-1 : Int32), .int r8, .ref (r6 + 118), .int (40 : Int32), .ref (s7.2.2.2.2.length + 118), .ref (s7.2.2.2.2.length + 118), .ref (v9 + 118)]) (h' := hpS (sD s7 (s7.2.2.2.2 ++ [(Sum.inr (1, pD1) : PC)]))) rfl ?_
          refine Ex.cl hq rfl rfl ?_
          refine Rn.mono (q_18 (d := d + 63) s7.2.2.2.2.length (40 : Int32) r6 r8 (-1 : Int32) (sD s7 (s7.2.2.2.2 ++ [(Sum.inr (1, pD1) : PC)])) k) ?_
          rintro _ _ ⟨s10, rfl, rfl, k⟩
          show Ex sc (d + 65) 63 45 [.ref 35, pu, .ref (x2 + 118), .int x3, .ref (r6 + 118), .int r8] [.ref (s7.2.2.2.2.length + 118), .ref (v9 + 118)] (hpS s10) _
          obtain ⟨f14, e, k⟩ := k
          refine Ex.cvd hq rfl rfl e rfl ?_
          refine Rn.mono (q_301 (d := d + 58) v9 s7.2.2.2.2.length s10 k) ?_
          rintro _ _ ⟨r13, s12, rfl, hzr13, rfl, k⟩
          show Ex sc (d + 65) 63 46 [.ref 35, pu, .ref (x2 + 118), .int x3, .ref (r6 + 118), .int r8] [.int r13] (hpS s12) _
          refine Ex.seg hq 3 (j := 49) (L' := [.ref 35, pu, .ref (x2 + 118), .int x3, .ref (r6 + 118), .int r8]) (S' := [.int (59 : Int32), .ref 35]) (h' := hpS s12) rfl ?_
          refine Ex.cl hq rfl rfl ?_
          refine Rn.mono (q_82 (d := d + 63) (59 : Int32) s12 k) ?_
          rintro _ _ ⟨r16, s15, rfl, hzr16, rfl, k⟩
          show Ex sc (d + 65) 63 50 [.ref 35, pu, .ref (x2 + 118), .int x3, .ref (r6 + 118), .int r8] [.int r16] (hpS s15) _
          refine Ex.i1 hq rfl (fun c => ?_) (fun c => ?_)
          · have k := k.1 c
            refine Ex.seg hq 2 (j := 11) (L' := [.ref 35, pu, .ref (x2 + 118), .int (x3 + (1 : Int32)), .ref (r6 + 118), .int r8]) (S' := []) (h' := hpS s15) rfl ?_
            refine Ex.fg (L := [.ref 35, pu, .ref (x2 + 118), .int (x3 + (1 : Int32)), pu, pu]) ⟨Or.inl rfl, ⟨Or.inl rfl, ⟨Or.inl rfl, ⟨Or.inl rfl, ⟨Or.inr ⟨rfl, rfl⟩, ⟨Or.inr ⟨rfl, rfl⟩, trivial⟩⟩⟩⟩⟩⟩ ?_
            exact ih x2 (x3 + (1 : Int32)) s15 k hX54 hX51
          · have k := k.2 c
            refine Ex.fg (L := [.ref 35, pu, .ref (x2 + 118), pu, pu, pu]) ⟨Or.inl rfl, ⟨Or.inl rfl, ⟨Or.inl rfl, ⟨Or.inr ⟨rfl, rfl⟩, ⟨Or.inr ⟨rfl, rfl⟩, ⟨Or.inr ⟨rfl, rfl⟩, trivial⟩⟩⟩⟩⟩⟩ ?_
            exact hX51 x2 s15 k
        · have k := k.2 c
          refine Ex.seg hq 4 (j := 37) (L' := [.ref 35, pu, .ref (x2 + 118), .int x3, .ref (r6 + 118), .int (0 : Int32)]) (S' := [.ref (x2 + 118)]) (h' := hpS s5) rfl ?_
          obtain ⟨v17, e, k⟩ := k
          refine Ex.gfd hq rfl e ?_
          refine Ex.nwd hq rfl rfl ?_
          show Ex sc (d + 65) 63 39 [.ref 35, pu, .ref (x2 + 118), .int x3, .ref (r6 + 118), .int (0 : Int32)] [.ref (s5.2.2.2.2.length + 118), .ref (v17 + 118)] (hpS (sD s5 (s5.2.2.2.2 ++ [(Sum.inr (1, pD1) : PC)]))) _
          refine Ex.seg hq 5 (j := 44) (L' := [.ref 35, pu, .ref (x2 + 118), .int x3, .ref (r6 + 118), .int (0 : Int32)]) (S' := [.int (-1 : Int32), .int (0 : Int32), .ref (r6 + 118), .int (40 : Int32), .ref (s5.2.2.2.2.length + 118), .ref (s5.2.2.2.2.length + 118), .ref (v17 + 118)]) (h' := hpS (sD s5 (s5.2.2.2.2 ++ [(Sum.inr (1, pD1) : PC)]))) rfl ?_
          refine Ex.cl hq rfl rfl ?_
          refine Rn.mono (q_18 (d := d + 63) s5.2.2.2.2.length (40 : Int32) r6 (0 : Int32) (-1 : Int32) (sD s5 (s5.2.2.2.2 ++ [(Sum.inr (1, pD1) : PC)])) k) ?_
          rintro _ _ ⟨s18, rfl, rfl, k⟩
          show Ex sc (d + 65) 63 45 [.ref 35, pu, .ref (x2 + 118), .int x3, .ref (r6 + 118), .int (0 : Int32)] [.ref (s5.2.2.2.2.length + 118), .ref (v17 + 118)] (hpS s18) _
          obtain ⟨f22, e, k⟩ := k
          refine Ex.cvd hq rfl rfl e rfl ?_
          refine Rn.mono (q_301 (d := d + 58) v17 s5.2.2.2.2.length s18 k) ?_
          rintro _ _ ⟨r21, s20, rfl, hzr21, rfl, k⟩
          show Ex sc (d + 65) 63 46 [.ref 35, pu, .ref (x2 + 118), .int x3, .ref (r6 + 118), .int (0 : Int32)] [.int r21] (hpS s20) _
          refine Ex.seg hq 3 (j := 49) (L' := [.ref 35, pu, .ref (x2 + 118), .int x3, .ref (r6 + 118), .int (0 : Int32)]) (S' := [.int (59 : Int32), .ref 35]) (h' := hpS s20) rfl ?_
          refine Ex.cl hq rfl rfl ?_
          refine Rn.mono (q_82 (d := d + 63) (59 : Int32) s20 k) ?_
          rintro _ _ ⟨r24, s23, rfl, hzr24, rfl, k⟩
          show Ex sc (d + 65) 63 50 [.ref 35, pu, .ref (x2 + 118), .int x3, .ref (r6 + 118), .int (0 : Int32)] [.int r24] (hpS s23) _
          refine Ex.i1 hq rfl (fun c => ?_) (fun c => ?_)
          · have k := k.1 c
            refine Ex.seg hq 2 (j := 11) (L' := [.ref 35, pu, .ref (x2 + 118), .int (x3 + (1 : Int32)), .ref (r6 + 118), .int (0 : Int32)]) (S' := []) (h' := hpS s23) rfl ?_
            refine Ex.fg (L := [.ref 35, pu, .ref (x2 + 118), .int (x3 + (1 : Int32)), pu, pu]) ⟨Or.inl rfl, ⟨Or.inl rfl, ⟨Or.inl rfl, ⟨Or.inl rfl, ⟨Or.inr ⟨rfl, rfl⟩, ⟨Or.inr ⟨rfl, rfl⟩, trivial⟩⟩⟩⟩⟩⟩ ?_
            exact ih x2 (x3 + (1 : Int32)) s23 k hX54 hX51
          · have k := k.2 c
            refine Ex.fg (L := [.ref 35, pu, .ref (x2 + 118), pu, pu, pu]) ⟨Or.inl rfl, ⟨Or.inl rfl, ⟨Or.inl rfl, ⟨Or.inr ⟨rfl, rfl⟩, ⟨Or.inr ⟨rfl, rfl⟩, ⟨Or.inr ⟨rfl, rfl⟩, trivial⟩⟩⟩⟩⟩⟩ ?_
            exact hX51 x2 s23 k
      · have k := k.2 c
        refine Ex.seg hq 1 (j := 18) (L' := [.ref 35, pu, .ref (x2 + 118), .int x3, pu, pu]) (S' := [.ref 35]) (h' := hpS s) rfl ?_
        refine Ex.cl hq rfl rfl ?_
        refine Rn.mono (q_81 (d := d + 64) s k) ?_
        rintro _ _ ⟨r26, s25, rfl, rfl, k⟩
        show Ex sc (d + 65) 63 19 [.ref 35, pu, .ref (x2 + 118), .int x3, pu, pu] [.int r26] (hpS s25) _
        refine Ex.seg hq 1 (j := 20) (L' := [.ref 35, pu, .ref (x2 + 118), .int x3, pu, pu]) (S' := [.int (40 : Int32), .int r26]) (h' := hpS s25) rfl ?_
        refine Ex.i2 hq rfl (fun c => ?_) (fun c => ?_)
        · have k := k.1 c
          refine Ex.seg hq 1 (j := 27) (L' := [.ref 35, pu, .ref (x2 + 118), .int x3, pu, pu]) (S' := [.ref 35]) (h' := hpS s25) rfl ?_
          refine Ex.cl hq rfl rfl ?_
          refine Rn.mono (q_66 (d := d + 0) s25 k) ?_
          rintro _ _ ⟨r28, s27, rfl, rfl, k⟩
          show Ex sc (d + 65) 63 28 [.ref 35, pu, .ref (x2 + 118), .int x3, pu, pu] [.ref (r28 + 118)] (hpS s27) _
          refine Ex.seg hq 2 (j := 30) (L' := [.ref 35, pu, .ref (x2 + 118), .int x3, .ref (r28 + 118), pu]) (S' := [.int x3]) (h' := hpS s27) rfl ?_
          refine Ex.i1 hq rfl (fun c => ?_) (fun c => ?_)
          · have k := k.1 c
            refine Ex.seg hq 1 (j := 34) (L' := [.ref 35, pu, .ref (x2 + 118), .int x3, .ref (r28 + 118), pu]) (S' := [.ref 35]) (h' := hpS s27) rfl ?_
            refine Ex.cl hq rfl rfl ?_
            refine Rn.mono (q_67 (d := d + 63) s27 k) ?_
            rintro _ _ ⟨r30, s29, rfl, rfl, k⟩
            show Ex sc (d + 65) 63 35 [.ref 35, pu, .ref (x2 + 118), .int x3, .ref (r28 + 118), pu] [.int r30] (hpS s29) _
            refine Ex.seg hq 2 (j := 37) (L' := [.ref 35, pu, .ref (x2 + 118), .int x3, .ref (r28 + 118), .int r30]) (S' := [.ref (x2 + 118)]) (h' := hpS s29) rfl ?_
            obtain ⟨v31, e, k⟩ := k
            refine Ex.gfd hq rfl e ?_
            refine Ex.nwd hq rfl rfl ?_
            show Ex sc (d + 65) 63 39 [.ref 35, pu, .ref (x2 + 118), .int x3, .ref (r28 + 118), .int r30] [.ref (s29.2.2.2.2.length + 118), .ref (v31 + 118)] (hpS (sD s29 (s29.2.2.2.2 ++ [(Sum.inr (1, pD1) : PC)]))) _
            refine Ex.seg hq 5 (j := 44) (L' := [.ref 35, pu, .ref (x2 + 118), .int x3, .ref (r28 + 118), .int r30]) (S' := [.int (-1 : Int32), .int r30, .ref (r28 + 118), .int (40 : Int32), .ref (s29.2.2.2.2.length + 118), .ref (s29.2.2.2.2.length + 118), .ref (v31 + 118)]) (h' := hpS (sD s29 (s29.2.2.2.2 ++ [(Sum.inr (1, pD1) : PC)]))) rfl ?_
            refine Ex.cl hq rfl rfl ?_
            refine Rn.mono (q_18 (d := d + 63) s29.2.2.2.2.length (40 : Int32) r28 r30 (-1 : Int32) (sD s29 (s29.2.2.2.2 ++ [(Sum.inr (1, pD1) : PC)])) k) ?_
            rintro _ _ ⟨s32, rfl, rfl, k⟩
            show Ex sc (d + 65) 63 45 [.ref 35, pu, .ref (x2 + 118), .int x3, .ref (r28 + 118), .int r30] [.ref (s29.2.2.2.2.length + 118), .ref (v31 + 118)] (hpS s32) _
            obtain ⟨f36, e, k⟩ := k
            refine Ex.cvd hq rfl rfl e rfl ?_
            refine Rn.mono (q_301 (d := d + 58) v31 s29.2.2.2.2.length s32 k) ?_
            rintro _ _ ⟨r35, s34, rfl, hzr35, rfl, k⟩
            show Ex sc (d + 65) 63 46 [.ref 35, pu, .ref (x2 + 118), .int x3, .ref (r28 + 118), .int r30] [.int r35] (hpS s34) _
            refine Ex.seg hq 3 (j := 49) (L' := [.ref 35, pu, .ref (x2 + 118), .int x3, .ref (r28 + 118), .int r30]) (S' := [.int (59 : Int32), .ref 35]) (h' := hpS s34) rfl ?_
            refine Ex.cl hq rfl rfl ?_
            refine Rn.mono (q_82 (d := d + 63) (59 : Int32) s34 k) ?_
            rintro _ _ ⟨r38, s37, rfl, hzr38, rfl, k⟩
            show Ex sc (d + 65) 63 50 [.ref 35, pu, .ref (x2 + 118), .int x3, .ref (r28 + 118), .int r30] [.int r38] (hpS s37) _
            refine Ex.i1 hq rfl (fun c => ?_) (fun c => ?_)
            · have k := k.1 c
              refine Ex.seg hq 2 (j := 11) (L' := [.ref 35, pu, .ref (x2 + 118), .int (x3 + (1 : Int32)), .ref (r28 + 118), .int r30]) (S' := []) (h' := hpS s37) rfl ?_
              refine Ex.fg (L := [.ref 35, pu, .ref (x2 + 118), .int (x3 + (1 : Int32)), pu, pu]) ⟨Or.inl rfl, ⟨Or.inl rfl, ⟨Or.inl rfl, ⟨Or.inl rfl, ⟨Or.inr ⟨rfl, rfl⟩, ⟨Or.inr ⟨rfl, rfl⟩, trivial⟩⟩⟩⟩⟩⟩ ?_
              exact ih x2 (x3 + (1 : Int32)) s37 k hX54 hX51
            · have k := k.2 c
              refine Ex.fg (L := [.ref 35, pu, .ref (x2 + 118), pu, pu, pu]) ⟨Or.inl rfl, ⟨Or.inl rfl, ⟨Or.inl rfl, ⟨Or.inr ⟨rfl, rfl⟩, ⟨Or.inr ⟨rfl, rfl⟩, ⟨Or.inr ⟨rfl, rfl⟩, trivial⟩⟩⟩⟩⟩⟩ ?_
              exact hX51 x2 s37 k
          · have k := k.2 c
            refine Ex.seg hq 4 (j := 37) (L' := [.ref 35, pu, .ref (x2 + 118), .int x3, .ref (r28 + 118), .int (0 : Int32)]) (S' := [.ref (x2 + 118)]) (h' := hpS s27) rfl ?_
            obtain ⟨v39, e, k⟩ := k
            refine Ex.gfd hq rfl e ?_
            refine Ex.nwd hq rfl rfl ?_
            show Ex sc (d + 65) 63 39 [.ref 35, pu, .ref (x2 + 118), .int x3, .ref (r28 + 118), .int (0 : Int32)] [.ref (s27.2.2.2.2.length + 118), .ref (v39 + 118)] (hpS (sD s27 (s27.2.2.2.2 ++ [(Sum.inr (1, pD1) : PC)]))) _
            refine Ex.seg hq 5 (j := 44) (L' := [.ref 35, pu, .ref (x2 + 118), .int x3, .ref (r28 + 118), .int (0 : Int32)]) (S' := [.int (-1 : Int32), .int (0 : Int32), .ref (r28 + 118), .int (40 : Int32), .ref (s27.2.2.2.2.length + 118), .ref (s27.2.2.2.2.length + 118), .ref (v39 + 118)]) (h' := hpS (sD s27 (s27.2.2.2.2 ++ [(Sum.inr (1, pD1) : PC)]))) rfl ?_
            refine Ex.cl hq rfl rfl ?_
            refine Rn.mono (q_18 (d := d + 63) s27.2.2.2.2.length (40 : Int32) r28 (0 : Int32) (-1 : Int32) (sD s27 (s27.2.2.2.2 ++ [(Sum.inr (1, pD1) : PC)])) k) ?_
            rintro _ _ ⟨s40, rfl, rfl, k⟩
            show Ex sc (d + 65) 63 45 [.ref 35, pu, .ref (x2 + 118), .int x3, .ref (r28 + 118), .int (0 : Int32)] [.ref (s27.2.2.2.2.length + 118), .ref (v39 + 118)] (hpS s40) _
            obtain ⟨f44, e, k⟩ := k
            refine Ex.cvd hq rfl rfl e rfl ?_
            refine Rn.mono (q_301 (d := d + 58) v39 s27.2.2.2.2.length s40 k) ?_
            rintro _ _ ⟨r43, s42, rfl, hzr43, rfl, k⟩
            show Ex sc (d + 65) 63 46 [.ref 35, pu, .ref (x2 + 118), .int x3, .ref (r28 + 118), .int (0 : Int32)] [.int r43] (hpS s42) _
            refine Ex.seg hq 3 (j := 49) (L' := [.ref 35, pu, .ref (x2 + 118), .int x3, .ref (r28 + 118), .int (0 : Int32)]) (S' := [.int (59 : Int32), .ref 35]) (h' := hpS s42) rfl ?_
            refine Ex.cl hq rfl rfl ?_
            refine Rn.mono (q_82 (d := d + 63) (59 : Int32) s42 k) ?_
            rintro _ _ ⟨r46, s45, rfl, hzr46, rfl, k⟩
            show Ex sc (d + 65) 63 50 [.ref 35, pu, .ref (x2 + 118), .int x3, .ref (r28 + 118), .int (0 : Int32)] [.int r46] (hpS s45) _
            refine Ex.i1 hq rfl (fun c => ?_) (fun c => ?_)
            · have k := k.1 c
              refine Ex.seg hq 2 (j := 11) (L' := [.ref 35, pu, .ref (x2 + 118), .int (x3 + (1 : Int32)), .ref (r28 + 118), .int (0 : Int32)]) (S' := []) (h' := hpS s45) rfl ?_
              refine Ex.fg (L := [.ref 35, pu, .ref (x2 + 118), .int (x3 + (1 : Int32)), pu, pu]) ⟨Or.inl rfl, ⟨Or.inl rfl, ⟨Or.inl rfl, ⟨Or.inl rfl, ⟨Or.inr ⟨rfl, rfl⟩, ⟨Or.inr ⟨rfl, rfl⟩, trivial⟩⟩⟩⟩⟩⟩ ?_
              exact ih x2 (x3 + (1 : Int32)) s45 k hX54 hX51
            · have k := k.2 c
              refine Ex.fg (L := [.ref 35, pu, .ref (x2 + 118), pu, pu, pu]) ⟨Or.inl rfl, ⟨Or.inl rfl, ⟨Or.inl rfl, ⟨Or.inr ⟨rfl, rfl⟩, ⟨Or.inr ⟨rfl, rfl⟩, ⟨Or.inr ⟨rfl, rfl⟩, trivial⟩⟩⟩⟩⟩⟩ ?_
              exact hX51 x2 s45 k
        · have k := k.2 c
          refine Ex.seg hq 4 (j := 25) (L' := [.ref 35, pu, .ref (x2 + 118), .int x3, pu, pu]) (S' := [.int (s25.1 3504), .int (4 : Int32), .ref 35]) (h' := hpS s25) rfl ?_
          refine Ex.cl hq rfl rfl ?_
          refine Rn.mono (q_85 (d := d + 64) (4 : Int32) (s25.1 3504) s25 k) ?_
          rintro _ _ ⟨s47, rfl, rfl, k⟩
          show Ex sc (d + 65) 63 26 [.ref 35, pu, .ref (x2 + 118), .int x3, pu, pu] [] (hpS s47) _
          refine Ex.seg hq 1 (j := 27) (L' := [.ref 35, pu, .ref (x2 + 118), .int x3, pu, pu]) (S' := [.ref 35]) (h' := hpS s47) rfl ?_
          refine Ex.cl hq rfl rfl ?_
          refine Rn.mono (q_66 (d := d + 0) s47 k) ?_
          rintro _ _ ⟨r50, s49, rfl, rfl, k⟩
          show Ex sc (d + 65) 63 28 [.ref 35, pu, .ref (x2 + 118), .int x3, pu, pu] [.ref (r50 + 118)] (hpS s49) _
          refine Ex.seg hq 2 (j := 30) (L' := [.ref 35, pu, .ref (x2 + 118), .int x3, .ref (r50 + 118), pu]) (S' := [.int x3]) (h' := hpS s49) rfl ?_
          refine Ex.i1 hq rfl (fun c => ?_) (fun c => ?_)
          · have k := k.1 c
            refine Ex.seg hq 1 (j := 34) (L' := [.ref 35, pu, .ref (x2 + 118), .int x3, .ref (r50 + 118), pu]) (S' := [.ref 35]) (h' := hpS s49) rfl ?_
            refine Ex.cl hq rfl rfl ?_
            refine Rn.mono (q_67 (d := d + 63) s49 k) ?_
            rintro _ _ ⟨r52, s51, rfl, rfl, k⟩
            show Ex sc (d + 65) 63 35 [.ref 35, pu, .ref (x2 + 118), .int x3, .ref (r50 + 118), pu] [.int r52] (hpS s51) _
            refine Ex.seg hq 2 (j := 37) (L' := [.ref 35, pu, .ref (x2 + 118), .int x3, .ref (r50 + 118), .int r52]) (S' := [.ref (x2 + 118)]) (h' := hpS s51) rfl ?_
            obtain ⟨v53, e, k⟩ := k
            refine Ex.gfd hq rfl e ?_
            refine Ex.nwd hq rfl rfl ?_
            show Ex sc (d + 65) 63 39 [.ref 35, pu, .ref (x2 + 118), .int x3, .ref (r50 + 118), .int r52] [.ref (s51.2.2.2.2.length + 118), .ref (v53 + 118)] (hpS (sD s51 (s51.2.2.2.2 ++ [(Sum.inr (1, pD1) : PC)]))) _
            refine Ex.seg hq 5 (j := 44) (L' := [.ref 35, pu, .ref (x2 + 118), .int x3, .ref (r50 + 118), .int r52]) (S' := [.int (-1 : Int32), .int r52, .ref (r50 + 118), .int (40 : Int32), .ref (s51.2.2.2.2.length + 118), .ref (s51.2.2.2.2.length + 118), .ref (v53 + 118)]) (h' := hpS (sD s51 (s51.2.2.2.2 ++ [(Sum.inr (1, pD1) : PC)]))) rfl ?_
            refine Ex.cl hq rfl rfl ?_
            refine Rn.mono (q_18 (d := d + 63) s51.2.2.2.2.length (40 : Int32) r50 r52 (-1 : Int32) (sD s51 (s51.2.2.2.2 ++ [(Sum.inr (1, pD1) : PC)])) k) ?_
            rintro _ _ ⟨s54, rfl, rfl, k⟩
            show Ex sc (d + 65) 63 45 [.ref 35, pu, .ref (x2 + 118), .int x3, .ref (r50 + 118), .int r52] [.ref (s51.2.2.2.2.length + 118), .ref (v53 + 118)] (hpS s54) _
            obtain ⟨f58, e, k⟩ := k
            refine Ex.cvd hq rfl rfl e rfl ?_
            refine Rn.mono (q_301 (d := d + 58) v53 s51.2.2.2.2.length s54 k) ?_
            rintro _ _ ⟨r57, s56, rfl, hzr57, rfl, k⟩
            show Ex sc (d + 65) 63 46 [.ref 35, pu, .ref (x2 + 118), .int x3, .ref (r50 + 118), .int r52] [.int r57] (hpS s56) _
            refine Ex.seg hq 3 (j := 49) (L' := [.ref 35, pu, .ref (x2 + 118), .int x3, .ref (r50 + 118), .int r52]) (S' := [.int (59 : Int32), .ref 35]) (h' := hpS s56) rfl ?_
            refine Ex.cl hq rfl rfl ?_
            refine Rn.mono (q_82 (d := d + 63) (59 : Int32) s56 k) ?_
            rintro _ _ ⟨r60, s59, rfl, hzr60, rfl, k⟩
            show Ex sc (d + 65) 63 50 [.ref 35, pu, .ref (x2 + 118), .int x3, .ref (r50 + 118), .int r52] [.int r60] (hpS s59) _
            refine Ex.i1 hq rfl (fun c => ?_) (fun c => ?_)
            · have k := k.1 c
              refine Ex.seg hq 2 (j := 11) (L' := [.ref 35, pu, .ref (x2 + 118), .int (x3 + (1 : Int32)), .ref (r50 + 118), .int r52]) (S' := []) (h' := hpS s59) rfl ?_
              refine Ex.fg (L := [.ref 35, pu, .ref (x2 + 118), .int (x3 + (1 : Int32)), pu, pu]) ⟨Or.inl rfl, ⟨Or.inl rfl, ⟨Or.inl rfl, ⟨Or.inl rfl, ⟨Or.inr ⟨rfl, rfl⟩, ⟨Or.inr ⟨rfl, rfl⟩, trivial⟩⟩⟩⟩⟩⟩ ?_
              exact ih x2 (x3 + (1 : Int32)) s59 k hX54 hX51
            · have k := k.2 c
              refine Ex.fg (L := [.ref 35, pu, .ref (x2 + 118), pu, pu, pu]) ⟨Or.inl rfl, ⟨Or.inl rfl, ⟨Or.inl rfl, ⟨Or.inr ⟨rfl, rfl⟩, ⟨Or.inr ⟨rfl, rfl⟩, ⟨Or.inr ⟨rfl, rfl⟩, trivial⟩⟩⟩⟩⟩⟩ ?_
              exact hX51 x2 s59 k
          · have k := k.2 c
            refine Ex.seg hq 4 (j := 37) (L' := [.ref 35, pu, .ref (x2 + 118), .int x3, .ref (r50 + 118), .int (0 : Int32)]) (S' := [.ref (x2 + 118)]) (h' := hpS s49) rfl ?_
            obtain ⟨v61, e, k⟩ := k
            refine Ex.gfd hq rfl e ?_
            refine Ex.nwd hq rfl rfl ?_
            show Ex sc (d + 65) 63 39 [.ref 35, pu, .ref (x2 + 118), .int x3, .ref (r50 + 118), .int (0 : Int32)] [.ref (s49.2.2.2.2.length + 118), .ref (v61 + 118)] (hpS (sD s49 (s49.2.2.2.2 ++ [(Sum.inr (1, pD1) : PC)]))) _
            refine Ex.seg hq 5 (j := 44) (L' := [.ref 35, pu, .ref (x2 + 118), .int x3, .ref (r50 + 118), .int (0 : Int32)]) (S' := [.int (-1 : Int32), .int (0 : Int32), .ref (r50 + 118), .int (40 : Int32), .ref (s49.2.2.2.2.length + 118), .ref (s49.2.2.2.2.length + 118), .ref (v61 + 118)]) (h' := hpS (sD s49 (s49.2.2.2.2 ++ [(Sum.inr (1, pD1) : PC)]))) rfl ?_
            refine Ex.cl hq rfl rfl ?_
            refine Rn.mono (q_18 (d := d + 63) s49.2.2.2.2.length (40 : Int32) r50 (0 : Int32) (-1 : Int32) (sD s49 (s49.2.2.2.2 ++ [(Sum.inr (1, pD1) : PC)])) k) ?_
            rintro _ _ ⟨s62, rfl, rfl, k⟩
            show Ex sc (d + 65) 63 45 [.ref 35, pu, .ref (x2 + 118), .int x3, .ref (r50 + 118), .int (0 : Int32)] [.ref (s49.2.2.2.2.length + 118), .ref (v61 + 118)] (hpS s62) _
            obtain ⟨f66, e, k⟩ := k
            refine Ex.cvd hq rfl rfl e rfl ?_
            refine Rn.mono (q_301 (d := d + 58) v61 s49.2.2.2.2.length s62 k) ?_
            rintro _ _ ⟨r65, s64, rfl, hzr65, rfl, k⟩
            show Ex sc (d + 65) 63 46 [.ref 35, pu, .ref (x2 + 118), .int x3, .ref (r50 + 118), .int (0 : Int32)] [.int r65] (hpS s64) _
            refine Ex.seg hq 3 (j := 49) (L' := [.ref 35, pu, .ref (x2 + 118), .int x3, .ref (r50 + 118), .int (0 : Int32)]) (S' := [.int (59 : Int32), .ref 35]) (h' := hpS s64) rfl ?_
            refine Ex.cl hq rfl rfl ?_
            refine Rn.mono (q_82 (d := d + 63) (59 : Int32) s64 k) ?_
            rintro _ _ ⟨r68, s67, rfl, hzr68, rfl, k⟩
            show Ex sc (d + 65) 63 50 [.ref 35, pu, .ref (x2 + 118), .int x3, .ref (r50 + 118), .int (0 : Int32)] [.int r68] (hpS s67) _
            refine Ex.i1 hq rfl (fun c => ?_) (fun c => ?_)
            · have k := k.1 c
              refine Ex.seg hq 2 (j := 11) (L' := [.ref 35, pu, .ref (x2 + 118), .int (x3 + (1 : Int32)), .ref (r50 + 118), .int (0 : Int32)]) (S' := []) (h' := hpS s67) rfl ?_
              refine Ex.fg (L := [.ref 35, pu, .ref (x2 + 118), .int (x3 + (1 : Int32)), pu, pu]) ⟨Or.inl rfl, ⟨Or.inl rfl, ⟨Or.inl rfl, ⟨Or.inl rfl, ⟨Or.inr ⟨rfl, rfl⟩, ⟨Or.inr ⟨rfl, rfl⟩, trivial⟩⟩⟩⟩⟩⟩ ?_
              exact ih x2 (x3 + (1 : Int32)) s67 k hX54 hX51
            · have k := k.2 c
              refine Ex.fg (L := [.ref 35, pu, .ref (x2 + 118), pu, pu, pu]) ⟨Or.inl rfl, ⟨Or.inl rfl, ⟨Or.inl rfl, ⟨Or.inr ⟨rfl, rfl⟩, ⟨Or.inr ⟨rfl, rfl⟩, ⟨Or.inr ⟨rfl, rfl⟩, trivial⟩⟩⟩⟩⟩⟩ ?_
              exact hX51 x2 s67 k
/-- RowAuditor$Parser.chainText(I)LRowAuditor$Text; -/
def w_63 (p1 : Int32) (s : ST) (K : Nat → ST → Prop) : Prop := w_59 p1 s (fun s1 => w_107 s1.2.2.2.2.length (0 : Int32) (3999 : Int32) (sD s1 (s1.2.2.2.2 ++ [(Sum.inr (9, pD9) : PC)])) (fun s3 => (∃ m, w_63_L11 m s1.2.2.2.2.length (0 : Int32) s3 (fun y2 s69 => w_84 s69 (fun s70 => K y2 s70)) (fun y2 s72 => w_84 s72 (fun s73 => K y2 s73)) K)))
theorem q_63 {d : Nat} {K : Nat → ST → Prop} (p1 : Int32) (s : ST) (k : w_63 p1 s K) : Rn sc (d + 65) 63 [.ref 35, .int p1] (hpS s) (kA K) := by
  have hq : prog[63]? = some pm63 := rfl
  refine Rn.of (L := [.ref 35, .int p1, pu, pu, pu, pu]) hq rfl rfl ?_
  unfold w_63 at k
  refine Ex.seg hq 2 (j := 2) (L' := [.ref 35, .int p1, pu, pu, pu, pu]) (S' := [.int p1, .ref 35]) (h' := hpS s) rfl ?_
  refine Ex.cl hq rfl rfl ?_
  refine Rn.mono (q_59 (d := d + 63) p1 s k) ?_
  rintro _ _ ⟨s1, rfl, rfl, k⟩
  show Ex sc (d + 65) 63 3 [.ref 35, .int p1, pu, pu, pu, pu] [] (hpS s1) _
  refine Ex.nwd hq rfl rfl ?_
  show Ex sc (d + 65) 63 4 [.ref 35, .int p1, pu, pu, pu, pu] [.ref (s1.2.2.2.2.length + 118)] (hpS (sD s1 (s1.2.2.2.2 ++ [(Sum.inr (9, pD9) : PC)]))) _
  refine Ex.seg hq 3 (j := 7) (L' := [.ref 35, .int p1, pu, pu, pu, pu]) (S' := [.int (3999 : Int32), .int (0 : Int32), .ref (s1.2.2.2.2.length + 118), .ref (s1.2.2.2.2.length + 118)]) (h' := hpS (sD s1 (s1.2.2.2.2 ++ [(Sum.inr (9, pD9) : PC)]))) rfl ?_
  refine Ex.cl hq rfl rfl ?_
  refine Rn.mono (q_107 (d := d + 60) s1.2.2.2.2.length (0 : Int32) (3999 : Int32) (sD s1 (s1.2.2.2.2 ++ [(Sum.inr (9, pD9) : PC)])) k) ?_
  rintro _ _ ⟨s3, rfl, rfl, k⟩
  show Ex sc (d + 65) 63 8 [.ref 35, .int p1, pu, pu, pu, pu] [.ref (s1.2.2.2.2.length + 118)] (hpS s3) _
  refine Ex.seg hq 3 (j := 11) (L' := [.ref 35, .int p1, .ref (s1.2.2.2.2.length + 118), .int (0 : Int32), pu, pu]) (S' := []) (h' := hpS s3) rfl ?_
  obtain ⟨m, k⟩ := k
  refine Ex.fg (L := [.ref 35, pu, .ref (s1.2.2.2.2.length + 118), .int (0 : Int32), pu, pu]) ⟨Or.inl rfl, ⟨Or.inr ⟨rfl, rfl⟩, ⟨Or.inl rfl, ⟨Or.inl rfl, ⟨Or.inl rfl, ⟨Or.inl rfl, trivial⟩⟩⟩⟩⟩⟩ ?_
  refine q_63_L11 (d := d) m s1.2.2.2.2.length (0 : Int32) s3 k ?_ ?_
  · intro y2 s69 k
    refine Ex.seg hq 1 (j := 55) (L' := [.ref 35, pu, .ref (y2 + 118), pu, pu, pu]) (S' := [.ref 35]) (h' := hpS s69) rfl ?_
    refine Ex.cl hq rfl rfl ?_
    refine Rn.mono (q_84 (d := d + 63) s69 k) ?_
    rintro _ _ ⟨s70, rfl, rfl, k⟩
    show Ex sc (d + 65) 63 56 [.ref 35, pu, .ref (y2 + 118), pu, pu, pu] [] (hpS s70) _
    refine Ex.seg hq 1 (j := 57) (L' := [.ref 35, pu, .ref (y2 + 118), pu, pu, pu]) (S' := [.ref (y2 + 118)]) (h' := hpS s70) rfl ?_
    exact Ex.rt hq rfl rfl ⟨y2, s70, rfl, rfl, k⟩
  · intro y2 s72 k
    refine Ex.seg hq 2 (j := 55) (L' := [.ref 35, pu, .ref (y2 + 118), pu, pu, pu]) (S' := [.ref 35]) (h' := hpS s72) rfl ?_
    refine Ex.cl hq rfl rfl ?_
    refine Rn.mono (q_84 (d := d + 63) s72 k) ?_
    rintro _ _ ⟨s73, rfl, rfl, k⟩
    show Ex sc (d + 65) 63 56 [.ref 35, pu, .ref (y2 + 118), pu, pu, pu] [] (hpS s73) _
    refine Ex.seg hq 1 (j := 57) (L' := [.ref 35, pu, .ref (y2 + 118), pu, pu, pu]) (S' := [.ref (y2 + 118)]) (h' := hpS s73) rfl ?_
    exact Ex.rt hq rfl rfl ⟨y2, s73, rfl, rfl, k⟩
/-- RowAuditor$Readings.add(III)I -/
def w_89 (p1 : Int32) (p2 : Int32) (p3 : Int32) (s : ST) (K : Int32 → ST → Prop) : Prop := (((s.1 2300) < (9 : Int32) → (pin (s.1 2300) 9 = true ∧ (pin (s.1 2300) 9 = true ∧ (pin (s.1 2300) 9 = true ∧ K (((s.1 2300) + (1 : Int32)) - (1 : Int32)) (sA (sA (sA (sI s 2300 ((s.1 2300) + (1 : Int32))) 24 (upd (s.2.1 24) ((s.1 2300)).toNatClampNeg p1)) 25 (upd (s.2.1 25) ((s.1 2300)).toNatClampNeg p2)) 26 (upd (s.2.1 26) ((s.1 2300)).toNatClampNeg p3)))))) ∧ (¬ ((s.1 2300) < (9 : Int32)) → K (-1 : Int32) s))
theorem q_89 {d : Nat} {K : Int32 → ST → Prop} (p1 : Int32) (p2 : Int32) (p3 : Int32) (s : ST) (k : w_89 p1 p2 p3 s K) : Rn sc (d + 0) 89 [.ref 23, .int p1, .int p2, .int p3] (hpS s) (kI K) := by
  have hq : prog[89]? = some pm89 := rfl
  refine Rn.of (L := [.ref 23, .int p1, .int p2, .int p3]) hq rfl rfl ?_
  unfold w_89 at k
  refine Ex.seg hq 3 (j := 3) (L' := [.ref 23, .int p1, .int p2, .int p3]) (S' := [.int (9 : Int32), .int (s.1 2300)]) (h' := hpS s) rfl ?_
  refine Ex.i2 hq rfl (fun c => ?_) (fun c => ?_)
  · have k := k.1 c
    refine Ex.seg hq 5 (j := 11) (L' := [.ref 23, .int p1, .int p2, .int p3]) (S' := [.int p1, .int (s.1 2300), .ref 24]) (h' := hpS s) rfl ?_
    obtain ⟨hin, k⟩ := k
    refine Ex.ias hq rfl rfl hin (h' := hpS (sA s 24 (upd (s.2.1 24) ((s.1 2300)).toNatClampNeg p1))) (hset_24 _ _) ?_
    refine Ex.seg hq 5 (j := 17) (L' := [.ref 23, .int p1, .int p2, .int p3]) (S' := [.int p2, .int (s.1 2300), .ref 25]) (h' := hpS (sA s 24 (upd (s.2.1 24) ((s.1 2300)).toNatClampNeg p1))) rfl ?_
    obtain ⟨hin, k⟩ := k
    refine Ex.ias hq rfl rfl hin (h' := hpS (sA (sA s 24 (upd (s.2.1 24) ((s.1 2300)).toNatClampNeg p1)) 25 (upd (s.2.1 25) ((s.1 2300)).toNatClampNeg p2))) (hset_25 _ _) ?_
    refine Ex.seg hq 5 (j := 23) (L' := [.ref 23, .int p1, .int p2, .int p3]) (S' := [.int p3, .int (s.1 2300), .ref 26]) (h' := hpS (sA (sA s 24 (upd (s.2.1 24) ((s.1 2300)).toNatClampNeg p1)) 25 (upd (s.2.1 25) ((s.1 2300)).toNatClampNeg p2))) rfl ?_
    obtain ⟨hin, k⟩ := k
    refine Ex.ias hq rfl rfl hin (h' := hpS (sA (sA (sA s 24 (upd (s.2.1 24) ((s.1 2300)).toNatClampNeg p1)) 25 (upd (s.2.1 25) ((s.1 2300)).toNatClampNeg p2)) 26 (upd (s.2.1 26) ((s.1 2300)).toNatClampNeg p3))) (hset_26 _ _) ?_
    refine Ex.seg hq 10 (j := 34) (L' := [.ref 23, .int p1, .int p2, .int p3]) (S' := [.int (((s.1 2300) + (1 : Int32)) - (1 : Int32))]) (h' := hpS (sA (sA (sA (sI s 2300 ((s.1 2300) + (1 : Int32))) 24 (upd (s.2.1 24) ((s.1 2300)).toNatClampNeg p1)) 25 (upd (s.2.1 25) ((s.1 2300)).toNatClampNeg p2)) 26 (upd (s.2.1 26) ((s.1 2300)).toNatClampNeg p3))) rfl ?_
    exact Ex.rt hq rfl rfl ⟨(((s.1 2300) + (1 : Int32)) - (1 : Int32)), (sA (sA (sA (sI s 2300 ((s.1 2300) + (1 : Int32))) 24 (upd (s.2.1 24) ((s.1 2300)).toNatClampNeg p1)) 25 (upd (s.2.1 25) ((s.1 2300)).toNatClampNeg p2)) 26 (upd (s.2.1 26) ((s.1 2300)).toNatClampNeg p3)), rfl, rfl, k⟩
  · have k := k.2 c
    refine Ex.seg hq 1 (j := 5) (L' := [.ref 23, .int p1, .int p2, .int p3]) (S' := [.int (-1 : Int32)]) (h' := hpS s) rfl ?_
    exact Ex.rt hq rfl rfl ⟨(-1 : Int32), s, rfl, rfl, k⟩
/-- RowAuditor$Readings.allSets()I -/
def w_90  (s : ST) (K : Int32 → ST → Prop) : Prop := K ((1 : Int32) <<< ((s.1 2300) &&& 31)) s
theorem q_90 {d : Nat} {K : Int32 → ST → Prop}  (s : ST) (k : w_90  s K) : Rn sc (d + 0) 90 [.ref 23] (hpS s) (kI K) := by
  have hq : prog[90]? = some pm90 := rfl
  refine Rn.of (L := [.ref 23]) hq rfl rfl ?_
  unfold w_90 at k
  refine Ex.seg hq 4 (j := 4) (L' := [.ref 23]) (S' := [.int ((1 : Int32) <<< ((s.1 2300) &&& 31))]) (h' := hpS s) rfl ?_
  exact Ex.rt hq rfl rfl ⟨((1 : Int32) <<< ((s.1 2300) &&& 31)), s, rfl, rfl, k⟩
def w_91_L2 : Nat → Int32 → Int32 → ST → (ST → Prop) → (ST → Prop) → (Int32 → ST → Prop) → Prop
  | 0, _, _, _, _, _, _ => False
  | n + 1, x1, x2, s, X26, X22, K => (((9 : Int32) ≤ x2 → X26  s) ∧ (¬ ((9 : Int32) ≤ x2) → w_184 x2 x1 s (fun r2 s1 => ((r2 = 0 → w_91_L2 n x1 (x2 + (1 : Int32)) s1 X26 X22 K) ∧ (¬ (r2 = 0) → (pin x2 9 = true ∧ ((((s1.2.1 26) (x2).toNatClampNeg) = (-1 : Int32) → w_91_L2 n x1 (x2 + (1 : Int32)) s1 X26 X22 K) ∧ (¬ (((s1.2.1 26) (x2).toNatClampNeg) = (-1 : Int32)) → (pin x2 9 = true ∧ w_184 ((s1.2.1 26) (x2).toNatClampNeg) x1 s1 (fun r4 s3 => ((¬ r4 = 0 → w_91_L2 n x1 (x2 + (1 : Int32)) s3 X26 X22 K) ∧ (¬ (¬ r4 = 0) → X22  s3))))))))))))
theorem q_91_L2 {d : Nat} {X26 : ST → Prop} {X22 : ST → Prop} {K : Int32 → ST → Prop} : ∀ (n : Nat) (x1 : Int32) (x2 : Int32) (s : ST), w_91_L2 n x1 x2 s X26 X22 K → (∀ (s : ST), X26  s → Ex sc (d + 1) 91 26 [pu, pu, pu] [] (hpS s) (kZ K)) → (∀ (s : ST), X22  s → Ex sc (d + 1) 91 22 [pu, pu, pu] [] (hpS s) (kZ K)) → Ex sc (d + 1) 91 2 [.ref 23, .int x1, .int x2] [] (hpS s) (kZ K) := by
  have hq : prog[91]? = some pm91 := rfl
  intro n
  induction n with
  | zero =>
    intro x1 x2 s k
    exact k.elim
  | succ n ih =>
    intro x1 x2 s k hX26 hX22
    rw [w_91_L2] at k
    refine Ex.seg hq 2 (j := 4) (L' := [.ref 23, .int x1, .int x2]) (S' := [.int (9 : Int32), .int x2]) (h' := hpS s) rfl ?_
    refine Ex.i2 hq rfl (fun c => ?_) (fun c => ?_)
    · have k := k.1 c
      refine Ex.fg (L := [pu, pu, pu]) ⟨Or.inr ⟨rfl, rfl⟩, ⟨Or.inr ⟨rfl, rfl⟩, ⟨Or.inr ⟨rfl, rfl⟩, trivial⟩⟩⟩ ?_
      exact hX26  s k
    · have k := k.2 c
      refine Ex.seg hq 2 (j := 7) (L' := [.ref 23, .int x1, .int x2]) (S' := [.int x1, .int x2]) (h' := hpS s) rfl ?_
      refine Ex.cl hq rfl rfl ?_
      refine Rn.mono (q_184 (d := d + 0) x2 x1 s k) ?_
      rintro _ _ ⟨r2, s1, rfl, hzr2, rfl, k⟩
      show Ex sc (d + 1) 91 8 [.ref 23, .int x1, .int x2] [.int r2] (hpS s1) _
      refine Ex.i1 hq rfl (fun c => ?_) (fun c => ?_)
      · have k := k.1 c
        refine Ex.seg hq 2 (j := 2) (L' := [.ref 23, .int x1, .int (x2 + (1 : Int32))]) (S' := []) (h' := hpS s1) rfl ?_
        exact ih x1 (x2 + (1 : Int32)) s1 k hX26 hX22
      · have k := k.2 c
        refine Ex.seg hq 3 (j := 12) (L' := [.ref 23, .int x1, .int x2]) (S' := [.int x2, .ref 26]) (h' := hpS s1) rfl ?_
        obtain ⟨hin, k⟩ := k
        refine Ex.ial hq rfl rfl hin ?_
        refine Ex.seg hq 1 (j := 14) (L' := [.ref 23, .int x1, .int x2]) (S' := [.int (-1 : Int32), .int ((s1.2.1 26) (x2).toNatClampNeg)]) (h' := hpS s1) rfl ?_
        refine Ex.i2 hq rfl (fun c => ?_) (fun c => ?_)
        · have k := k.1 c
          refine Ex.seg hq 2 (j := 2) (L' := [.ref 23, .int x1, .int (x2 + (1 : Int32))]) (S' := []) (h' := hpS s1) rfl ?_
          exact ih x1 (x2 + (1 : Int32)) s1 k hX26 hX22
        · have k := k.2 c
          refine Ex.seg hq 3 (j := 18) (L' := [.ref 23, .int x1, .int x2]) (S' := [.int x2, .ref 26]) (h' := hpS s1) rfl ?_
          obtain ⟨hin, k⟩ := k
          refine Ex.ial hq rfl rfl hin ?_
          refine Ex.seg hq 1 (j := 20) (L' := [.ref 23, .int x1, .int x2]) (S' := [.int x1, .int ((s1.2.1 26) (x2).toNatClampNeg)]) (h' := hpS s1) rfl ?_
          refine Ex.cl hq rfl rfl ?_
          refine Rn.mono (q_184 (d := d + 0) ((s1.2.1 26) (x2).toNatClampNeg) x1 s1 k) ?_
          rintro _ _ ⟨r4, s3, rfl, hzr4, rfl, k⟩
          show Ex sc (d + 1) 91 21 [.ref 23, .int x1, .int x2] [.int r4] (hpS s3) _
          refine Ex.i1 hq rfl (fun c => ?_) (fun c => ?_)
          · have k := k.1 c
            refine Ex.seg hq 2 (j := 2) (L' := [.ref 23, .int x1, .int (x2 + (1 : Int32))]) (S' := []) (h' := hpS s3) rfl ?_
            exact ih x1 (x2 + (1 : Int32)) s3 k hX26 hX22
          · have k := k.2 c
            refine Ex.fg (L := [pu, pu, pu]) ⟨Or.inr ⟨rfl, rfl⟩, ⟨Or.inr ⟨rfl, rfl⟩, ⟨Or.inr ⟨rfl, rfl⟩, trivial⟩⟩⟩ ?_
            exact hX22  s3 k
/-- RowAuditor$Readings.wantsOutside(I)Z -/
def w_91 (p1 : Int32) (s : ST) (K : Int32 → ST → Prop) : Prop := (∃ m, w_91_L2 m p1 (0 : Int32) s (fun s5 => K (0 : Int32) s5) (fun s6 => K (1 : Int32) s6) K)
theorem q_91 {d : Nat} {K : Int32 → ST → Prop} (p1 : Int32) (s : ST) (k : w_91 p1 s K) : Rn sc (d + 1) 91 [.ref 23, .int p1] (hpS s) (kZ K) := by
  have hq : prog[91]? = some pm91 := rfl
  refine Rn.of (L := [.ref 23, .int p1, pu]) hq rfl rfl ?_
  unfold w_91 at k
  refine Ex.seg hq 2 (j := 2) (L' := [.ref 23, .int p1, .int (0 : Int32)]) (S' := []) (h' := hpS s) rfl ?_
  obtain ⟨m, k⟩ := k
  refine q_91_L2 (d := d) m p1 (0 : Int32) s k ?_ ?_
  · intro s5 k
    refine Ex.seg hq 1 (j := 27) (L' := [pu, pu, pu]) (S' := [.int (0 : Int32)]) (h' := hpS s5) rfl ?_
    exact Ex.zr hq rfl rfl (Or.inl rfl) ⟨(0 : Int32), s5, rfl, (Or.inl rfl), rfl, k⟩
  · intro s6 k
    refine Ex.seg hq 1 (j := 23) (L' := [pu, pu, pu]) (S' := [.int (1 : Int32)]) (h' := hpS s6) rfl ?_
    exact Ex.zr hq rfl rfl (Or.inr rfl) ⟨(1 : Int32), s6, rfl, (Or.inr rfl), rfl, k⟩
def w_93_R25_L4 : Nat → Int32 → Int32 → Int32 → ST → (Int32 → ST → Prop) → (Int32 → ST → Prop) → Prop
  | 0, _, _, _, _, _, _ => False
  | n + 1, x1, x2, x3, s, X22, K => (((Int32.ofNat 9) ≤ x3 → X22 x2 s) ∧ (¬ ((Int32.ofNat 9) ≤ x3) → w_184 x3 x1 s (fun r2 s1 => ((r2 = 0 → w_93_R25_L4 n x1 (x2 + (0 : Int32)) (x3 + (1 : Int32)) s1 X22 K) ∧ (¬ (r2 = 0) → (pin x3 9 = true ∧ w_93_R25_L4 n x1 (x2 + ((s1.2.1 25) (x3).toNatClampNeg)) (x3 + (1 : Int32)) s1 X22 K))))))
theorem q_93_R25_L4 {d : Nat} {X22 : Int32 → ST → Prop} {K : Int32 → ST → Prop} : ∀ (n : Nat) (x1 : Int32) (x2 : Int32) (x3 : Int32) (s : ST), w_93_R25_L4 n x1 x2 x3 s X22 K → (∀ (y2 : Int32) (s : ST), X22 y2 s → Ex sc (d + 1) 93 22 [pu, pu, .int y2, pu] [] (hpS s) (kI K)) → Ex sc (d + 1) 93 4 [.ref 25, .int x1, .int x2, .int x3] [] (hpS s) (kI K) := by
  have hq : prog[93]? = some pm93 := rfl
  intro n
  induction n with
  | zero =>
    intro x1 x2 x3 s k
    exact k.elim
  | succ n ih =>
    intro x1 x2 x3 s k hX22
    rw [w_93_R25_L4] at k
    refine Ex.seg hq 3 (j := 7) (L' := [.ref 25, .int x1, .int x2, .int x3]) (S' := [.int (Int32.ofNat 9), .int x3]) (h' := hpS s) rfl ?_
    refine Ex.i2 hq rfl (fun c => ?_) (fun c => ?_)
    · have k := k.1 c
      refine Ex.fg (L := [pu, pu, .int x2, pu]) ⟨Or.inr ⟨rfl, rfl⟩, ⟨Or.inr ⟨rfl, rfl⟩, ⟨Or.inl rfl, ⟨Or.inr ⟨rfl, rfl⟩, trivial⟩⟩⟩⟩ ?_
      exact hX22 x2 s k
    · have k := k.2 c
      refine Ex.seg hq 3 (j := 11) (L' := [.ref 25, .int x1, .int x2, .int x3]) (S' := [.int x1, .int x3, .int x2]) (h' := hpS s) rfl ?_
      refine Ex.cl hq rfl rfl ?_
      refine Rn.mono (q_184 (d := d + 0) x3 x1 s k) ?_
      rintro _ _ ⟨r2, s1, rfl, hzr2, rfl, k⟩
      show Ex sc (d + 1) 93 12 [.ref 25, .int x1, .int x2, .int x3] [.int r2, .int x2] (hpS s1) _
      refine Ex.i1 hq rfl (fun c => ?_) (fun c => ?_)
      · have k := k.1 c
        refine Ex.seg hq 5 (j := 4) (L' := [.ref 25, .int x1, .int (x2 + (0 : Int32)), .int (x3 + (1 : Int32))]) (S' := []) (h' := hpS s1) rfl ?_
        exact ih x1 (x2 + (0 : Int32)) (x3 + (1 : Int32)) s1 k hX22
      · have k := k.2 c
        refine Ex.seg hq 2 (j := 15) (L' := [.ref 25, .int x1, .int x2, .int x3]) (S' := [.int x3, .ref 25, .int x2]) (h' := hpS s1) rfl ?_
        obtain ⟨hin, k⟩ := k
        refine Ex.ial hq rfl rfl hin ?_
        refine Ex.seg hq 5 (j := 4) (L' := [.ref 25, .int x1, .int (x2 + ((s1.2.1 25) (x3).toNatClampNeg)), .int (x3 + (1 : Int32))]) (S' := []) (h' := hpS s1) rfl ?_
        exact ih x1 (x2 + ((s1.2.1 25) (x3).toNatClampNeg)) (x3 + (1 : Int32)) s1 k hX22
/-- RowAuditor$Readings.sumOf([II)I -/
def w_93_R25 (p1 : Int32) (s : ST) (K : Int32 → ST → Prop) : Prop := (∃ m, w_93_R25_L4 m p1 (0 : Int32) (0 : Int32) s (fun y2 s3 => K y2 s3) K)
theorem q_93_R25 {d : Nat} {K : Int32 → ST → Prop} (p1 : Int32) (s : ST) (k : w_93_R25 p1 s K) : Rn sc (d + 1) 93 [.ref 25, .int p1] (hpS s) (kI K) := by
  have hq : prog[93]? = some pm93 := rfl
  refine Rn.of (L := [.ref 25, .int p1, pu, pu]) hq rfl rfl ?_
  unfold w_93_R25 at k
  refine Ex.seg hq 4 (j := 4) (L' := [.ref 25, .int p1, .int (0 : Int32), .int (0 : Int32)]) (S' := []) (h' := hpS s) rfl ?_
  obtain ⟨m, k⟩ := k
  refine q_93_R25_L4 (d := d) m p1 (0 : Int32) (0 : Int32) s k ?_
  · intro y2 s3 k
    refine Ex.seg hq 1 (j := 23) (L' := [pu, pu, .int y2, pu]) (S' := [.int y2]) (h' := hpS s3) rfl ?_
    exact Ex.rt hq rfl rfl ⟨y2, s3, rfl, rfl, k⟩
/-- RowAuditor$Readings.worthOf(I)I -/
def w_92 (p1 : Int32) (s : ST) (K : Int32 → ST → Prop) : Prop := w_93_R25 p1 s (fun r2 s1 => K r2 s1)
theorem q_92 {d : Nat} {K : Int32 → ST → Prop} (p1 : Int32) (s : ST) (k : w_92 p1 s K) : Rn sc (d + 2) 92 [.ref 23, .int p1] (hpS s) (kI K) := by
  have hq : prog[92]? = some pm92 := rfl
  refine Rn.of (L := [.ref 23, .int p1]) hq rfl rfl ?_
  unfold w_92 at k
  refine Ex.seg hq 3 (j := 3) (L' := [.ref 23, .int p1]) (S' := [.int p1, .ref 25]) (h' := hpS s) rfl ?_
  refine Ex.cl hq rfl rfl ?_
  refine Rn.mono (q_93_R25 (d := d + 0) p1 s k) ?_
  rintro _ _ ⟨r2, s1, rfl, rfl, k⟩
  show Ex sc (d + 2) 92 4 [.ref 23, .int p1] [.int r2] (hpS s1) _
  exact Ex.rt hq rfl rfl ⟨r2, s1, rfl, rfl, k⟩
def w_93_L4 : Nat → Nat → Int32 → Int32 → Int32 → ST → (Int32 → ST → Prop) → (Int32 → ST → Prop) → Prop
  | 0, _, _, _, _, _, _, _ => False
  | n + 1, x0, x1, x2, x3, s, X22, K => (∃ n1 f2, prow s.2.2.2.2 x0 0 = some (n1, f2) ∧ (((Int32.ofNat n1) ≤ x3 → X22 x2 s) ∧ (¬ ((Int32.ofNat n1) ≤ x3) → w_184 x3 x1 s (fun r4 s3 => ((r4 = 0 → w_93_L4 n x0 x1 (x2 + (0 : Int32)) (x3 + (1 : Int32)) s3 X22 K) ∧ (¬ (r4 = 0) → (∃ n5 f6, prow s3.2.2.2.2 x0 0 = some (n5, f6) ∧ pin x3 n5 = true ∧ w_93_L4 n x0 x1 (x2 + (f6 (x3).toNatClampNeg)) (x3 + (1 : Int32)) s3 X22 K)))))))
theorem q_93_L4 {d : Nat} {X22 : Int32 → ST → Prop} {K : Int32 → ST → Prop} : ∀ (n : Nat) (x0 : Nat) (x1 : Int32) (x2 : Int32) (x3 : Int32) (s : ST), w_93_L4 n x0 x1 x2 x3 s X22 K → (∀ (y2 : Int32) (s : ST), X22 y2 s → Ex sc (d + 1) 93 22 [pu, pu, .int y2, pu] [] (hpS s) (kI K)) → Ex sc (d + 1) 93 4 [.ref (x0 + 118), .int x1, .int x2, .int x3] [] (hpS s) (kI K) := by
  have hq : prog[93]? = some pm93 := rfl
  intro n
  induction n with
  | zero =>
    intro x0 x1 x2 x3 s k
    exact k.elim
  | succ n ih =>
    intro x0 x1 x2 x3 s k hX22
    rw [w_93_L4] at k
    refine Ex.seg hq 2 (j := 6) (L' := [.ref (x0 + 118), .int x1, .int x2, .int x3]) (S' := [.ref (x0 + 118), .int x3]) (h' := hpS s) rfl ?_
    obtain ⟨n1, f2, e, k⟩ := k
    refine Ex.lnd hq rfl e ?_
    refine Ex.i2 hq rfl (fun c => ?_) (fun c => ?_)
    · have k := k.1 c
      refine Ex.fg (L := [pu, pu, .int x2, pu]) ⟨Or.inr ⟨rfl, rfl⟩, ⟨Or.inr ⟨rfl, rfl⟩, ⟨Or.inl rfl, ⟨Or.inr ⟨rfl, rfl⟩, trivial⟩⟩⟩⟩ ?_
      exact hX22 x2 s k
    · have k := k.2 c
      refine Ex.seg hq 3 (j := 11) (L' := [.ref (x0 + 118), .int x1, .int x2, .int x3]) (S' := [.int x1, .int x3, .int x2]) (h' := hpS s) rfl ?_
      refine Ex.cl hq rfl rfl ?_
      refine Rn.mono (q_184 (d := d + 0) x3 x1 s k) ?_
      rintro _ _ ⟨r4, s3, rfl, hzr4, rfl, k⟩
      show Ex sc (d + 1) 93 12 [.ref (x0 + 118), .int x1, .int x2, .int x3] [.int r4, .int x2] (hpS s3) _
      refine Ex.i1 hq rfl (fun c => ?_) (fun c => ?_)
      · have k := k.1 c
        refine Ex.seg hq 5 (j := 4) (L' := [.ref (x0 + 118), .int x1, .int (x2 + (0 : Int32)), .int (x3 + (1 : Int32))]) (S' := []) (h' := hpS s3) rfl ?_
        exact ih x0 x1 (x2 + (0 : Int32)) (x3 + (1 : Int32)) s3 k hX22
      · have k := k.2 c
        refine Ex.seg hq 2 (j := 15) (L' := [.ref (x0 + 118), .int x1, .int x2, .int x3]) (S' := [.int x3, .ref (x0 + 118), .int x2]) (h' := hpS s3) rfl ?_
        obtain ⟨n5, f6, e, hin, k⟩ := k
        refine Ex.iad hq rfl e hin ?_
        refine Ex.seg hq 5 (j := 4) (L' := [.ref (x0 + 118), .int x1, .int (x2 + (f6 (x3).toNatClampNeg)), .int (x3 + (1 : Int32))]) (S' := []) (h' := hpS s3) rfl ?_
        exact ih x0 x1 (x2 + (f6 (x3).toNatClampNeg)) (x3 + (1 : Int32)) s3 k hX22
/-- RowAuditor$Readings.sumOf([II)I -/
def w_93 (p0 : Nat) (p1 : Int32) (s : ST) (K : Int32 → ST → Prop) : Prop := (∃ m, w_93_L4 m p0 p1 (0 : Int32) (0 : Int32) s (fun y2 s7 => K y2 s7) K)
theorem q_93 {d : Nat} {K : Int32 → ST → Prop} (p0 : Nat) (p1 : Int32) (s : ST) (k : w_93 p0 p1 s K) : Rn sc (d + 1) 93 [.ref (p0 + 118), .int p1] (hpS s) (kI K) := by
  have hq : prog[93]? = some pm93 := rfl
  refine Rn.of (L := [.ref (p0 + 118), .int p1, pu, pu]) hq rfl rfl ?_
  unfold w_93 at k
  refine Ex.seg hq 4 (j := 4) (L' := [.ref (p0 + 118), .int p1, .int (0 : Int32), .int (0 : Int32)]) (S' := []) (h' := hpS s) rfl ?_
  obtain ⟨m, k⟩ := k
  refine q_93_L4 (d := d) m p0 p1 (0 : Int32) (0 : Int32) s k ?_
  · intro y2 s7 k
    refine Ex.seg hq 1 (j := 23) (L' := [pu, pu, .int y2, pu]) (S' := [.int y2]) (h' := hpS s7) rfl ?_
    exact Ex.rt hq rfl rfl ⟨y2, s7, rfl, rfl, k⟩
def w_93_R24_L4 : Nat → Int32 → Int32 → Int32 → ST → (Int32 → ST → Prop) → (Int32 → ST → Prop) → Prop
  | 0, _, _, _, _, _, _ => False
  | n + 1, x1, x2, x3, s, X22, K => (((Int32.ofNat 9) ≤ x3 → X22 x2 s) ∧ (¬ ((Int32.ofNat 9) ≤ x3) → w_184 x3 x1 s (fun r2 s1 => ((r2 = 0 → w_93_R24_L4 n x1 (x2 + (0 : Int32)) (x3 + (1 : Int32)) s1 X22 K) ∧ (¬ (r2 = 0) → (pin x3 9 = true ∧ w_93_R24_L4 n x1 (x2 + ((s1.2.1 24) (x3).toNatClampNeg)) (x3 + (1 : Int32)) s1 X22 K))))))
theorem q_93_R24_L4 {d : Nat} {X22 : Int32 → ST → Prop} {K : Int32 → ST → Prop} : ∀ (n : Nat) (x1 : Int32) (x2 : Int32) (x3 : Int32) (s : ST), w_93_R24_L4 n x1 x2 x3 s X22 K → (∀ (y2 : Int32) (s : ST), X22 y2 s → Ex sc (d + 1) 93 22 [pu, pu, .int y2, pu] [] (hpS s) (kI K)) → Ex sc (d + 1) 93 4 [.ref 24, .int x1, .int x2, .int x3] [] (hpS s) (kI K) := by
  have hq : prog[93]? = some pm93 := rfl
  intro n
  induction n with
  | zero =>
    intro x1 x2 x3 s k
    exact k.elim
  | succ n ih =>
    intro x1 x2 x3 s k hX22
    rw [w_93_R24_L4] at k
    refine Ex.seg hq 3 (j := 7) (L' := [.ref 24, .int x1, .int x2, .int x3]) (S' := [.int (Int32.ofNat 9), .int x3]) (h' := hpS s) rfl ?_
    refine Ex.i2 hq rfl (fun c => ?_) (fun c => ?_)
    · have k := k.1 c
      refine Ex.fg (L := [pu, pu, .int x2, pu]) ⟨Or.inr ⟨rfl, rfl⟩, ⟨Or.inr ⟨rfl, rfl⟩, ⟨Or.inl rfl, ⟨Or.inr ⟨rfl, rfl⟩, trivial⟩⟩⟩⟩ ?_
      exact hX22 x2 s k
    · have k := k.2 c
      refine Ex.seg hq 3 (j := 11) (L' := [.ref 24, .int x1, .int x2, .int x3]) (S' := [.int x1, .int x3, .int x2]) (h' := hpS s) rfl ?_
      refine Ex.cl hq rfl rfl ?_
      refine Rn.mono (q_184 (d := d + 0) x3 x1 s k) ?_
      rintro _ _ ⟨r2, s1, rfl, hzr2, rfl, k⟩
      show Ex sc (d + 1) 93 12 [.ref 24, .int x1, .int x2, .int x3] [.int r2, .int x2] (hpS s1) _
      refine Ex.i1 hq rfl (fun c => ?_) (fun c => ?_)
      · have k := k.1 c
        refine Ex.seg hq 5 (j := 4) (L' := [.ref 24, .int x1, .int (x2 + (0 : Int32)), .int (x3 + (1 : Int32))]) (S' := []) (h' := hpS s1) rfl ?_
        exact ih x1 (x2 + (0 : Int32)) (x3 + (1 : Int32)) s1 k hX22
      · have k := k.2 c
        refine Ex.seg hq 2 (j := 15) (L' := [.ref 24, .int x1, .int x2, .int x3]) (S' := [.int x3, .ref 24, .int x2]) (h' := hpS s1) rfl ?_
        obtain ⟨hin, k⟩ := k
        refine Ex.ial hq rfl rfl hin ?_
        refine Ex.seg hq 5 (j := 4) (L' := [.ref 24, .int x1, .int (x2 + ((s1.2.1 24) (x3).toNatClampNeg)), .int (x3 + (1 : Int32))]) (S' := []) (h' := hpS s1) rfl ?_
        exact ih x1 (x2 + ((s1.2.1 24) (x3).toNatClampNeg)) (x3 + (1 : Int32)) s1 k hX22
/-- RowAuditor$Readings.sumOf([II)I -/
def w_93_R24 (p1 : Int32) (s : ST) (K : Int32 → ST → Prop) : Prop := (∃ m, w_93_R24_L4 m p1 (0 : Int32) (0 : Int32) s (fun y2 s3 => K y2 s3) K)
theorem q_93_R24 {d : Nat} {K : Int32 → ST → Prop} (p1 : Int32) (s : ST) (k : w_93_R24 p1 s K) : Rn sc (d + 1) 93 [.ref 24, .int p1] (hpS s) (kI K) := by
  have hq : prog[93]? = some pm93 := rfl
  refine Rn.of (L := [.ref 24, .int p1, pu, pu]) hq rfl rfl ?_
  unfold w_93_R24 at k
  refine Ex.seg hq 4 (j := 4) (L' := [.ref 24, .int p1, .int (0 : Int32), .int (0 : Int32)]) (S' := []) (h' := hpS s) rfl ?_
  obtain ⟨m, k⟩ := k
  refine q_93_R24_L4 (d := d) m p1 (0 : Int32) (0 : Int32) s k ?_
  · intro y2 s3 k
    refine Ex.seg hq 1 (j := 23) (L' := [pu, pu, .int y2, pu]) (S' := [.int y2]) (h' := hpS s3) rfl ?_
    exact Ex.rt hq rfl rfl ⟨y2, s3, rfl, rfl, k⟩
/-- RowAuditor$Readings.isBetter(II)Z -/
def w_95 (p1 : Int32) (p2 : Int32) (s : ST) (K : Int32 → ST → Prop) : Prop := w_92 p1 s (fun r2 s1 => w_92 p2 s1 (fun r4 s3 => ((0 < (r2 - r4) → K (1 : Int32) s3) ∧ (¬ (0 < (r2 - r4)) → ((¬ (r2 - r4) = 0 → K (0 : Int32) s3) ∧ (¬ (¬ (r2 - r4) = 0) → w_93_R24 p1 s3 (fun r6 s5 => w_93_R24 p2 s5 (fun r8 s7 => ((r8 ≤ r6 → K (0 : Int32) s7) ∧ (¬ (r8 ≤ r6) → K (1 : Int32) s7))))))))))
theorem q_95 {d : Nat} {K : Int32 → ST → Prop} (p1 : Int32) (p2 : Int32) (s : ST) (k : w_95 p1 p2 s K) : Rn sc (d + 3) 95 [.ref 23, .int p1, .int p2] (hpS s) (kZ K) := by
  have hq : prog[95]? = some pm95 := rfl
  refine Rn.of (L := [.ref 23, .int p1, .int p2, pu]) hq rfl rfl ?_
  unfold w_95 at k
  refine Ex.seg hq 2 (j := 2) (L' := [.ref 23, .int p1, .int p2, pu]) (S' := [.int p1, .ref 23]) (h' := hpS s) rfl ?_
  refine Ex.cl hq rfl rfl ?_
  refine Rn.mono (q_92 (d := d + 0) p1 s k) ?_
  rintro _ _ ⟨r2, s1, rfl, rfl, k⟩
  show Ex sc (d + 3) 95 3 [.ref 23, .int p1, .int p2, pu] [.int r2] (hpS s1) _
  refine Ex.seg hq 2 (j := 5) (L' := [.ref 23, .int p1, .int p2, pu]) (S' := [.int p2, .ref 23, .int r2]) (h' := hpS s1) rfl ?_
  refine Ex.cl hq rfl rfl ?_
  refine Rn.mono (q_92 (d := d + 0) p2 s1 k) ?_
  rintro _ _ ⟨r4, s3, rfl, rfl, k⟩
  show Ex sc (d + 3) 95 6 [.ref 23, .int p1, .int p2, pu] [.int r4, .int r2] (hpS s3) _
  refine Ex.seg hq 3 (j := 9) (L' := [.ref 23, .int p1, .int p2, .int (r2 - r4)]) (S' := [.int (r2 - r4)]) (h' := hpS s3) rfl ?_
  refine Ex.i1 hq rfl (fun c => ?_) (fun c => ?_)
  · have k := k.1 c
    refine Ex.seg hq 2 (j := 24) (L' := [.ref 23, .int p1, .int p2, .int (r2 - r4)]) (S' := [.int (1 : Int32)]) (h' := hpS s3) rfl ?_
    exact Ex.zr hq rfl rfl (Or.inr rfl) ⟨(1 : Int32), s3, rfl, (Or.inr rfl), rfl, k⟩
  · have k := k.2 c
    refine Ex.seg hq 1 (j := 11) (L' := [.ref 23, .int p1, .int p2, .int (r2 - r4)]) (S' := [.int (r2 - r4)]) (h' := hpS s3) rfl ?_
    refine Ex.i1 hq rfl (fun c => ?_) (fun c => ?_)
    · have k := k.1 c
      refine Ex.seg hq 1 (j := 24) (L' := [.ref 23, .int p1, .int p2, .int (r2 - r4)]) (S' := [.int (0 : Int32)]) (h' := hpS s3) rfl ?_
      exact Ex.zr hq rfl rfl (Or.inl rfl) ⟨(0 : Int32), s3, rfl, (Or.inl rfl), rfl, k⟩
    · have k := k.2 c
      refine Ex.seg hq 3 (j := 15) (L' := [.ref 23, .int p1, .int p2, .int (r2 - r4)]) (S' := [.int p1, .ref 24]) (h' := hpS s3) rfl ?_
      refine Ex.cl hq rfl rfl ?_
      refine Rn.mono (q_93_R24 (d := d + 1) p1 s3 k) ?_
      rintro _ _ ⟨r6, s5, rfl, rfl, k⟩
      show Ex sc (d + 3) 95 16 [.ref 23, .int p1, .int p2, .int (r2 - r4)] [.int r6] (hpS s5) _
      refine Ex.seg hq 3 (j := 19) (L' := [.ref 23, .int p1, .int p2, .int (r2 - r4)]) (S' := [.int p2, .ref 24, .int r6]) (h' := hpS s5) rfl ?_
      refine Ex.cl hq rfl rfl ?_
      refine Rn.mono (q_93_R24 (d := d + 1) p2 s5 k) ?_
      rintro _ _ ⟨r8, s7, rfl, rfl, k⟩
      show Ex sc (d + 3) 95 20 [.ref 23, .int p1, .int p2, .int (r2 - r4)] [.int r8, .int r6] (hpS s7) _
      refine Ex.i2 hq rfl (fun c => ?_) (fun c => ?_)
      · have k := k.1 c
        refine Ex.seg hq 1 (j := 24) (L' := [.ref 23, .int p1, .int p2, .int (r2 - r4)]) (S' := [.int (0 : Int32)]) (h' := hpS s7) rfl ?_
        exact Ex.zr hq rfl rfl (Or.inl rfl) ⟨(0 : Int32), s7, rfl, (Or.inl rfl), rfl, k⟩
      · have k := k.2 c
        refine Ex.seg hq 2 (j := 24) (L' := [.ref 23, .int p1, .int p2, .int (r2 - r4)]) (S' := [.int (1 : Int32)]) (h' := hpS s7) rfl ?_
        exact Ex.zr hq rfl rfl (Or.inr rfl) ⟨(1 : Int32), s7, rfl, (Or.inr rfl), rfl, k⟩
def w_94_L4 : Nat → Int32 → Int32 → Int32 → ST → (Int32 → ST → Prop) → (Int32 → ST → Prop) → Prop
  | 0, _, _, _, _, _, _ => False
  | n + 1, x1, x2, x3, s, X27, K => w_90 s (fun r2 s1 => ((r2 ≤ x3 → X27 x2 s1) ∧ (¬ (r2 ≤ x3) → w_93_R24 x3 s1 (fun r4 s3 => ((x1 < r4 → w_94_L4 n x1 x2 (x3 + (1 : Int32)) s3 X27 K) ∧ (¬ (x1 < r4) → w_91 x3 s3 (fun r6 s5 => ((¬ r6 = 0 → w_94_L4 n x1 x2 (x3 + (1 : Int32)) s5 X27 K) ∧ (¬ (¬ r6 = 0) → w_95 x3 x2 s5 (fun r8 s7 => ((r8 = 0 → w_94_L4 n x1 x2 (x3 + (1 : Int32)) s7 X27 K) ∧ (¬ (r8 = 0) → w_94_L4 n x1 x3 (x3 + (1 : Int32)) s7 X27 K))))))))))))
theorem q_94_L4 {d : Nat} {X27 : Int32 → ST → Prop} {K : Int32 → ST → Prop} : ∀ (n : Nat) (x1 : Int32) (x2 : Int32) (x3 : Int32) (s : ST), w_94_L4 n x1 x2 x3 s X27 K → (∀ (y2 : Int32) (s : ST), X27 y2 s → Ex sc (d + 4) 94 27 [pu, pu, .int y2, pu] [] (hpS s) (kI K)) → Ex sc (d + 4) 94 4 [.ref 23, .int x1, .int x2, .int x3] [] (hpS s) (kI K) := by
  have hq : prog[94]? = some pm94 := rfl
  intro n
  induction n with
  | zero =>
    intro x1 x2 x3 s k
    exact k.elim
  | succ n ih =>
    intro x1 x2 x3 s k hX27
    rw [w_94_L4] at k
    refine Ex.seg hq 2 (j := 6) (L' := [.ref 23, .int x1, .int x2, .int x3]) (S' := [.ref 23, .int x3]) (h' := hpS s) rfl ?_
    refine Ex.cl hq rfl rfl ?_
    refine Rn.mono (q_90 (d := d + 3) s k) ?_
    rintro _ _ ⟨r2, s1, rfl, rfl, k⟩
    show Ex sc (d + 4) 94 7 [.ref 23, .int x1, .int x2, .int x3] [.int r2, .int x3] (hpS s1) _
    refine Ex.i2 hq rfl (fun c => ?_) (fun c => ?_)
    · have k := k.1 c
      refine Ex.fg (L := [pu, pu, .int x2, pu]) ⟨Or.inr ⟨rfl, rfl⟩, ⟨Or.inr ⟨rfl, rfl⟩, ⟨Or.inl rfl, ⟨Or.inr ⟨rfl, rfl⟩, trivial⟩⟩⟩⟩ ?_
      exact hX27 x2 s1 k
    · have k := k.2 c
      refine Ex.seg hq 3 (j := 11) (L' := [.ref 23, .int x1, .int x2, .int x3]) (S' := [.int x3, .ref 24]) (h' := hpS s1) rfl ?_
      refine Ex.cl hq rfl rfl ?_
      refine Rn.mono (q_93_R24 (d := d + 2) x3 s1 k) ?_
      rintro _ _ ⟨r4, s3, rfl, rfl, k⟩
      show Ex sc (d + 4) 94 12 [.ref 23, .int x1, .int x2, .int x3] [.int r4] (hpS s3) _
      refine Ex.seg hq 1 (j := 13) (L' := [.ref 23, .int x1, .int x2, .int x3]) (S' := [.int x1, .int r4]) (h' := hpS s3) rfl ?_
      refine Ex.i2 hq rfl (fun c => ?_) (fun c => ?_)
      · have k := k.1 c
        refine Ex.seg hq 2 (j := 4) (L' := [.ref 23, .int x1, .int x2, .int (x3 + (1 : Int32))]) (S' := []) (h' := hpS s3) rfl ?_
        exact ih x1 x2 (x3 + (1 : Int32)) s3 k hX27
      · have k := k.2 c
        refine Ex.seg hq 2 (j := 16) (L' := [.ref 23, .int x1, .int x2, .int x3]) (S' := [.int x3, .ref 23]) (h' := hpS s3) rfl ?_
        refine Ex.cl hq rfl rfl ?_
        refine Rn.mono (q_91 (d := d + 2) x3 s3 k) ?_
        rintro _ _ ⟨r6, s5, rfl, hzr6, rfl, k⟩
        show Ex sc (d + 4) 94 17 [.ref 23, .int x1, .int x2, .int x3] [.int r6] (hpS s5) _
        refine Ex.i1 hq rfl (fun c => ?_) (fun c => ?_)
        · have k := k.1 c
          refine Ex.seg hq 2 (j := 4) (L' := [.ref 23, .int x1, .int x2, .int (x3 + (1 : Int32))]) (S' := []) (h' := hpS s5) rfl ?_
          exact ih x1 x2 (x3 + (1 : Int32)) s5 k hX27
        · have k := k.2 c
          refine Ex.seg hq 3 (j := 21) (L' := [.ref 23, .int x1, .int x2, .int x3]) (S' := [.int x2, .int x3, .ref 23]) (h' := hpS s5) rfl ?_
          refine Ex.cl hq rfl rfl ?_
          refine Rn.mono (q_95 (d := d + 0) x3 x2 s5 k) ?_
          rintro _ _ ⟨r8, s7, rfl, hzr8, rfl, k⟩
          show Ex sc (d + 4) 94 22 [.ref 23, .int x1, .int x2, .int x3] [.int r8] (hpS s7) _
          refine Ex.i1 hq rfl (fun c => ?_) (fun c => ?_)
          · have k := k.1 c
            refine Ex.seg hq 2 (j := 4) (L' := [.ref 23, .int x1, .int x2, .int (x3 + (1 : Int32))]) (S' := []) (h' := hpS s7) rfl ?_
            exact ih x1 x2 (x3 + (1 : Int32)) s7 k hX27
          · have k := k.2 c
            refine Ex.seg hq 4 (j := 4) (L' := [.ref 23, .int x1, .int x3, .int (x3 + (1 : Int32))]) (S' := []) (h' := hpS s7) rfl ?_
            exact ih x1 x3 (x3 + (1 : Int32)) s7 k hX27
/-- RowAuditor$Readings.bestSet(I)I -/
def w_94 (p1 : Int32) (s : ST) (K : Int32 → ST → Prop) : Prop := (∃ m, w_94_L4 m p1 (0 : Int32) (1 : Int32) s (fun y2 s9 => K y2 s9) K)
theorem q_94 {d : Nat} {K : Int32 → ST → Prop} (p1 : Int32) (s : ST) (k : w_94 p1 s K) : Rn sc (d + 4) 94 [.ref 23, .int p1] (hpS s) (kI K) := by
  have hq : prog[94]? = some pm94 := rfl
  refine Rn.of (L := [.ref 23, .int p1, pu, pu]) hq rfl rfl ?_
  unfold w_94 at k
  refine Ex.seg hq 4 (j := 4) (L' := [.ref 23, .int p1, .int (0 : Int32), .int (1 : Int32)]) (S' := []) (h' := hpS s) rfl ?_
  obtain ⟨m, k⟩ := k
  refine q_94_L4 (d := d) m p1 (0 : Int32) (1 : Int32) s k ?_
  · intro y2 s9 k
    refine Ex.seg hq 1 (j := 28) (L' := [pu, pu, .int y2, pu]) (S' := [.int y2]) (h' := hpS s9) rfl ?_
    exact Ex.rt hq rfl rfl ⟨y2, s9, rfl, rfl, k⟩
/-- RowAuditor$Rounder.isMove(I)Z -/
def w_98 (p1 : Int32) (s : ST) (K : Int32 → ST → Prop) : Prop := w_9 p1 (0 : Int32) s (fun r2 s1 => ((¬ r2 = (2 : Int32) → K (0 : Int32) s1) ∧ (¬ (¬ r2 = (2 : Int32)) → K (1 : Int32) s1)))
theorem q_98 {d : Nat} {K : Int32 → ST → Prop} (p1 : Int32) (s : ST) (k : w_98 p1 s K) : Rn sc (d + 1) 98 [.ref 46, .int p1] (hpS s) (kZ K) := by
  have hq : prog[98]? = some pm98 := rfl
  refine Rn.of (L := [.ref 46, .int p1]) hq rfl rfl ?_
  unfold w_98 at k
  refine Ex.seg hq 4 (j := 4) (L' := [.ref 46, .int p1]) (S' := [.int (0 : Int32), .int p1, .ref 1]) (h' := hpS s) rfl ?_
  refine Ex.cl hq rfl rfl ?_
  refine Rn.mono (q_9 (d := d + 0) p1 (0 : Int32) s k) ?_
  rintro _ _ ⟨r2, s1, rfl, rfl, k⟩
  show Ex sc (d + 1) 98 5 [.ref 46, .int p1] [.int r2] (hpS s1) _
  refine Ex.seg hq 1 (j := 6) (L' := [.ref 46, .int p1]) (S' := [.int (2 : Int32), .int r2]) (h' := hpS s1) rfl ?_
  refine Ex.i2 hq rfl (fun c => ?_) (fun c => ?_)
  · have k := k.1 c
    refine Ex.seg hq 1 (j := 10) (L' := [.ref 46, .int p1]) (S' := [.int (0 : Int32)]) (h' := hpS s1) rfl ?_
    exact Ex.zr hq rfl rfl (Or.inl rfl) ⟨(0 : Int32), s1, rfl, (Or.inl rfl), rfl, k⟩
  · have k := k.2 c
    refine Ex.seg hq 2 (j := 10) (L' := [.ref 46, .int p1]) (S' := [.int (1 : Int32)]) (h' := hpS s1) rfl ?_
    exact Ex.zr hq rfl rfl (Or.inr rfl) ⟨(1 : Int32), s1, rfl, (Or.inr rfl), rfl, k⟩
/-- RowAuditor$Rounder.stayOf(II)I -/
def w_100 (p0 : Int32) (p1 : Int32) (s : ST) (K : Int32 → ST → Prop) : Prop := ((¬ p0 = p1 → ((p1 ≤ p0 → K (p0 - (1 : Int32)) s) ∧ (¬ (p1 ≤ p0) → K p0 s))) ∧ (¬ (¬ p0 = p1) → K (-1 : Int32) s))
theorem q_100 {d : Nat} {K : Int32 → ST → Prop} (p0 : Int32) (p1 : Int32) (s : ST) (k : w_100 p0 p1 s K) : Rn sc (d + 0) 100 [.int p0, .int p1] (hpS s) (kI K) := by
  have hq : prog[100]? = some pm100 := rfl
  refine Rn.of (L := [.int p0, .int p1]) hq rfl rfl ?_
  unfold w_100 at k
  refine Ex.seg hq 2 (j := 2) (L' := [.int p0, .int p1]) (S' := [.int p1, .int p0]) (h' := hpS s) rfl ?_
  refine Ex.i2 hq rfl (fun c => ?_) (fun c => ?_)
  · have k := k.1 c
    refine Ex.seg hq 2 (j := 7) (L' := [.int p0, .int p1]) (S' := [.int p1, .int p0]) (h' := hpS s) rfl ?_
    refine Ex.i2 hq rfl (fun c => ?_) (fun c => ?_)
    · have k := k.1 c
      refine Ex.seg hq 3 (j := 13) (L' := [.int p0, .int p1]) (S' := [.int (p0 - (1 : Int32))]) (h' := hpS s) rfl ?_
      exact Ex.rt hq rfl rfl ⟨(p0 - (1 : Int32)), s, rfl, rfl, k⟩
    · have k := k.2 c
      refine Ex.seg hq 2 (j := 13) (L' := [.int p0, .int p1]) (S' := [.int p0]) (h' := hpS s) rfl ?_
      exact Ex.rt hq rfl rfl ⟨p0, s, rfl, rfl, k⟩
  · have k := k.2 c
    refine Ex.seg hq 2 (j := 13) (L' := [.int p0, .int p1]) (S' := [.int (-1 : Int32)]) (h' := hpS s) rfl ?_
    exact Ex.rt hq rfl rfl ⟨(-1 : Int32), s, rfl, rfl, k⟩
/-- RowAuditor$Rounder.setAt(II)I -/
def w_102 (p1 : Int32) (p2 : Int32) (s : ST) (K : Int32 → ST → Prop) : Prop := w_181 ((p1 * (64 : Int32)) + p2) (0 : Int32) ((Int32.ofNat 576) - (1 : Int32)) s (fun r2 s1 => ((r2 = 0 → K (0 : Int32) s1) ∧ (¬ (r2 = 0) → (pin ((p1 * (64 : Int32)) + p2) 576 = true ∧ K ((s1.2.1 48) (((p1 * (64 : Int32)) + p2)).toNatClampNeg) s1))))
theorem q_102 {d : Nat} {K : Int32 → ST → Prop} (p1 : Int32) (p2 : Int32) (s : ST) (k : w_102 p1 p2 s K) : Rn sc (d + 1) 102 [.ref 46, .int p1, .int p2] (hpS s) (kI K) := by
  have hq : prog[102]? = some pm102 := rfl
  refine Rn.of (L := [.ref 46, .int p1, .int p2, pu]) hq rfl rfl ?_
  unfold w_102 at k
  refine Ex.seg hq 13 (j := 13) (L' := [.ref 46, .int p1, .int p2, .int ((p1 * (64 : Int32)) + p2)]) (S' := [.int ((Int32.ofNat 576) - (1 : Int32)), .int (0 : Int32), .int ((p1 * (64 : Int32)) + p2)]) (h' := hpS s) rfl ?_
  refine Ex.cl hq rfl rfl ?_
  refine Rn.mono (q_181 (d := d + 0) ((p1 * (64 : Int32)) + p2) (0 : Int32) ((Int32.ofNat 576) - (1 : Int32)) s k) ?_
  rintro _ _ ⟨r2, s1, rfl, hzr2, rfl, k⟩
  show Ex sc (d + 1) 102 14 [.ref 46, .int p1, .int p2, .int ((p1 * (64 : Int32)) + p2)] [.int r2] (hpS s1) _
  refine Ex.i1 hq rfl (fun c => ?_) (fun c => ?_)
  · have k := k.1 c
    refine Ex.seg hq 1 (j := 21) (L' := [.ref 46, .int p1, .int p2, .int ((p1 * (64 : Int32)) + p2)]) (S' := [.int (0 : Int32)]) (h' := hpS s1) rfl ?_
    exact Ex.rt hq rfl rfl ⟨(0 : Int32), s1, rfl, rfl, k⟩
  · have k := k.2 c
    refine Ex.seg hq 3 (j := 18) (L' := [.ref 46, .int p1, .int p2, .int ((p1 * (64 : Int32)) + p2)]) (S' := [.int ((p1 * (64 : Int32)) + p2), .ref 48]) (h' := hpS s1) rfl ?_
    obtain ⟨hin, k⟩ := k
    refine Ex.ial hq rfl rfl hin ?_
    refine Ex.seg hq 1 (j := 21) (L' := [.ref 46, .int p1, .int p2, .int ((p1 * (64 : Int32)) + p2)]) (S' := [.int ((s1.2.1 48) (((p1 * (64 : Int32)) + p2)).toNatClampNeg)]) (h' := hpS s1) rfl ?_
    exact Ex.rt hq rfl rfl ⟨((s1.2.1 48) (((p1 * (64 : Int32)) + p2)).toNatClampNeg), s1, rfl, rfl, k⟩
/-- RowAuditor$Rounder.indexOf(II)I -/
def w_104 (p0 : Int32) (p1 : Int32) (s : ST) (K : Int32 → ST → Prop) : Prop := K ((p0 * (256 : Int32)) + (((p1 >>> ((p0 + (1 : Int32)) &&& 31)) <<< (p0 &&& 31)) ||| (p1 &&& (((1 : Int32) <<< (p0 &&& 31)) - (1 : Int32))))) s
theorem q_104 {d : Nat} {K : Int32 → ST → Prop} (p0 : Int32) (p1 : Int32) (s : ST) (k : w_104 p0 p1 s K) : Rn sc (d + 0) 104 [.int p0, .int p1] (hpS s) (kI K) := by
  have hq : prog[104]? = some pm104 := rfl
  refine Rn.of (L := [.int p0, .int p1, pu, pu]) hq rfl rfl ?_
  unfold w_104 at k
  refine Ex.seg hq 23 (j := 23) (L' := [.int p0, .int p1, .int (p1 &&& (((1 : Int32) <<< (p0 &&& 31)) - (1 : Int32))), .int ((p1 >>> ((p0 + (1 : Int32)) &&& 31)) <<< (p0 &&& 31))]) (S' := [.int ((p0 * (256 : Int32)) + (((p1 >>> ((p0 + (1 : Int32)) &&& 31)) <<< (p0 &&& 31)) ||| (p1 &&& (((1 : Int32) <<< (p0 &&& 31)) - (1 : Int32)))))]) (h' := hpS s) rfl ?_
  exact Ex.rt hq rfl rfl ⟨((p0 * (256 : Int32)) + (((p1 >>> ((p0 + (1 : Int32)) &&& 31)) <<< (p0 &&& 31)) ||| (p1 &&& (((1 : Int32) <<< (p0 &&& 31)) - (1 : Int32))))), s, rfl, rfl, k⟩
end WP
