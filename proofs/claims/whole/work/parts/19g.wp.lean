/-! ===== weakest preconditions, printed by wip/whole/genwp.py ===== -/
section WP
variable {sc : Nat × (Nat → Int32)}
/-- RowAuditor$Parser.take(I)Z -/
def w_82 (p1 : Int32) (s : ST) (K : Int32 → ST → Prop) : Prop := w_81 s (fun r2 s1 => ((r2 = p1 → K (1 : Int32) (sI s1 3504 ((s1.1 3504) + (1 : Int32)))) ∧ (¬ (r2 = p1) → K (0 : Int32) s1)))
theorem q_82 {d : Nat} {K : Int32 → ST → Prop} (p1 : Int32) (s : ST) (k : w_82 p1 s K) : Rn sc (d + 1) 82 [.ref 35, .int p1] (hpS s) (kZ K) := by
  have hq : prog[82]? = some pm82 := rfl
  refine Rn.of (L := [.ref 35, .int p1]) hq rfl rfl ?_
  unfold w_82 at k
  refine Ex.seg hq 1 (j := 1) (L' := [.ref 35, .int p1]) (S' := [.ref 35]) (h' := hpS s) rfl ?_
  refine Ex.cl hq rfl rfl ?_
  refine Rn.mono (q_81 (d := d + 0) s k) ?_
  rintro _ _ ⟨r2, s1, rfl, rfl, k⟩
  show Ex sc (d + 1) 82 2 [.ref 35, .int p1] [.int r2] (hpS s1) _
  refine Ex.seg hq 1 (j := 3) (L' := [.ref 35, .int p1]) (S' := [.int p1, .int r2]) (h' := hpS s1) rfl ?_
  refine Ex.i2 hq rfl (fun c => ?_) (fun c => ?_)
  · have k := k.1 c
    refine Ex.seg hq 7 (j := 13) (L' := [.ref 35, .int p1]) (S' := [.int (1 : Int32)]) (h' := hpS (sI s1 3504 ((s1.1 3504) + (1 : Int32)))) rfl ?_
    exact Ex.zr hq rfl rfl (Or.inr rfl) ⟨(1 : Int32), (sI s1 3504 ((s1.1 3504) + (1 : Int32))), rfl, (Or.inr rfl), rfl, k⟩
  · have k := k.2 c
    refine Ex.seg hq 1 (j := 5) (L' := [.ref 35, .int p1]) (S' := [.int (0 : Int32)]) (h' := hpS s1) rfl ?_
    exact Ex.zr hq rfl rfl (Or.inl rfl) ⟨(0 : Int32), s1, rfl, (Or.inl rfl), rfl, k⟩
/-- RowAuditor$Parser.wantEnd()V -/
def w_84  (s : ST) (K : ST → Prop) : Prop := (((s.1 3502) ≤ (s.1 3504) → K s) ∧ (¬ ((s.1 3502) ≤ (s.1 3504)) → w_85 (1 : Int32) (s.1 3504) s (fun s1 => K s1)))
theorem q_84 {d : Nat} {K : ST → Prop}  (s : ST) (k : w_84  s K) : Rn sc (d + 1) 84 [.ref 35] (hpS s) (kV K) := by
  have hq : prog[84]? = some pm84 := rfl
  refine Rn.of (L := [.ref 35]) hq rfl rfl ?_
  unfold w_84 at k
  refine Ex.seg hq 4 (j := 4) (L' := [.ref 35]) (S' := [.int (s.1 3502), .int (s.1 3504)]) (h' := hpS s) rfl ?_
  refine Ex.i2 hq rfl (fun c => ?_) (fun c => ?_)
  · have k := k.1 c
    exact Ex.rt hq rfl rfl ⟨s, rfl, rfl, k⟩
  · have k := k.2 c
    refine Ex.seg hq 4 (j := 9) (L' := [.ref 35]) (S' := [.int (s.1 3504), .int (1 : Int32), .ref 35]) (h' := hpS s) rfl ?_
    refine Ex.cl hq rfl rfl ?_
    refine Rn.mono (q_85 (d := d + 0) (1 : Int32) (s.1 3504) s k) ?_
    rintro _ _ ⟨s1, rfl, rfl, k⟩
    show Ex sc (d + 1) 84 10 [.ref 35] [] (hpS s1) _
    exact Ex.rt hq rfl rfl ⟨s1, rfl, rfl, k⟩
/-- RowAuditor$Parser.aim(II)V -/
def w_87 (p1 : Int32) (p2 : Int32) (s : ST) (K : ST → Prop) : Prop := w_181 p1 (0 : Int32) ((Int32.ofNat 160) - (1 : Int32)) s (fun r2 s1 => ((r2 = 0 → K s1) ∧ (¬ (r2 = 0) → (pin p1 160 = true ∧ K (sA s1 36 (upd (s1.2.1 36) (p1).toNatClampNeg (((s1.1 3503) <<< ((4 : Int32) &&& 31)) ||| p2)))))))
theorem q_87 {d : Nat} {K : ST → Prop} (p1 : Int32) (p2 : Int32) (s : ST) (k : w_87 p1 p2 s K) : Rn sc (d + 1) 87 [.ref 35, .int p1, .int p2] (hpS s) (kV K) := by
  have hq : prog[87]? = some pm87 := rfl
  refine Rn.of (L := [.ref 35, .int p1, .int p2]) hq rfl rfl ?_
  unfold w_87 at k
  refine Ex.seg hq 7 (j := 7) (L' := [.ref 35, .int p1, .int p2]) (S' := [.int ((Int32.ofNat 160) - (1 : Int32)), .int (0 : Int32), .int p1]) (h' := hpS s) rfl ?_
  refine Ex.cl hq rfl rfl ?_
  refine Rn.mono (q_181 (d := d + 0) p1 (0 : Int32) ((Int32.ofNat 160) - (1 : Int32)) s k) ?_
  rintro _ _ ⟨r2, s1, rfl, hzr2, rfl, k⟩
  show Ex sc (d + 1) 87 8 [.ref 35, .int p1, .int p2] [.int r2] (hpS s1) _
  refine Ex.i1 hq rfl (fun c => ?_) (fun c => ?_)
  · have k := k.1 c
    exact Ex.rt hq rfl rfl ⟨s1, rfl, rfl, k⟩
  · have k := k.2 c
    refine Ex.seg hq 9 (j := 18) (L' := [.ref 35, .int p1, .int p2]) (S' := [.int (((s1.1 3503) <<< ((4 : Int32) &&& 31)) ||| p2), .int p1, .ref 36]) (h' := hpS s1) rfl ?_
    obtain ⟨hin, k⟩ := k
    refine Ex.ias hq rfl rfl hin (h' := hpS (sA s1 36 (upd (s1.2.1 36) (p1).toNatClampNeg (((s1.1 3503) <<< ((4 : Int32) &&& 31)) ||| p2)))) (hset_36 _ _) ?_
    exact Ex.rt hq rfl rfl ⟨(sA s1 36 (upd (s1.2.1 36) (p1).toNatClampNeg (((s1.1 3503) <<< ((4 : Int32) &&& 31)) ||| p2))), rfl, rfl, k⟩
/-- RowAuditor$Readings.add(III)I -/
def w_89 (p1 : Int32) (p2 : Int32) (p3 : Int32) (s : ST) (K : Int32 → ST → Prop) : Prop := (((s.1 2300) < (9 : Int32) → (pin (s.1 2300) 9 = true ∧ (pin (s.1 2300) 9 = true ∧ (pin (s.1 2300) 9 = true ∧ K (((s.1 2300) + (1 : Int32)) - (1 : Int32)) (sA (sA (sA (sI s 2300 ((s.1 2300) + (1 : Int32))) 24 (upd (s.2.1 24) ((s.1 2300)).toNatClampNeg p1)) 25 (upd (s.2.1 25) ((s.1 2300)).toNatClampNeg p2)) 26 (upd (s.2.1 26) ((s.1 2300)).toNatClampNeg p3)))))) ∧ (¬ ((s.1 2300) < (9 : Int32)) → K (-1 : Int32) s))
theorem q_89 {d : Nat} {K : Int32 → ST → Prop} (p1 : Int32) (p2 : Int32) (p3 : Int32) (s : ST) (k : w_89 p1 p2 p3 s K) : Rn sc (d + 0) 89 [.ref 23, .int p1, .int p2, .int p3] (hpS s) (kI K) := by
  have hq : prog[89]? = some pm89 := rfl
  refine Rn.of (L := [.ref 23, .int p1, .int p2, .int p3]) hq rfl rfl ?_
  unfold w_89 at k
  refine Ex.seg hq 3 (j := 3) (L' := [.ref 23, .int p1, .int p2, .int p3]) (S' := [.int (9 : Int32), .int (s.1 2300)]) (h' := hpS s) rfl ?_
  refine Ex.i2 hq rfl (fun c => ?_) (fun c => ?_)
  · have k := k.1 c
    refine Ex.seg hq 5 (j := 11) (L' := [.ref 23, .int p1, .int p2, .int p3]) (S' := [.int p1, .int (s.1 2300), .ref 24]) (h' := hpS s) rfl ?_
    obtain ⟨hin, k⟩ := k
    refine Ex.ias hq rfl rfl hin (h' := hpS (sA s 24 (upd (s.2.1 24) ((s.1 2300)).toNatClampNeg p1))) (hset_24 _ _) ?_
    refine Ex.seg hq 5 (j := 17) (L' := [.ref 23, .int p1, .int p2, .int p3]) (S' := [.int p2, .int (s.1 2300), .ref 25]) (h' := hpS (sA s 24 (upd (s.2.1 24) ((s.1 2300)).toNatClampNeg p1))) rfl ?_
    obtain ⟨hin, k⟩ := k
    refine Ex.ias hq rfl rfl hin (h' := hpS (sA (sA s 24 (upd (s.2.1 24) ((s.1 2300)).toNatClampNeg p1)) 25 (upd (s.2.1 25) ((s.1 2300)).toNatClampNeg p2))) (hset_25 _ _) ?_
    refine Ex.seg hq 5 (j := 23) (L' := [.ref 23, .int p1, .int p2, .int p3]) (S' := [.int p3, .int (s.1 2300), .ref 26]) (h' := hpS (sA (sA s 24 (upd (s.2.1 24) ((s.1 2300)).toNatClampNeg p1)) 25 (upd (s.2.1 25) ((s.1 2300)).toNatClampNeg p2))) rfl ?_
    obtain ⟨hin, k⟩ := k
    refine Ex.ias hq rfl rfl hin (h' := hpS (sA (sA (sA s 24 (upd (s.2.1 24) ((s.1 2300)).toNatClampNeg p1)) 25 (upd (s.2.1 25) ((s.1 2300)).toNatClampNeg p2)) 26 (upd (s.2.1 26) ((s.1 2300)).toNatClampNeg p3))) (hset_26 _ _) ?_
    refine Ex.seg hq 10 (j := 34) (L' := [.ref 23, .int p1, .int p2, .int p3]) (S' := [.int (((s.1 2300) + (1 : Int32)) - (1 : Int32))]) (h' := hpS (sA (sA (sA (sI s 2300 ((s.1 2300) + (1 : Int32))) 24 (upd (s.2.1 24) ((s.1 2300)).toNatClampNeg p1)) 25 (upd (s.2.1 25) ((s.1 2300)).toNatClampNeg p2)) 26 (upd (s.2.1 26) ((s.1 2300)).toNatClampNeg p3))) rfl ?_
    exact Ex.rt hq rfl rfl ⟨(((s.1 2300) + (1 : Int32)) - (1 : Int32)), (sA (sA (sA (sI s 2300 ((s.1 2300) + (1 : Int32))) 24 (upd (s.2.1 24) ((s.1 2300)).toNatClampNeg p1)) 25 (upd (s.2.1 25) ((s.1 2300)).toNatClampNeg p2)) 26 (upd (s.2.1 26) ((s.1 2300)).toNatClampNeg p3)), rfl, rfl, k⟩
  · have k := k.2 c
    refine Ex.seg hq 1 (j := 5) (L' := [.ref 23, .int p1, .int p2, .int p3]) (S' := [.int (-1 : Int32)]) (h' := hpS s) rfl ?_
    exact Ex.rt hq rfl rfl ⟨(-1 : Int32), s, rfl, rfl, k⟩
/-- RowAuditor$Readings.allSets()I -/
def w_90  (s : ST) (K : Int32 → ST → Prop) : Prop := K ((1 : Int32) <<< ((s.1 2300) &&& 31)) s
theorem q_90 {d : Nat} {K : Int32 → ST → Prop}  (s : ST) (k : w_90  s K) : Rn sc (d + 0) 90 [.ref 23] (hpS s) (kI K) := by
  have hq : prog[90]? = some pm90 := rfl
  refine Rn.of (L := [.ref 23]) hq rfl rfl ?_
  unfold w_90 at k
  refine Ex.seg hq 4 (j := 4) (L' := [.ref 23]) (S' := [.int ((1 : Int32) <<< ((s.1 2300) &&& 31))]) (h' := hpS s) rfl ?_
  exact Ex.rt hq rfl rfl ⟨((1 : Int32) <<< ((s.1 2300) &&& 31)), s, rfl, rfl, k⟩
def w_91_L2 : Nat → Int32 → Int32 → ST → (ST → Prop) → (ST → Prop) → (Int32 → ST → Prop) → Prop
  | 0, _, _, _, _, _, _ => False
  | n + 1, x1, x2, s, X26, X22, K => (((9 : Int32) ≤ x2 → X26  s) ∧ (¬ ((9 : Int32) ≤ x2) → w_184 x2 x1 s (fun r2 s1 => ((r2 = 0 → w_91_L2 n x1 (x2 + (1 : Int32)) s1 X26 X22 K) ∧ (¬ (r2 = 0) → (pin x2 9 = true ∧ ((((s1.2.1 26) (x2).toNatClampNeg) = (-1 : Int32) → w_91_L2 n x1 (x2 + (1 : Int32)) s1 X26 X22 K) ∧ (¬ (((s1.2.1 26) (x2).toNatClampNeg) = (-1 : Int32)) → (pin x2 9 = true ∧ w_184 ((s1.2.1 26) (x2).toNatClampNeg) x1 s1 (fun r4 s3 => ((¬ r4 = 0 → w_91_L2 n x1 (x2 + (1 : Int32)) s3 X26 X22 K) ∧ (¬ (¬ r4 = 0) → X22  s3))))))))))))
theorem q_91_L2 {d : Nat} {X26 : ST → Prop} {X22 : ST → Prop} {K : Int32 → ST → Prop} : ∀ (n : Nat) (x1 : Int32) (x2 : Int32) (s : ST), w_91_L2 n x1 x2 s X26 X22 K → (∀ (s : ST), X26  s → Ex sc (d + 1) 91 26 [pu, pu, pu] [] (hpS s) (kZ K)) → (∀ (s : ST), X22  s → Ex sc (d + 1) 91 22 [pu, pu, pu] [] (hpS s) (kZ K)) → Ex sc (d + 1) 91 2 [.ref 23, .int x1, .int x2] [] (hpS s) (kZ K) := by
  have hq : prog[91]? = some pm91 := rfl
  intro n
  induction n with
  | zero =>
    intro x1 x2 s k
    exact k.elim
  | succ n ih =>
    intro x1 x2 s k hX26 hX22
    rw [w_91_L2] at k
    refine Ex.seg hq 2 (j := 4) (L' := [.ref 23, .int x1, .int x2]) (S' := [.int (9 : Int32), .int x2]) (h' := hpS s) rfl ?_
    refine Ex.i2 hq rfl (fun c => ?_) (fun c => ?_)
    · have k := k.1 c
      refine Ex.fg (L := [pu, pu, pu]) ⟨Or.inr ⟨rfl, rfl⟩, ⟨Or.inr ⟨rfl, rfl⟩, ⟨Or.inr ⟨rfl, rfl⟩, trivial⟩⟩⟩ ?_
      exact hX26  s k
    · have k := k.2 c
      refine Ex.seg hq 2 (j := 7) (L' := [.ref 23, .int x1, .int x2]) (S' := [.int x1, .int x2]) (h' := hpS s) rfl ?_
      refine Ex.cl hq rfl rfl ?_
      refine Rn.mono (q_184 (d := d + 0) x2 x1 s k) ?_
      rintro _ _ ⟨r2, s1, rfl, hzr2, rfl, k⟩
      show Ex sc (d + 1) 91 8 [.ref 23, .int x1, .int x2] [.int r2] (hpS s1) _
      refine Ex.i1 hq rfl (fun c => ?_) (fun c => ?_)
      · have k := k.1 c
        refine Ex.seg hq 2 (j := 2) (L' := [.ref 23, .int x1, .int (x2 + (1 : Int32))]) (S' := []) (h' := hpS s1) rfl ?_
        exact ih x1 (x2 + (1 : Int32)) s1 k hX26 hX22
      · have k := k.2 c
        refine Ex.seg hq 3 (j := 12) (L' := [.ref 23, .int x1, .int x2]) (S' := [.int x2, .ref 26]) (h' := hpS s1) rfl ?_
        obtain ⟨hin, k⟩ := k
        refine Ex.ial hq rfl rfl hin ?_
        refine Ex.seg hq 1 (j := 14) (L' := [.ref 23, .int x1, .int x2]) (S' := [.int (-1 : Int32), .int ((s1.2.1 26) (x2).toNatClampNeg)]) (h' := hpS s1) rfl ?_
        refine Ex.i2 hq rfl (fun c => ?_) (fun c => ?_)
        · have k := k.1 c
          refine Ex.seg hq 2 (j := 2) (L' := [.ref 23, .int x1, .int (x2 + (1 : Int32))]) (S' := []) (h' := hpS s1) rfl ?_
          exact ih x1 (x2 + (1 : Int32)) s1 k hX26 hX22
        · have k := k.2 c
          refine Ex.seg hq 3 (j := 18) (L' := [.ref 23, .int x1, .int x2]) (S' := [.int x2, .ref 26]) (h' := hpS s1) rfl ?_
          obtain ⟨hin, k⟩ := k
          refine Ex.ial hq rfl rfl hin ?_
          refine Ex.seg hq 1 (j := 20) (L' := [.ref 23, .int x1, .int x2]) (S' := [.int x1, .int ((s1.2.1 26) (x2).toNatClampNeg)]) (h' := hpS s1) rfl ?_
          refine Ex.cl hq rfl rfl ?_
          refine Rn.mono (q_184 (d := d + 0) ((s1.2.1 26) (x2).toNatClampNeg) x1 s1 k) ?_
          rintro _ _ ⟨r4, s3, rfl, hzr4, rfl, k⟩
          show Ex sc (d + 1) 91 21 [.ref 23, .int x1, .int x2] [.int r4] (hpS s3) _
          refine Ex.i1 hq rfl (fun c => ?_) (fun c => ?_)
          · have k := k.1 c
            refine Ex.seg hq 2 (j := 2) (L' := [.ref 23, .int x1, .int (x2 + (1 : Int32))]) (S' := []) (h' := hpS s3) rfl ?_
            exact ih x1 (x2 + (1 : Int32)) s3 k hX26 hX22
          · have k := k.2 c
            refine Ex.fg (L := [pu, pu, pu]) ⟨Or.inr ⟨rfl, rfl⟩, ⟨Or.inr ⟨rfl, rfl⟩, ⟨Or.inr ⟨rfl, rfl⟩, trivial⟩⟩⟩ ?_
            exact hX22  s3 k
/-- RowAuditor$Readings.wantsOutside(I)Z -/
def w_91 (p1 : Int32) (s : ST) (K : Int32 → ST → Prop) : Prop := (∃ m, w_91_L2 m p1 (0 : Int32) s (fun s5 => K (0 : Int32) s5) (fun s6 => K (1 : Int32) s6) K)
theorem q_91 {d : Nat} {K : Int32 → ST → Prop} (p1 : Int32) (s : ST) (k : w_91 p1 s K) : Rn sc (d + 1) 91 [.ref 23, .int p1] (hpS s) (kZ K) := by
  have hq : prog[91]? = some pm91 := rfl
  refine Rn.of (L := [.ref 23, .int p1, pu]) hq rfl rfl ?_
  unfold w_91 at k
  refine Ex.seg hq 2 (j := 2) (L' := [.ref 23, .int p1, .int (0 : Int32)]) (S' := []) (h' := hpS s) rfl ?_
  obtain ⟨m, k⟩ := k
  refine q_91_L2 (d := d) m p1 (0 : Int32) s k ?_ ?_
  · intro s5 k
    refine Ex.seg hq 1 (j := 27) (L' := [pu, pu, pu]) (S' := [.int (0 : Int32)]) (h' := hpS s5) rfl ?_
    exact Ex.zr hq rfl rfl (Or.inl rfl) ⟨(0 : Int32), s5, rfl, (Or.inl rfl), rfl, k⟩
  · intro s6 k
    refine Ex.seg hq 1 (j := 23) (L' := [pu, pu, pu]) (S' := [.int (1 : Int32)]) (h' := hpS s6) rfl ?_
    exact Ex.zr hq rfl rfl (Or.inr rfl) ⟨(1 : Int32), s6, rfl, (Or.inr rfl), rfl, k⟩
def w_93_R25_L4 : Nat → Int32 → Int32 → Int32 → ST → (Int32 → ST → Prop) → (Int32 → ST → Prop) → Prop
  | 0, _, _, _, _, _, _ => False
  | n + 1, x1, x2, x3, s, X22, K => (((Int32.ofNat 9) ≤ x3 → X22 x2 s) ∧ (¬ ((Int32.ofNat 9) ≤ x3) → w_184 x3 x1 s (fun r2 s1 => ((r2 = 0 → w_93_R25_L4 n x1 (x2 + (0 : Int32)) (x3 + (1 : Int32)) s1 X22 K) ∧ (¬ (r2 = 0) → (pin x3 9 = true ∧ w_93_R25_L4 n x1 (x2 + ((s1.2.1 25) (x3).toNatClampNeg)) (x3 + (1 : Int32)) s1 X22 K))))))
theorem q_93_R25_L4 {d : Nat} {X22 : Int32 → ST → Prop} {K : Int32 → ST → Prop} : ∀ (n : Nat) (x1 : Int32) (x2 : Int32) (x3 : Int32) (s : ST), w_93_R25_L4 n x1 x2 x3 s X22 K → (∀ (y2 : Int32) (s : ST), X22 y2 s → Ex sc (d + 1) 93 22 [pu, pu, .int y2, pu] [] (hpS s) (kI K)) → Ex sc (d + 1) 93 4 [.ref 25, .int x1, .int x2, .int x3] [] (hpS s) (kI K) := by
  have hq : prog[93]? = some pm93 := rfl
  intro n
  induction n with
  | zero =>
    intro x1 x2 x3 s k
    exact k.elim
  | succ n ih =>
    intro x1 x2 x3 s k hX22
    rw [w_93_R25_L4] at k
    refine Ex.seg hq 3 (j := 7) (L' := [.ref 25, .int x1, .int x2, .int x3]) (S' := [.int (Int32.ofNat 9), .int x3]) (h' := hpS s) rfl ?_
    refine Ex.i2 hq rfl (fun c => ?_) (fun c => ?_)
    · have k := k.1 c
      refine Ex.fg (L := [pu, pu, .int x2, pu]) ⟨Or.inr ⟨rfl, rfl⟩, ⟨Or.inr ⟨rfl, rfl⟩, ⟨Or.inl rfl, ⟨Or.inr ⟨rfl, rfl⟩, trivial⟩⟩⟩⟩ ?_
      exact hX22 x2 s k
    · have k := k.2 c
      refine Ex.seg hq 3 (j := 11) (L' := [.ref 25, .int x1, .int x2, .int x3]) (S' := [.int x1, .int x3, .int x2]) (h' := hpS s) rfl ?_
      refine Ex.cl hq rfl rfl ?_
      refine Rn.mono (q_184 (d := d + 0) x3 x1 s k) ?_
      rintro _ _ ⟨r2, s1, rfl, hzr2, rfl, k⟩
      show Ex sc (d + 1) 93 12 [.ref 25, .int x1, .int x2, .int x3] [.int r2, .int x2] (hpS s1) _
      refine Ex.i1 hq rfl (fun c => ?_) (fun c => ?_)
      · have k := k.1 c
        refine Ex.seg hq 5 (j := 4) (L' := [.ref 25, .int x1, .int (x2 + (0 : Int32)), .int (x3 + (1 : Int32))]) (S' := []) (h' := hpS s1) rfl ?_
        exact ih x1 (x2 + (0 : Int32)) (x3 + (1 : Int32)) s1 k hX22
      · have k := k.2 c
        refine Ex.seg hq 2 (j := 15) (L' := [.ref 25, .int x1, .int x2, .int x3]) (S' := [.int x3, .ref 25, .int x2]) (h' := hpS s1) rfl ?_
        obtain ⟨hin, k⟩ := k
        refine Ex.ial hq rfl rfl hin ?_
        refine Ex.seg hq 5 (j := 4) (L' := [.ref 25, .int x1, .int (x2 + ((s1.2.1 25) (x3).toNatClampNeg)), .int (x3 + (1 : Int32))]) (S' := []) (h' := hpS s1) rfl ?_
        exact ih x1 (x2 + ((s1.2.1 25) (x3).toNatClampNeg)) (x3 + (1 : Int32)) s1 k hX22
/-- RowAuditor$Readings.sumOf([II)I -/
def w_93_R25 (p1 : Int32) (s : ST) (K : Int32 → ST → Prop) : Prop := (∃ m, w_93_R25_L4 m p1 (0 : Int32) (0 : Int32) s (fun y2 s3 => K y2 s3) K)
theorem q_93_R25 {d : Nat} {K : Int32 → ST → Prop} (p1 : Int32) (s : ST) (k : w_93_R25 p1 s K) : Rn sc (d + 1) 93 [.ref 25, .int p1] (hpS s) (kI K) := by
  have hq : prog[93]? = some pm93 := rfl
  refine Rn.of (L := [.ref 25, .int p1, pu, pu]) hq rfl rfl ?_
  unfold w_93_R25 at k
  refine Ex.seg hq 4 (j := 4) (L' := [.ref 25, .int p1, .int (0 : Int32), .int (0 : Int32)]) (S' := []) (h' := hpS s) rfl ?_
  obtain ⟨m, k⟩ := k
  refine q_93_R25_L4 (d := d) m p1 (0 : Int32) (0 : Int32) s k ?_
  · intro y2 s3 k
    refine Ex.seg hq 1 (j := 23) (L' := [pu, pu, .int y2, pu]) (S' := [.int y2]) (h' := hpS s3) rfl ?_
    exact Ex.rt hq rfl rfl ⟨y2, s3, rfl, rfl, k⟩
/-- RowAuditor$Readings.worthOf(I)I -/
def w_92 (p1 : Int32) (s : ST) (K : Int32 → ST → Prop) : Prop := w_93_R25 p1 s (fun r2 s1 => K r2 s1)
theorem q_92 {d : Nat} {K : Int32 → ST → Prop} (p1 : Int32) (s : ST) (k : w_92 p1 s K) : Rn sc (d + 2) 92 [.ref 23, .int p1] (hpS s) (kI K) := by
  have hq : prog[92]? = some pm92 := rfl
  refine Rn.of (L := [.ref 23, .int p1]) hq rfl rfl ?_
  unfold w_92 at k
  refine Ex.seg hq 3 (j := 3) (L' := [.ref 23, .int p1]) (S' := [.int p1, .ref 25]) (h' := hpS s) rfl ?_
  refine Ex.cl hq rfl rfl ?_
  refine Rn.mono (q_93_R25 (d := d + 0) p1 s k) ?_
  rintro _ _ ⟨r2, s1, rfl, rfl, k⟩
  show Ex sc (d + 2) 92 4 [.ref 23, .int p1] [.int r2] (hpS s1) _
  exact Ex.rt hq rfl rfl ⟨r2, s1, rfl, rfl, k⟩
def w_93_L4 : Nat → Nat → Int32 → Int32 → Int32 → ST → (Int32 → ST → Prop) → (Int32 → ST → Prop) → Prop
  | 0, _, _, _, _, _, _, _ => False
  | n + 1, x0, x1, x2, x3, s, X22, K => (∃ n1 f2, prow s.2.2.2.2 x0 0 = some (n1, f2) ∧ (((Int32.ofNat n1) ≤ x3 → X22 x2 s) ∧ (¬ ((Int32.ofNat n1) ≤ x3) → w_184 x3 x1 s (fun r4 s3 => ((r4 = 0 → w_93_L4 n x0 x1 (x2 + (0 : Int32)) (x3 + (1 : Int32)) s3 X22 K) ∧ (¬ (r4 = 0) → (∃ n5 f6, prow s3.2.2.2.2 x0 0 = some (n5, f6) ∧ pin x3 n5 = true ∧ w_93_L4 n x0 x1 (x2 + (f6 (x3).toNatClampNeg)) (x3 + (1 : Int32)) s3 X22 K)))))))
theorem q_93_L4 {d : Nat} {X22 : Int32 → ST → Prop} {K : Int32 → ST → Prop} : ∀ (n : Nat) (x0 : Nat) (x1 : Int32) (x2 : Int32) (x3 : Int32) (s : ST), w_93_L4 n x0 x1 x2 x3 s X22 K → (∀ (y2 : Int32) (s : ST), X22 y2 s → Ex sc (d + 1) 93 22 [pu, pu, .int y2, pu] [] (hpS s) (kI K)) → Ex sc (d + 1) 93 4 [.ref (x0 + 118), .int x1, .int x2, .int x3] [] (hpS s) (kI K) := by
  have hq : prog[93]? = some pm93 := rfl
  intro n
  induction n with
  | zero =>
    intro x0 x1 x2 x3 s k
    exact k.elim
  | succ n ih =>
    intro x0 x1 x2 x3 s k hX22
    rw [w_93_L4] at k
    refine Ex.seg hq 2 (j := 6) (L' := [.ref (x0 + 118), .int x1, .int x2, .int x3]) (S' := [.ref (x0 + 118), .int x3]) (h' := hpS s) rfl ?_
    obtain ⟨n1, f2, e, k⟩ := k
    refine Ex.lnd hq rfl e ?_
    refine Ex.i2 hq rfl (fun c => ?_) (fun c => ?_)
    · have k := k.1 c
      refine Ex.fg (L := [pu, pu, .int x2, pu]) ⟨Or.inr ⟨rfl, rfl⟩, ⟨Or.inr ⟨rfl, rfl⟩, ⟨Or.inl rfl, ⟨Or.inr ⟨rfl, rfl⟩, trivial⟩⟩⟩⟩ ?_
      exact hX22 x2 s k
    · have k := k.2 c
      refine Ex.seg hq 3 (j := 11) (L' := [.ref (x0 + 118), .int x1, .int x2, .int x3]) (S' := [.int x1, .int x3, .int x2]) (h' := hpS s) rfl ?_
      refine Ex.cl hq rfl rfl ?_
      refine Rn.mono (q_184 (d := d + 0) x3 x1 s k) ?_
      rintro _ _ ⟨r4, s3, rfl, hzr4, rfl, k⟩
      show Ex sc (d + 1) 93 12 [.ref (x0 + 118), .int x1, .int x2, .int x3] [.int r4, .int x2] (hpS s3) _
      refine Ex.i1 hq rfl (fun c => ?_) (fun c => ?_)
      · have k := k.1 c
        refine Ex.seg hq 5 (j := 4) (L' := [.ref (x0 + 118), .int x1, .int (x2 + (0 : Int32)), .int (x3 + (1 : Int32))]) (S' := []) (h' := hpS s3) rfl ?_
        exact ih x0 x1 (x2 + (0 : Int32)) (x3 + (1 : Int32)) s3 k hX22
      · have k := k.2 c
        refine Ex.seg hq 2 (j := 15) (L' := [.ref (x0 + 118), .int x1, .int x2, .int x3]) (S' := [.int x3, .ref (x0 + 118), .int x2]) (h' := hpS s3) rfl ?_
        obtain ⟨n5, f6, e, hin, k⟩ := k
        refine Ex.iad hq rfl e hin ?_
        refine Ex.seg hq 5 (j := 4) (L' := [.ref (x0 + 118), .int x1, .int (x2 + (f6 (x3).toNatClampNeg)), .int (x3 + (1 : Int32))]) (S' := []) (h' := hpS s3) rfl ?_
        exact ih x0 x1 (x2 + (f6 (x3).toNatClampNeg)) (x3 + (1 : Int32)) s3 k hX22
/-- RowAuditor$Readings.sumOf([II)I -/
def w_93 (p0 : Nat) (p1 : Int32) (s : ST) (K : Int32 → ST → Prop) : Prop := (∃ m, w_93_L4 m p0 p1 (0 : Int32) (0 : Int32) s (fun y2 s7 => K y2 s7) K)
theorem q_93 {d : Nat} {K : Int32 → ST → Prop} (p0 : Nat) (p1 : Int32) (s : ST) (k : w_93 p0 p1 s K) : Rn sc (d + 1) 93 [.ref (p0 + 118), .int p1] (hpS s) (kI K) := by
  have hq : prog[93]? = some pm93 := rfl
  refine Rn.of (L := [.ref (p0 + 118), .int p1, pu, pu]) hq rfl rfl ?_
  unfold w_93 at k
  refine Ex.seg hq 4 (j := 4) (L' := [.ref (p0 + 118), .int p1, .int (0 : Int32), .int (0 : Int32)]) (S' := []) (h' := hpS s) rfl ?_
  obtain ⟨m, k⟩ := k
  refine q_93_L4 (d := d) m p0 p1 (0 : Int32) (0 : Int32) s k ?_
  · intro y2 s7 k
    refine Ex.seg hq 1 (j := 23) (L' := [pu, pu, .int y2, pu]) (S' := [.int y2]) (h' := hpS s7) rfl ?_
    exact Ex.rt hq rfl rfl ⟨y2, s7, rfl, rfl, k⟩
def w_93_R24_L4 : Nat → Int32 → Int32 → Int32 → ST → (Int32 → ST → Prop) → (Int32 → ST → Prop) → Prop
  | 0, _, _, _, _, _, _ => False
  | n + 1, x1, x2, x3, s, X22, K => (((Int32.ofNat 9) ≤ x3 → X22 x2 s) ∧ (¬ ((Int32.ofNat 9) ≤ x3) → w_184 x3 x1 s (fun r2 s1 => ((r2 = 0 → w_93_R24_L4 n x1 (x2 + (0 : Int32)) (x3 + (1 : Int32)) s1 X22 K) ∧ (¬ (r2 = 0) → (pin x3 9 = true ∧ w_93_R24_L4 n x1 (x2 + ((s1.2.1 24) (x3).toNatClampNeg)) (x3 + (1 : Int32)) s1 X22 K))))))
theorem q_93_R24_L4 {d : Nat} {X22 : Int32 → ST → Prop} {K : Int32 → ST → Prop} : ∀ (n : Nat) (x1 : Int32) (x2 : Int32) (x3 : Int32) (s : ST), w_93_R24_L4 n x1 x2 x3 s X22 K → (∀ (y2 : Int32) (s : ST), X22 y2 s → Ex sc (d + 1) 93 22 [pu, pu, .int y2, pu] [] (hpS s) (kI K)) → Ex sc (d + 1) 93 4 [.ref 24, .int x1, .int x2, .int x3] [] (hpS s) (kI K) := by
  have hq : prog[93]? = some pm93 := rfl
  intro n
  induction n with
  | zero =>
    intro x1 x2 x3 s k
    exact k.elim
  | succ n ih =>
    intro x1 x2 x3 s k hX22
    rw [w_93_R24_L4] at k
    refine Ex.seg hq 3 (j := 7) (L' := [.ref 24, .int x1, .int x2, .int x3]) (S' := [.int (Int32.ofNat 9), .int x3]) (h' := hpS s) rfl ?_
    refine Ex.i2 hq rfl (fun c => ?_) (fun c => ?_)
    · have k := k.1 c
      refine Ex.fg (L := [pu, pu, .int x2, pu]) ⟨Or.inr ⟨rfl, rfl⟩, ⟨Or.inr ⟨rfl, rfl⟩, ⟨Or.inl rfl, ⟨Or.inr ⟨rfl, rfl⟩, trivial⟩⟩⟩⟩ ?_
      exact hX22 x2 s k
    · have k := k.2 c
      refine Ex.seg hq 3 (j := 11) (L' := [.ref 24, .int x1, .int x2, .int x3]) (S' := [.int x1, .int x3, .int x2]) (h' := hpS s) rfl ?_
      refine Ex.cl hq rfl rfl ?_
      refine Rn.mono (q_184 (d := d + 0) x3 x1 s k) ?_
      rintro _ _ ⟨r2, s1, rfl, hzr2, rfl, k⟩
      show Ex sc (d + 1) 93 12 [.ref 24, .int x1, .int x2, .int x3] [.int r2, .int x2] (hpS s1) _
      refine Ex.i1 hq rfl (fun c => ?_) (fun c => ?_)
      · have k := k.1 c
        refine Ex.seg hq 5 (j := 4) (L' := [.ref 24, .int x1, .int (x2 + (0 : Int32)), .int (x3 + (1 : Int32))]) (S' := []) (h' := hpS s1) rfl ?_
        exact ih x1 (x2 + (0 : Int32)) (x3 + (1 : Int32)) s1 k hX22
      · have k := k.2 c
        refine Ex.seg hq 2 (j := 15) (L' := [.ref 24, .int x1, .int x2, .int x3]) (S' := [.int x3, .ref 24, .int x2]) (h' := hpS s1) rfl ?_
        obtain ⟨hin, k⟩ := k
        refine Ex.ial hq rfl rfl hin ?_
        refine Ex.seg hq 5 (j := 4) (L' := [.ref 24, .int x1, .int (x2 + ((s1.2.1 24) (x3).toNatClampNeg)), .int (x3 + (1 : Int32))]) (S' := []) (h' := hpS s1) rfl ?_
        exact ih x1 (x2 + ((s1.2.1 24) (x3).toNatClampNeg)) (x3 + (1 : Int32)) s1 k hX22
/-- RowAuditor$Readings.sumOf([II)I -/
def w_93_R24 (p1 : Int32) (s : ST) (K : Int32 → ST → Prop) : Prop := (∃ m, w_93_R24_L4 m p1 (0 : Int32) (0 : Int32) s (fun y2 s3 => K y2 s3) K)
theorem q_93_R24 {d : Nat} {K : Int32 → ST → Prop} (p1 : Int32) (s : ST) (k : w_93_R24 p1 s K) : Rn sc (d + 1) 93 [.ref 24, .int p1] (hpS s) (kI K) := by
  have hq : prog[93]? = some pm93 := rfl
  refine Rn.of (L := [.ref 24, .int p1, pu, pu]) hq rfl rfl ?_
  unfold w_93_R24 at k
  refine Ex.seg hq 4 (j := 4) (L' := [.ref 24, .int p1, .int (0 : Int32), .int (0 : Int32)]) (S' := []) (h' := hpS s) rfl ?_
  obtain ⟨m, k⟩ := k
  refine q_93_R24_L4 (d := d) m p1 (0 : Int32) (0 : Int32) s k ?_
  · intro y2 s3 k
    refine Ex.seg hq 1 (j := 23) (L' := [pu, pu, .int y2, pu]) (S' := [.int y2]) (h' := hpS s3) rfl ?_
    exact Ex.rt hq rfl rfl ⟨y2, s3, rfl, rfl, k⟩
/-- RowAuditor$Readings.isBetter(II)Z -/
def w_95 (p1 : Int32) (p2 : Int32) (s : ST) (K : Int32 → ST → Prop) : Prop := w_92 p1 s (fun r2 s1 => w_92 p2 s1 (fun r4 s3 => ((0 < (r2 - r4) → K (1 : Int32) s3) ∧ (¬ (0 < (r2 - r4)) → ((¬ (r2 - r4) = 0 → K (0 : Int32) s3) ∧ (¬ (¬ (r2 - r4) = 0) → w_93_R24 p1 s3 (fun r6 s5 => w_93_R24 p2 s5 (fun r8 s7 => ((r8 ≤ r6 → K (0 : Int32) s7) ∧ (¬ (r8 ≤ r6) → K (1 : Int32) s7))))))))))
theorem q_95 {d : Nat} {K : Int32 → ST → Prop} (p1 : Int32) (p2 : Int32) (s : ST) (k : w_95 p1 p2 s K) : Rn sc (d + 3) 95 [.ref 23, .int p1, .int p2] (hpS s) (kZ K) := by
  have hq : prog[95]? = some pm95 := rfl
  refine Rn.of (L := [.ref 23, .int p1, .int p2, pu]) hq rfl rfl ?_
  unfold w_95 at k
  refine Ex.seg hq 2 (j := 2) (L' := [.ref 23, .int p1, .int p2, pu]) (S' := [.int p1, .ref 23]) (h' := hpS s) rfl ?_
  refine Ex.cl hq rfl rfl ?_
  refine Rn.mono (q_92 (d := d + 0) p1 s k) ?_
  rintro _ _ ⟨r2, s1, rfl, rfl, k⟩
  show Ex sc (d + 3) 95 3 [.ref 23, .int p1, .int p2, pu] [.int r2] (hpS s1) _
  refine Ex.seg hq 2 (j := 5) (L' := [.ref 23, .int p1, .int p2, pu]) (S' := [.int p2, .ref 23, .int r2]) (h' := hpS s1) rfl ?_
  refine Ex.cl hq rfl rfl ?_
  refine Rn.mono (q_92 (d := d + 0) p2 s1 k) ?_
  rintro _ _ ⟨r4, s3, rfl, rfl, k⟩
  show Ex sc (d + 3) 95 6 [.ref 23, .int p1, .int p2, pu] [.int r4, .int r2] (hpS s3) _
  refine Ex.seg hq 3 (j := 9) (L' := [.ref 23, .int p1, .int p2, .int (r2 - r4)]) (S' := [.int (r2 - r4)]) (h' := hpS s3) rfl ?_
  refine Ex.i1 hq rfl (fun c => ?_) (fun c => ?_)
  · have k := k.1 c
    refine Ex.seg hq 2 (j := 24) (L' := [.ref 23, .int p1, .int p2, .int (r2 - r4)]) (S' := [.int (1 : Int32)]) (h' := hpS s3) rfl ?_
    exact Ex.zr hq rfl rfl (Or.inr rfl) ⟨(1 : Int32), s3, rfl, (Or.inr rfl), rfl, k⟩
  · have k := k.2 c
    refine Ex.seg hq 1 (j := 11) (L' := [.ref 23, .int p1, .int p2, .int (r2 - r4)]) (S' := [.int (r2 - r4)]) (h' := hpS s3) rfl ?_
    refine Ex.i1 hq rfl (fun c => ?_) (fun c => ?_)
    · have k := k.1 c
      refine Ex.seg hq 1 (j := 24) (L' := [.ref 23, .int p1, .int p2, .int (r2 - r4)]) (S' := [.int (0 : Int32)]) (h' := hpS s3) rfl ?_
      exact Ex.zr hq rfl rfl (Or.inl rfl) ⟨(0 : Int32), s3, rfl, (Or.inl rfl), rfl, k⟩
    · have k := k.2 c
      refine Ex.seg hq 3 (j := 15) (L' := [.ref 23, .int p1, .int p2, .int (r2 - r4)]) (S' := [.int p1, .ref 24]) (h' := hpS s3) rfl ?_
      refine Ex.cl hq rfl rfl ?_
      refine Rn.mono (q_93_R24 (d := d + 1) p1 s3 k) ?_
      rintro _ _ ⟨r6, s5, rfl, rfl, k⟩
      show Ex sc (d + 3) 95 16 [.ref 23, .int p1, .int p2, .int (r2 - r4)] [.int r6] (hpS s5) _
      refine Ex.seg hq 3 (j := 19) (L' := [.ref 23, .int p1, .int p2, .int (r2 - r4)]) (S' := [.int p2, .ref 24, .int r6]) (h' := hpS s5) rfl ?_
      refine Ex.cl hq rfl rfl ?_
      refine Rn.mono (q_93_R24 (d := d + 1) p2 s5 k) ?_
      rintro _ _ ⟨r8, s7, rfl, rfl, k⟩
      show Ex sc (d + 3) 95 20 [.ref 23, .int p1, .int p2, .int (r2 - r4)] [.int r8, .int r6] (hpS s7) _
      refine Ex.i2 hq rfl (fun c => ?_) (fun c => ?_)
      · have k := k.1 c
        refine Ex.seg hq 1 (j := 24) (L' := [.ref 23, .int p1, .int p2, .int (r2 - r4)]) (S' := [.int (0 : Int32)]) (h' := hpS s7) rfl ?_
        exact Ex.zr hq rfl rfl (Or.inl rfl) ⟨(0 : Int32), s7, rfl, (Or.inl rfl), rfl, k⟩
      · have k := k.2 c
        refine Ex.seg hq 2 (j := 24) (L' := [.ref 23, .int p1, .int p2, .int (r2 - r4)]) (S' := [.int (1 : Int32)]) (h' := hpS s7) rfl ?_
        exact Ex.zr hq rfl rfl (Or.inr rfl) ⟨(1 : Int32), s7, rfl, (Or.inr rfl), rfl, k⟩
def w_94_L4 : Nat → Int32 → Int32 → Int32 → ST → (Int32 → ST → Prop) → (Int32 → ST → Prop) → Prop
  | 0, _, _, _, _, _, _ => False
  | n + 1, x1, x2, x3, s, X27, K => w_90 s (fun r2 s1 => ((r2 ≤ x3 → X27 x2 s1) ∧ (¬ (r2 ≤ x3) → w_93_R24 x3 s1 (fun r4 s3 => ((x1 < r4 → w_94_L4 n x1 x2 (x3 + (1 : Int32)) s3 X27 K) ∧ (¬ (x1 < r4) → w_91 x3 s3 (fun r6 s5 => ((¬ r6 = 0 → w_94_L4 n x1 x2 (x3 + (1 : Int32)) s5 X27 K) ∧ (¬ (¬ r6 = 0) → w_95 x3 x2 s5 (fun r8 s7 => ((r8 = 0 → w_94_L4 n x1 x2 (x3 + (1 : Int32)) s7 X27 K) ∧ (¬ (r8 = 0) → w_94_L4 n x1 x3 (x3 + (1 : Int32)) s7 X27 K))))))))))))
theorem q_94_L4 {d : Nat} {X27 : Int32 → ST → Prop} {K : Int32 → ST → Prop} : ∀ (n : Nat) (x1 : Int32) (x2 : Int32) (x3 : Int32) (s : ST), w_94_L4 n x1 x2 x3 s X27 K → (∀ (y2 : Int32) (s : ST), X27 y2 s → Ex sc (d + 4) 94 27 [pu, pu, .int y2, pu] [] (hpS s) (kI K)) → Ex sc (d + 4) 94 4 [.ref 23, .int x1, .int x2, .int x3] [] (hpS s) (kI K) := by
  have hq : prog[94]? = some pm94 := rfl
  intro n
  induction n with
  | zero =>
    intro x1 x2 x3 s k
    exact k.elim
  | succ n ih =>
    intro x1 x2 x3 s k hX27
    rw [w_94_L4] at k
    refine Ex.seg hq 2 (j := 6) (L' := [.ref 23, .int x1, .int x2, .int x3]) (S' := [.ref 23, .int x3]) (h' := hpS s) rfl ?_
    refine Ex.cl hq rfl rfl ?_
    refine Rn.mono (q_90 (d := d + 3) s k) ?_
    rintro _ _ ⟨r2, s1, rfl, rfl, k⟩
    show Ex sc (d + 4) 94 7 [.ref 23, .int x1, .int x2, .int x3] [.int r2, .int x3] (hpS s1) _
    refine Ex.i2 hq rfl (fun c => ?_) (fun c => ?_)
    · have k := k.1 c
      refine Ex.fg (L := [pu, pu, .int x2, pu]) ⟨Or.inr ⟨rfl, rfl⟩, ⟨Or.inr ⟨rfl, rfl⟩, ⟨Or.inl rfl, ⟨Or.inr ⟨rfl, rfl⟩, trivial⟩⟩⟩⟩ ?_
      exact hX27 x2 s1 k
    · have k := k.2 c
      refine Ex.seg hq 3 (j := 11) (L' := [.ref 23, .int x1, .int x2, .int x3]) (S' := [.int x3, .ref 24]) (h' := hpS s1) rfl ?_
      refine Ex.cl hq rfl rfl ?_
      refine Rn.mono (q_93_R24 (d := d + 2) x3 s1 k) ?_
      rintro _ _ ⟨r4, s3, rfl, rfl, k⟩
      show Ex sc (d + 4) 94 12 [.ref 23, .int x1, .int x2, .int x3] [.int r4] (hpS s3) _
      refine Ex.seg hq 1 (j := 13) (L' := [.ref 23, .int x1, .int x2, .int x3]) (S' := [.int x1, .int r4]) (h' := hpS s3) rfl ?_
      refine Ex.i2 hq rfl (fun c => ?_) (fun c => ?_)
      · have k := k.1 c
        refine Ex.seg hq 2 (j := 4) (L' := [.ref 23, .int x1, .int x2, .int (x3 + (1 : Int32))]) (S' := []) (h' := hpS s3) rfl ?_
        exact ih x1 x2 (x3 + (1 : Int32)) s3 k hX27
      · have k := k.2 c
        refine Ex.seg hq 2 (j := 16) (L' := [.ref 23, .int x1, .int x2, .int x3]) (S' := [.int x3, .ref 23]) (h' := hpS s3) rfl ?_
        refine Ex.cl hq rfl rfl ?_
        refine Rn.mono (q_91 (d := d + 2) x3 s3 k) ?_
        rintro _ _ ⟨r6, s5, rfl, hzr6, rfl, k⟩
        show Ex sc (d + 4) 94 17 [.ref 23, .int x1, .int x2, .int x3] [.int r6] (hpS s5) _
        refine Ex.i1 hq rfl (fun c => ?_) (fun c => ?_)
        · have k := k.1 c
          refine Ex.seg hq 2 (j := 4) (L' := [.ref 23, .int x1, .int x2, .int (x3 + (1 : Int32))]) (S' := []) (h' := hpS s5) rfl ?_
          exact ih x1 x2 (x3 + (1 : Int32)) s5 k hX27
        · have k := k.2 c
          refine Ex.seg hq 3 (j := 21) (L' := [.ref 23, .int x1, .int x2, .int x3]) (S' := [.int x2, .int x3, .ref 23]) (h' := hpS s5) rfl ?_
          refine Ex.cl hq rfl rfl ?_
          refine Rn.mono (q_95 (d := d + 0) x3 x2 s5 k) ?_
          rintro _ _ ⟨r8, s7, rfl, hzr8, rfl, k⟩
          show Ex sc (d + 4) 94 22 [.ref 23, .int x1, .int x2, .int x3] [.int r8] (hpS s7) _
          refine Ex.i1 hq rfl (fun c => ?_) (fun c => ?_)
          · have k := k.1 c
            refine Ex.seg hq 2 (j := 4) (L' := [.ref 23, .int x1, .int x2, .int (x3 + (1 : Int32))]) (S' := []) (h' := hpS s7) rfl ?_
            exact ih x1 x2 (x3 + (1 : Int32)) s7 k hX27
          · have k := k.2 c
            refine Ex.seg hq 4 (j := 4) (L' := [.ref 23, .int x1, .int x3, .int (x3 + (1 : Int32))]) (S' := []) (h' := hpS s7) rfl ?_
            exact ih x1 x3 (x3 + (1 : Int32)) s7 k hX27
/-- RowAuditor$Readings.bestSet(I)I -/
def w_94 (p1 : Int32) (s : ST) (K : Int32 → ST → Prop) : Prop := (∃ m, w_94_L4 m p1 (0 : Int32) (1 : Int32) s (fun y2 s9 => K y2 s9) K)
theorem q_94 {d : Nat} {K : Int32 → ST → Prop} (p1 : Int32) (s : ST) (k : w_94 p1 s K) : Rn sc (d + 4) 94 [.ref 23, .int p1] (hpS s) (kI K) := by
  have hq : prog[94]? = some pm94 := rfl
  refine Rn.of (L := [.ref 23, .int p1, pu, pu]) hq rfl rfl ?_
  unfold w_94 at k
  refine Ex.seg hq 4 (j := 4) (L' := [.ref 23, .int p1, .int (0 : Int32), .int (1 : Int32)]) (S' := []) (h' := hpS s) rfl ?_
  obtain ⟨m, k⟩ := k
  refine q_94_L4 (d := d) m p1 (0 : Int32) (1 : Int32) s k ?_
  · intro y2 s9 k
    refine Ex.seg hq 1 (j := 28) (L' := [pu, pu, .int y2, pu]) (S' := [.int y2]) (h' := hpS s9) rfl ?_
    exact Ex.rt hq rfl rfl ⟨y2, s9, rfl, rfl, k⟩
/-- RowAuditor$Rounder.isMove(I)Z -/
def w_98 (p1 : Int32) (s : ST) (K : Int32 → ST → Prop) : Prop := w_9 p1 (0 : Int32) s (fun r2 s1 => ((¬ r2 = (2 : Int32) → K (0 : Int32) s1) ∧ (¬ (¬ r2 = (2 : Int32)) → K (1 : Int32) s1)))
theorem q_98 {d : Nat} {K : Int32 → ST → Prop} (p1 : Int32) (s : ST) (k : w_98 p1 s K) : Rn sc (d + 1) 98 [.ref 46, .int p1] (hpS s) (kZ K) := by
  have hq : prog[98]? = some pm98 := rfl
  refine Rn.of (L := [.ref 46, .int p1]) hq rfl rfl ?_
  unfold w_98 at k
  refine Ex.seg hq 4 (j := 4) (L' := [.ref 46, .int p1]) (S' := [.int (0 : Int32), .int p1, .ref 1]) (h' := hpS s) rfl ?_
  refine Ex.cl hq rfl rfl ?_
  refine Rn.mono (q_9 (d := d + 0) p1 (0 : Int32) s k) ?_
  rintro _ _ ⟨r2, s1, rfl, rfl, k⟩
  show Ex sc (d + 1) 98 5 [.ref 46, .int p1] [.int r2] (hpS s1) _
  refine Ex.seg hq 1 (j := 6) (L' := [.ref 46, .int p1]) (S' := [.int (2 : Int32), .int r2]) (h' := hpS s1) rfl ?_
  refine Ex.i2 hq rfl (fun c => ?_) (fun c => ?_)
  · have k := k.1 c
    refine Ex.seg hq 1 (j := 10) (L' := [.ref 46, .int p1]) (S' := [.int (0 : Int32)]) (h' := hpS s1) rfl ?_
    exact Ex.zr hq rfl rfl (Or.inl rfl) ⟨(0 : Int32), s1, rfl, (Or.inl rfl), rfl, k⟩
  · have k := k.2 c
    refine Ex.seg hq 2 (j := 10) (L' := [.ref 46, .int p1]) (S' := [.int (1 : Int32)]) (h' := hpS s1) rfl ?_
    exact Ex.zr hq rfl rfl (Or.inr rfl) ⟨(1 : Int32), s1, rfl, (Or.inr rfl), rfl, k⟩
/-- RowAuditor$Rounder.stayOf(II)I -/
def w_100 (p0 : Int32) (p1 : Int32) (s : ST) (K : Int32 → ST → Prop) : Prop := ((¬ p0 = p1 → ((p1 ≤ p0 → K (p0 - (1 : Int32)) s) ∧ (¬ (p1 ≤ p0) → K p0 s))) ∧ (¬ (¬ p0 = p1) → K (-1 : Int32) s))
theorem q_100 {d : Nat} {K : Int32 → ST → Prop} (p0 : Int32) (p1 : Int32) (s : ST) (k : w_100 p0 p1 s K) : Rn sc (d + 0) 100 [.int p0, .int p1] (hpS s) (kI K) := by
  have hq : prog[100]? = some pm100 := rfl
  refine Rn.of (L := [.int p0, .int p1]) hq rfl rfl ?_
  unfold w_100 at k
  refine Ex.seg hq 2 (j := 2) (L' := [.int p0, .int p1]) (S' := [.int p1, .int p0]) (h' := hpS s) rfl ?_
  refine Ex.i2 hq rfl (fun c => ?_) (fun c => ?_)
  · have k := k.1 c
    refine Ex.seg hq 2 (j := 7) (L' := [.int p0, .int p1]) (S' := [.int p1, .int p0]) (h' := hpS s) rfl ?_
    refine Ex.i2 hq rfl (fun c => ?_) (fun c => ?_)
    · have k := k.1 c
      refine Ex.seg hq 3 (j := 13) (L' := [.int p0, .int p1]) (S' := [.int (p0 - (1 : Int32))]) (h' := hpS s) rfl ?_
      exact Ex.rt hq rfl rfl ⟨(p0 - (1 : Int32)), s, rfl, rfl, k⟩
    · have k := k.2 c
      refine Ex.seg hq 2 (j := 13) (L' := [.int p0, .int p1]) (S' := [.int p0]) (h' := hpS s) rfl ?_
      exact Ex.rt hq rfl rfl ⟨p0, s, rfl, rfl, k⟩
  · have k := k.2 c
    refine Ex.seg hq 2 (j := 13) (L' := [.int p0, .int p1]) (S' := [.int (-1 : Int32)]) (h' := hpS s) rfl ?_
    exact Ex.rt hq rfl rfl ⟨(-1 : Int32), s, rfl, rfl, k⟩
/-- RowAuditor$Rounder.setAt(II)I -/
def w_102 (p1 : Int32) (p2 : Int32) (s : ST) (K : Int32 → ST → Prop) : Prop := w_181 ((p1 * (163 : Int32)) + p2) (0 : Int32) ((Int32.ofNat 1467) - (1 : Int32)) s (fun r2 s1 => ((r2 = 0 → K (0 : Int32) s1) ∧ (¬ (r2 = 0) → (pin ((p1 * (163 : Int32)) + p2) 1467 = true ∧ K ((s1.2.1 48) (((p1 * (163 : Int32)) + p2)).toNatClampNeg) s1))))
theorem q_102 {d : Nat} {K : Int32 → ST → Prop} (p1 : Int32) (p2 : Int32) (s : ST) (k : w_102 p1 p2 s K) : Rn sc (d + 1) 102 [.ref 46, .int p1, .int p2] (hpS s) (kI K) := by
  have hq : prog[102]? = some pm102 := rfl
  refine Rn.of (L := [.ref 46, .int p1, .int p2, pu]) hq rfl rfl ?_
  unfold w_102 at k
  refine Ex.seg hq 13 (j := 13) (L' := [.ref 46, .int p1, .int p2, .int ((p1 * (163 : Int32)) + p2)]) (S' := [.int ((Int32.ofNat 1467) - (1 : Int32)), .int (0 : Int32), .int ((p1 * (163 : Int32)) + p2)]) (h' := hpS s) rfl ?_
  refine Ex.cl hq rfl rfl ?_
  refine Rn.mono (q_181 (d := d + 0) ((p1 * (163 : Int32)) + p2) (0 : Int32) ((Int32.ofNat 1467) - (1 : Int32)) s k) ?_
  rintro _ _ ⟨r2, s1, rfl, hzr2, rfl, k⟩
  show Ex sc (d + 1) 102 14 [.ref 46, .int p1, .int p2, .int ((p1 * (163 : Int32)) + p2)] [.int r2] (hpS s1) _
  refine Ex.i1 hq rfl (fun c => ?_) (fun c => ?_)
  · have k := k.1 c
    refine Ex.seg hq 1 (j := 21) (L' := [.ref 46, .int p1, .int p2, .int ((p1 * (163 : Int32)) + p2)]) (S' := [.int (0 : Int32)]) (h' := hpS s1) rfl ?_
    exact Ex.rt hq rfl rfl ⟨(0 : Int32), s1, rfl, rfl, k⟩
  · have k := k.2 c
    refine Ex.seg hq 3 (j := 18) (L' := [.ref 46, .int p1, .int p2, .int ((p1 * (163 : Int32)) + p2)]) (S' := [.int ((p1 * (163 : Int32)) + p2), .ref 48]) (h' := hpS s1) rfl ?_
    obtain ⟨hin, k⟩ := k
    refine Ex.ial hq rfl rfl hin ?_
    refine Ex.seg hq 1 (j := 21) (L' := [.ref 46, .int p1, .int p2, .int ((p1 * (163 : Int32)) + p2)]) (S' := [.int ((s1.2.1 48) (((p1 * (163 : Int32)) + p2)).toNatClampNeg)]) (h' := hpS s1) rfl ?_
    exact Ex.rt hq rfl rfl ⟨((s1.2.1 48) (((p1 * (163 : Int32)) + p2)).toNatClampNeg), s1, rfl, rfl, k⟩
/-- RowAuditor$Rounder.indexOf(II)I -/
def w_104 (p0 : Int32) (p1 : Int32) (s : ST) (K : Int32 → ST → Prop) : Prop := K ((p0 * (256 : Int32)) + (((p1 >>> ((p0 + (1 : Int32)) &&& 31)) <<< (p0 &&& 31)) ||| (p1 &&& (((1 : Int32) <<< (p0 &&& 31)) - (1 : Int32))))) s
theorem q_104 {d : Nat} {K : Int32 → ST → Prop} (p0 : Int32) (p1 : Int32) (s : ST) (k : w_104 p0 p1 s K) : Rn sc (d + 0) 104 [.int p0, .int p1] (hpS s) (kI K) := by
  have hq : prog[104]? = some pm104 := rfl
  refine Rn.of (L := [.int p0, .int p1, pu, pu]) hq rfl rfl ?_
  unfold w_104 at k
  refine Ex.seg hq 23 (j := 23) (L' := [.int p0, .int p1, .int (p1 &&& (((1 : Int32) <<< (p0 &&& 31)) - (1 : Int32))), .int ((p1 >>> ((p0 + (1 : Int32)) &&& 31)) <<< (p0 &&& 31))]) (S' := [.int ((p0 * (256 : Int32)) + (((p1 >>> ((p0 + (1 : Int32)) &&& 31)) <<< (p0 &&& 31)) ||| (p1 &&& (((1 : Int32) <<< (p0 &&& 31)) - (1 : Int32)))))]) (h' := hpS s) rfl ?_
  exact Ex.rt hq rfl rfl ⟨((p0 * (256 : Int32)) + (((p1 >>> ((p0 + (1 : Int32)) &&& 31)) <<< (p0 &&& 31)) ||| (p1 &&& (((1 : Int32) <<< (p0 &&& 31)) - (1 : Int32))))), s, rfl, rfl, k⟩
def w_106_L7 : Nat → Int32 → Int32 → ST → (Int32 → ST → Prop) → (ST → Prop) → Prop
  | 0, _, _, _, _, _ => False
  | n + 1, x1, x2, s, X36, K => (pin x1 9 = true ∧ ((((s.2.1 49) (x1).toNatClampNeg) ≤ x2 → X36 x1 s) ∧ (¬ (((s.2.1 49) (x1).toNatClampNeg) ≤ x2) → w_102 x1 x2 s (fun r2 s1 => w_104 x1 r2 s1 (fun r4 s3 => w_181 r4 (0 : Int32) ((Int32.ofNat 2304) - (1 : Int32)) s3 (fun r6 s5 => ((r6 = 0 → w_106_L7 n x1 (x2 + (1 : Int32)) s5 X36 K) ∧ (¬ (r6 = 0) → (pin r4 2304 = true ∧ w_106_L7 n x1 (x2 + (1 : Int32)) (sA s5 47 (upd (s5.2.1 47) (r4).toNatClampNeg (0 : Int32))) X36 K)))))))))
theorem q_106_L7 {d : Nat} {X36 : Int32 → ST → Prop} {K : ST → Prop} : ∀ (n : Nat) (x1 : Int32) (x2 : Int32) (s : ST), w_106_L7 n x1 x2 s X36 K → (∀ (y1 : Int32) (s : ST), X36 y1 s → Ex sc (d + 2) 106 36 [.ref 46, .int y1, pu, pu] [] (hpS s) (kV K)) → Ex sc (d + 2) 106 7 [.ref 46, .int x1, .int x2, pu] [] (hpS s) (kV K) := by
  have hq : prog[106]? = some pm106 := rfl
  intro n
  induction n with
  | zero =>
    intro x1 x2 s k
    exact k.elim
  | succ n ih =>
    intro x1 x2 s k hX36
    rw [w_106_L7] at k
    refine Ex.seg hq 4 (j := 11) (L' := [.ref 46, .int x1, .int x2, pu]) (S' := [.int x1, .ref 49, .int x2]) (h' := hpS s) rfl ?_
    obtain ⟨hin, k⟩ := k
    refine Ex.ial hq rfl rfl hin ?_
    refine Ex.i2 hq rfl (fun c => ?_) (fun c => ?_)
    · have k := k.1 c
      refine Ex.fg (L := [.ref 46, .int x1, pu, pu]) ⟨Or.inl rfl, ⟨Or.inl rfl, ⟨Or.inr ⟨rfl, rfl⟩, ⟨Or.inl rfl, trivial⟩⟩⟩⟩ ?_
      exact hX36 x1 s k
    · have k := k.2 c
      refine Ex.seg hq 4 (j := 17) (L' := [.ref 46, .int x1, .int x2, pu]) (S' := [.int x2, .int x1, .ref 46, .int x1]) (h' := hpS s) rfl ?_
      refine Ex.cl hq rfl rfl ?_
      refine Rn.mono (q_102 (d := d + 0) x1 x2 s k) ?_
      rintro _ _ ⟨r2, s1, rfl, rfl, k⟩
      show Ex sc (d + 2) 106 18 [.ref 46, .int x1, .int x2, pu] [.int r2, .int x1] (hpS s1) _
      refine Ex.cl hq rfl rfl ?_
      refine Rn.mono (q_104 (d := d + 1) x1 r2 s1 k) ?_
      rintro _ _ ⟨r4, s3, rfl, rfl, k⟩
      show Ex sc (d + 2) 106 19 [.ref 46, .int x1, .int x2, pu] [.int r4] (hpS s3) _
      refine Ex.seg hq 8 (j := 27) (L' := [.ref 46, .int x1, .int x2, .int r4]) (S' := [.int ((Int32.ofNat 2304) - (1 : Int32)), .int (0 : Int32), .int r4]) (h' := hpS s3) rfl ?_
      refine Ex.cl hq rfl rfl ?_
      refine Rn.mono (q_181 (d := d + 1) r4 (0 : Int32) ((Int32.ofNat 2304) - (1 : Int32)) s3 k) ?_
      rintro _ _ ⟨r6, s5, rfl, hzr6, rfl, k⟩
      show Ex sc (d + 2) 106 28 [.ref 46, .int x1, .int x2, .int r4] [.int r6] (hpS s5) _
      refine Ex.i1 hq rfl (fun c => ?_) (fun c => ?_)
      · have k := k.1 c
        refine Ex.seg hq 2 (j := 7) (L' := [.ref 46, .int x1, .int (x2 + (1 : Int32)), .int r4]) (S' := []) (h' := hpS s5) rfl ?_
        refine Ex.fg (L := [.ref 46, .int x1, .int (x2 + (1 : Int32)), pu]) ⟨Or.inl rfl, ⟨Or.inl rfl, ⟨Or.inl rfl, ⟨Or.inr ⟨rfl, rfl⟩, trivial⟩⟩⟩⟩ ?_
        exact ih x1 (x2 + (1 : Int32)) s5 k hX36
      · have k := k.2 c
        refine Ex.seg hq 4 (j := 33) (L' := [.ref 46, .int x1, .int x2, .int r4]) (S' := [.int (0 : Int32), .int r4, .ref 47]) (h' := hpS s5) rfl ?_
        obtain ⟨hin, k⟩ := k
        refine Ex.ias hq rfl rfl hin (h' := hpS (sA s5 47 (upd (s5.2.1 47) (r4).toNatClampNeg (0 : Int32)))) (hset_47 _ _) ?_
        refine Ex.seg hq 2 (j := 7) (L' := [.ref 46, .int x1, .int (x2 + (1 : Int32)), .int r4]) (S' := []) (h' := hpS (sA s5 47 (upd (s5.2.1 47) (r4).toNatClampNeg (0 : Int32)))) rfl ?_
        refine Ex.fg (L := [.ref 46, .int x1, .int (x2 + (1 : Int32)), pu]) ⟨Or.inl rfl, ⟨Or.inl rfl, ⟨Or.inl rfl, ⟨Or.inr ⟨rfl, rfl⟩, trivial⟩⟩⟩⟩ ?_
        exact ih x1 (x2 + (1 : Int32)) (sA s5 47 (upd (s5.2.1 47) (r4).toNatClampNeg (0 : Int32))) k hX36
def w_106_L2 : Nat → Int32 → ST → (ST → Prop) → (ST → Prop) → Prop
  | 0, _, _, _, _ => False
  | n + 1, x1, s, X43, K => (((9 : Int32) ≤ x1 → X43  s) ∧ (¬ ((9 : Int32) ≤ x1) → (∃ m, w_106_L7 m x1 (0 : Int32) s (fun y1 s1 => (pin y1 9 = true ∧ w_106_L2 n (y1 + (1 : Int32)) (sA s1 49 (upd (s1.2.1 49) (y1).toNatClampNeg (0 : Int32))) X43 K)) K)))
theorem q_106_L2 {d : Nat} {X43 : ST → Prop} {K : ST → Prop} : ∀ (n : Nat) (x1 : Int32) (s : ST), w_106_L2 n x1 s X43 K → (∀ (s : ST), X43  s → Ex sc (d + 2) 106 43 [pu, pu, pu, pu] [] (hpS s) (kV K)) → Ex sc (d + 2) 106 2 [.ref 46, .int x1, pu, pu] [] (hpS s) (kV K) := by
  have hq : prog[106]? = some pm106 := rfl
  intro n
  induction n with
  | zero =>
    intro x1 s k
    exact k.elim
  | succ n ih =>
    intro x1 s k hX43
    rw [w_106_L2] at k
    refine Ex.seg hq 2 (j := 4) (L' := [.ref 46, .int x1, pu, pu]) (S' := [.int (9 : Int32), .int x1]) (h' := hpS s) rfl ?_
    refine Ex.i2 hq rfl (fun c => ?_) (fun c => ?_)
    · have k := k.1 c
      refine Ex.fg (L := [pu, pu, pu, pu]) ⟨Or.inr ⟨rfl, rfl⟩, ⟨Or.inr ⟨rfl, rfl⟩, ⟨Or.inl rfl, ⟨Or.inl rfl, trivial⟩⟩⟩⟩ ?_
      exact hX43  s k
    · have k := k.2 c
      refine Ex.seg hq 2 (j := 7) (L' := [.ref 46, .int x1, .int (0 : Int32), pu]) (S' := []) (h' := hpS s) rfl ?_
      obtain ⟨m, k⟩ := k
      refine q_106_L7 (d := d) m x1 (0 : Int32) s k ?_
      · intro y1 s1 k
        refine Ex.seg hq 4 (j := 40) (L' := [.ref 46, .int y1, pu, pu]) (S' := [.int (0 : Int32), .int y1, .ref 49]) (h' := hpS s1) rfl ?_
        obtain ⟨hin, k⟩ := k
        refine Ex.ias hq rfl rfl hin (h' := hpS (sA s1 49 (upd (s1.2.1 49) (y1).toNatClampNeg (0 : Int32)))) (hset_49 _ _) ?_
        refine Ex.seg hq 2 (j := 2) (L' := [.ref 46, .int (y1 + (1 : Int32)), pu, pu]) (S' := []) (h' := hpS (sA s1 49 (upd (s1.2.1 49) (y1).toNatClampNeg (0 : Int32)))) rfl ?_
        exact ih (y1 + (1 : Int32)) (sA s1 49 (upd (s1.2.1 49) (y1).toNatClampNeg (0 : Int32))) k hX43
/-- RowAuditor$Rounder.forget()V -/
def w_106  (s : ST) (K : ST → Prop) : Prop := (∃ m, w_106_L2 m (0 : Int32) s (fun s2 => K s2) K)
theorem q_106 {d : Nat} {K : ST → Prop}  (s : ST) (k : w_106  s K) : Rn sc (d + 2) 106 [.ref 46] (hpS s) (kV K) := by
  have hq : prog[106]? = some pm106 := rfl
  refine Rn.of (L := [.ref 46, pu, pu, pu]) hq rfl rfl ?_
  unfold w_106 at k
  refine Ex.seg hq 2 (j := 2) (L' := [.ref 46, .int (0 : Int32), pu, pu]) (S' := []) (h' := hpS s) rfl ?_
  obtain ⟨m, k⟩ := k
  refine q_106_L2 (d := d) m (0 : Int32) s k ?_
  · intro s2 k
    exact Ex.rt hq rfl rfl ⟨s2, rfl, rfl, k⟩
/-- RowAuditor$Rounder.addWays(III)V -/
def w_105 (p1 : Int32) (p2 : Int32) (p3 : Int32) (s : ST) (K : ST → Prop) : Prop := w_104 p1 p2 s (fun r2 s1 => w_181 p1 (0 : Int32) (8 : Int32) s1 (fun r4 s3 => ((r4 = 0 → K s3) ∧ (¬ (r4 = 0) → w_181 r2 (0 : Int32) ((Int32.ofNat 2304) - (1 : Int32)) s3 (fun r6 s5 => ((¬ r6 = 0 → (pin r2 2304 = true ∧ ((¬ ((s5.2.1 47) (r2).toNatClampNeg) = 0 → (pin r2 2304 = true ∧ (pin r2 2304 = true ∧ K (sA s5 47 (upd (s5.2.1 47) (r2).toNatClampNeg (if (((s5.2.1 47) (r2).toNatClampNeg) + p3) < (100000 : Int32) then (((s5.2.1 47) (r2).toNatClampNeg) + p3) else (100000 : Int32))))))) ∧ (¬ (¬ ((s5.2.1 47) (r2).toNatClampNeg) = 0) → (pin p1 9 = true ∧ (((163 : Int32) ≤ ((s5.2.1 49) (p1).toNatClampNeg) → (pin r2 2304 = true ∧ (pin r2 2304 = true ∧ K (sA s5 47 (upd (s5.2.1 47) (r2).toNatClampNeg (if (((s5.2.1 47) (r2).toNatClampNeg) + p3) < (100000 : Int32) then (((s5.2.1 47) (r2).toNatClampNeg) + p3) else (100000 : Int32))))))) ∧ (¬ ((163 : Int32) ≤ ((s5.2.1 49) (p1).toNatClampNeg)) → (pin p1 9 = true ∧ (pin ((p1 * (163 : Int32)) + ((s5.2.1 49) (p1).toNatClampNeg)) 1467 = true ∧ (pin p1 9 = true ∧ (pin p1 9 = true ∧ (pin r2 2304 = true ∧ (pin r2 2304 = true ∧ K (sA (sA (sA s5 48 (upd (s5.2.1 48) (((p1 * (163 : Int32)) + ((s5.2.1 49) (p1).toNatClampNeg))).toNatClampNeg p2)) 49 (upd (s5.2.1 49) (p1).toNatClampNeg (((s5.2.1 49) (p1).toNatClampNeg) + (1 : Int32)))) 47 (upd (s5.2.1 47) (r2).toNatClampNeg (if (((s5.2.1 47) (r2).toNatClampNeg) + p3) < (100000 : Int32) then (((s5.2.1 47) (r2).toNatClampNeg) + p3) else (100000 : Int32))))))))))))))))) ∧ (¬ (¬ r6 = 0) → K s5)))))))
theorem q_105 {d : Nat} {K : ST → Prop} (p1 : Int32) (p2 : Int32) (p3 : Int32) (s : ST) (k : w_105 p1 p2 p3 s K) : Rn sc (d + 1) 105 [.ref 46, .int p1, .int p2, .int p3] (hpS s) (kV K) := by
  have hq : prog[105]? = some pm105 := rfl
  refine Rn.of (L := [.ref 46, .int p1, .int p2, .int p3, pu]) hq rfl rfl ?_
  unfold w_105 at k
  refine Ex.seg hq 2 (j := 2) (L' := [.ref 46, .int p1, .int p2, .int p3, pu]) (S' := [.int p2, .int p1]) (h' := hpS s) rfl ?_
  refine Ex.cl hq rfl rfl ?_
  refine Rn.mono (q_104 (d := d + 0) p1 p2 s k) ?_
  rintro _ _ ⟨r2, s1, rfl, rfl, k⟩
  show Ex sc (d + 1) 105 3 [.ref 46, .int p1, .int p2, .int p3, pu] [.int r2] (hpS s1) _
  refine Ex.seg hq 4 (j := 7) (L' := [.ref 46, .int p1, .int p2, .int p3, .int r2]) (S' := [.int (8 : Int32), .int (0 : Int32), .int p1]) (h' := hpS s1) rfl ?_
  refine Ex.cl hq rfl rfl ?_
  refine Rn.mono (q_181 (d := d + 0) p1 (0 : Int32) (8 : Int32) s1 k) ?_
  rintro _ _ ⟨r4, s3, rfl, hzr4, rfl, k⟩
  show Ex sc (d + 1) 105 8 [.ref 46, .int p1, .int p2, .int p3, .int r2] [.int r4] (hpS s3) _
  refine Ex.i1 hq rfl (fun c => ?_) (fun c => ?_)
  · have k := k.1 c
    exact Ex.rt hq rfl rfl ⟨s3, rfl, rfl, k⟩
  · have k := k.2 c
    refine Ex.seg hq 7 (j := 16) (L' := [.ref 46, .int p1, .int p2, .int p3, .int r2]) (S' := [.int ((Int32.ofNat 2304) - (1 : Int32)), .int (0 : Int32), .int r2]) (h' := hpS s3) rfl ?_
    refine Ex.cl hq rfl rfl ?_
    refine Rn.mono (q_181 (d := d + 0) r2 (0 : Int32) ((Int32.ofNat 2304) - (1 : Int32)) s3 k) ?_
    rintro _ _ ⟨r6, s5, rfl, hzr6, rfl, k⟩
    show Ex sc (d + 1) 105 17 [.ref 46, .int p1, .int p2, .int p3, .int r2] [.int r6] (hpS s5) _
    refine Ex.i1 hq rfl (fun c => ?_) (fun c => ?_)
    · have k := k.1 c
      refine Ex.seg hq 3 (j := 22) (L' := [.ref 46, .int p1, .int p2, .int p3, .int r2]) (S' := [.int r2, .ref 47]) (h' := hpS s5) rfl ?_
      obtain ⟨hin, k⟩ := k
      refine Ex.ial hq rfl rfl hin ?_
      refine Ex.i1 hq rfl (fun c => ?_) (fun c => ?_)
      · have k := k.1 c
        refine Ex.seg hq 7 (j := 57) (L' := [.ref 46, .int p1, .int p2, .int p3, .int r2]) (S' := [.int r2, .ref 47, .int (100000 : Int32), .int r2, .ref 47]) (h' := hpS s5) rfl ?_
        obtain ⟨hin, k⟩ := k
        refine Ex.ial hq rfl rfl hin ?_
        refine Ex.seg hq 3 (j := 61) (L' := [.ref 46, .int p1, .int p2, .int p3, .int r2]) (S' := [.int (if (((s5.2.1 47) (r2).toNatClampNeg) + p3) < (100000 : Int32) then (((s5.2.1 47) (r2).toNatClampNeg) + p3) else (100000 : Int32)), .int r2, .ref 47]) (h' := hpS s5) rfl ?_
        obtain ⟨hin, k⟩ := k
        refine Ex.ias hq rfl rfl hin (h' := hpS (sA s5 47 (upd (s5.2.1 47) (r2).toNatClampNeg (if (((s5.2.1 47) (r2).toNatClampNeg) + p3) < (100000 : Int32) then (((s5.2.1 47) (r2).toNatClampNeg) + p3) else (100000 : Int32))))) (hset_47 _ _) ?_
        exact Ex.rt hq rfl rfl ⟨(sA s5 47 (upd (s5.2.1 47) (r2).toNatClampNeg (if (((s5.2.1 47) (r2).toNatClampNeg) + p3) < (100000 : Int32) then (((s5.2.1 47) (r2).toNatClampNeg) + p3) else (100000 : Int32)))), rfl, rfl, k⟩
      · have k := k.2 c
        refine Ex.seg hq 3 (j := 27) (L' := [.ref 46, .int p1, .int p2, .int p3, .int r2]) (S' := [.int p1, .ref 49]) (h' := hpS s5) rfl ?_
        obtain ⟨hin, k⟩ := k
        refine Ex.ial hq rfl rfl hin ?_
        refine Ex.seg hq 1 (j := 29) (L' := [.ref 46, .int p1, .int p2, .int p3, .int r2]) (S' := [.int (163 : Int32), .int ((s5.2.1 49) (p1).toNatClampNeg)]) (h' := hpS s5) rfl ?_
        refine Ex.i2 hq rfl (fun c => ?_) (fun c => ?_)
        · have k := k.1 c
          refine Ex.seg hq 7 (j := 57) (L' := [.ref 46, .int p1, .int p2, .int p3, .int r2]) (S' := [.int r2, .ref 47, .int (100000 : Int32), .int r2, .ref 47]) (h' := hpS s5) rfl ?_
          obtain ⟨hin, k⟩ := k
          refine Ex.ial hq rfl rfl hin ?_
          refine Ex.seg hq 3 (j := 61) (L' := [.ref 46, .int p1, .int p2, .int p3, .int r2]) (S' := [.int (if (((s5.2.1 47) (r2).toNatClampNeg) + p3) < (100000 : Int32) then (((s5.2.1 47) (r2).toNatClampNeg) + p3) else (100000 : Int32)), .int r2, .ref 47]) (h' := hpS s5) rfl ?_
          obtain ⟨hin, k⟩ := k
          refine Ex.ias hq rfl rfl hin (h' := hpS (sA s5 47 (upd (s5.2.1 47) (r2).toNatClampNeg (if (((s5.2.1 47) (r2).toNatClampNeg) + p3) < (100000 : Int32) then (((s5.2.1 47) (r2).toNatClampNeg) + p3) else (100000 : Int32))))) (hset_47 _ _) ?_
          exact Ex.rt hq rfl rfl ⟨(sA s5 47 (upd (s5.2.1 47) (r2).toNatClampNeg (if (((s5.2.1 47) (r2).toNatClampNeg) + p3) < (100000 : Int32) then (((s5.2.1 47) (r2).toNatClampNeg) + p3) else (100000 : Int32)))), rfl, rfl, k⟩
        · have k := k.2 c
          refine Ex.seg hq 8 (j := 38) (L' := [.ref 46, .int p1, .int p2, .int p3, .int r2]) (S' := [.int p1, .ref 49, .int (p1 * (163 : Int32)), .ref 48]) (h' := hpS s5) rfl ?_
          obtain ⟨hin, k⟩ := k
          refine Ex.ial hq rfl rfl hin ?_
          refine Ex.seg hq 2 (j := 41) (L' := [.ref 46, .int p1, .int p2, .int p3, .int r2]) (S' := [.int p2, .int ((p1 * (163 : Int32)) + ((s5.2.1 49) (p1).toNatClampNeg)), .ref 48]) (h' := hpS s5) rfl ?_
          obtain ⟨hin, k⟩ := k
          refine Ex.ias hq rfl rfl hin (h' := hpS (sA s5 48 (upd (s5.2.1 48) (((p1 * (163 : Int32)) + ((s5.2.1 49) (p1).toNatClampNeg))).toNatClampNeg p2))) (hset_48 _ _) ?_
          refine Ex.seg hq 4 (j := 46) (L' := [.ref 46, .int p1, .int p2, .int p3, .int r2]) (S' := [.int p1, .ref 49, .int p1, .ref 49]) (h' := hpS (sA s5 48 (upd (s5.2.1 48) (((p1 * (163 : Int32)) + ((s5.2.1 49) (p1).toNatClampNeg))).toNatClampNeg p2))) rfl ?_
          obtain ⟨hin, k⟩ := k
          refine Ex.ial hq rfl rfl hin ?_
          refine Ex.seg hq 2 (j := 49) (L' := [.ref 46, .int p1, .int p2, .int p3, .int r2]) (S' := [.int (((s5.2.1 49) (p1).toNatClampNeg) + (1 : Int32)), .int p1, .ref 49]) (h' := hpS (sA s5 48 (upd (s5.2.1 48) (((p1 * (163 : Int32)) + ((s5.2.1 49) (p1).toNatClampNeg))).toNatClampNeg p2))) rfl ?_
          obtain ⟨hin, k⟩ := k
          refine Ex.ias hq rfl rfl hin (h' := hpS (sA (sA s5 48 (upd (s5.2.1 48) (((p1 * (163 : Int32)) + ((s5.2.1 49) (p1).toNatClampNeg))).toNatClampNeg p2)) 49 (upd (s5.2.1 49) (p1).toNatClampNeg (((s5.2.1 49) (p1).toNatClampNeg) + (1 : Int32))))) (hset_49 _ _) ?_
          refine Ex.seg hq 7 (j := 57) (L' := [.ref 46, .int p1, .int p2, .int p3, .int r2]) (S' := [.int r2, .ref 47, .int (100000 : Int32), .int r2, .ref 47]) (h' := hpS (sA (sA s5 48 (upd (s5.2.1 48) (((p1 * (163 : Int32)) + ((s5.2.1 49) (p1).toNatClampNeg))).toNatClampNeg p2)) 49 (upd (s5.2.1 49) (p1).toNatClampNeg (((s5.2.1 49) (p1).toNatClampNeg) + (1 : Int32))))) rfl ?_
          obtain ⟨hin, k⟩ := k
          refine Ex.ial hq rfl rfl hin ?_
          refine Ex.seg hq 3 (j := 61) (L' := [.ref 46, .int p1, .int p2, .int p3, .int r2]) (S' := [.int (if (((s5.2.1 47) (r2).toNatClampNeg) + p3) < (100000 : Int32) then (((s5.2.1 47) (r2).toNatClampNeg) + p3) else (100000 : Int32)), .int r2, .ref 47]) (h' := hpS (sA (sA s5 48 (upd (s5.2.1 48) (((p1 * (163 : Int32)) + ((s5.2.1 49) (p1).toNatClampNeg))).toNatClampNeg p2)) 49 (upd (s5.2.1 49) (p1).toNatClampNeg (((s5.2.1 49) (p1).toNatClampNeg) + (1 : Int32))))) rfl ?_
          obtain ⟨hin, k⟩ := k
          refine Ex.ias hq rfl rfl hin (h' := hpS (sA (sA (sA s5 48 (upd (s5.2.1 48) (((p1 * (163 : Int32)) + ((s5.2.1 49) (p1).toNatClampNeg))).toNatClampNeg p2)) 49 (upd (s5.2.1 49) (p1).toNatClampNeg (((s5.2.1 49) (p1).toNatClampNeg) + (1 : Int32)))) 47 (upd (s5.2.1 47) (r2).toNatClampNeg (if (((s5.2.1 47) (r2).toNatClampNeg) + p3) < (100000 : Int32) then (((s5.2.1 47) (r2).toNatClampNeg) + p3) else (100000 : Int32))))) (hset_47 _ _) ?_
          exact Ex.rt hq rfl rfl ⟨(sA (sA (sA s5 48 (upd (s5.2.1 48) (((p1 * (163 : Int32)) + ((s5.2.1 49) (p1).toNatClampNeg))).toNatClampNeg p2)) 49 (upd (s5.2.1 49) (p1).toNatClampNeg (((s5.2.1 49) (p1).toNatClampNeg) + (1 : Int32)))) 47 (upd (s5.2.1 47) (r2).toNatClampNeg (if (((s5.2.1 47) (r2).toNatClampNeg) + p3) < (100000 : Int32) then (((s5.2.1 47) (r2).toNatClampNeg) + p3) else (100000 : Int32)))), rfl, rfl, k⟩
    · have k := k.2 c
      exact Ex.rt hq rfl rfl ⟨s5, rfl, rfl, k⟩
/-- java/lang/Integer.bitCount(I)I -/
def w_283 (p0 : Int32) (s : ST) (K : Int32 → ST → Prop) : Prop := K ((((((((p0 - ((((p0).toUInt32 >>> (((1 : Int32)).toUInt32 &&& Int32.toUInt32 31)).toInt32) &&& (1431655765 : Int32))) &&& (858993459 : Int32)) + (((((p0 - ((((p0).toUInt32 >>> (((1 : Int32)).toUInt32 &&& Int32.toUInt32 31)).toInt32) &&& (1431655765 : Int32)))).toUInt32 >>> (((2 : Int32)).toUInt32 &&& Int32.toUInt32 31)).toInt32) &&& (858993459 : Int32))) + ((((((p0 - ((((p0).toUInt32 >>> (((1 : Int32)).toUInt32 &&& Int32.toUInt32 31)).toInt32) &&& (1431655765 : Int32))) &&& (858993459 : Int32)) + (((((p0 - ((((p0).toUInt32 >>> (((1 : Int32)).toUInt32 &&& Int32.toUInt32 31)).toInt32) &&& (1431655765 : Int32)))).toUInt32 >>> (((2 : Int32)).toUInt32 &&& Int32.toUInt32 31)).toInt32) &&& (858993459 : Int32)))).toUInt32 >>> (((4 : Int32)).toUInt32 &&& Int32.toUInt32 31)).toInt32)) &&& (252645135 : Int32)) + ((((((((p0 - ((((p0).toUInt32 >>> (((1 : Int32)).toUInt32 &&& Int32.toUInt32 31)).toInt32) &&& (1431655765 : Int32))) &&& (858993459 : Int32)) + (((((p0 - ((((p0).toUInt32 >>> (((1 : Int32)).toUInt32 &&& Int32.toUInt32 31)).toInt32) &&& (1431655765 : Int32)))).toUInt32 >>> (((2 : Int32)).toUInt32 &&& Int32.toUInt32 31)).toInt32) &&& (858993459 : Int32))) + ((((((p0 - ((((p0).toUInt32 >>> (((1 : Int32)).toUInt32 &&& Int32.toUInt32 31)).toInt32) &&& (1431655765 : Int32))) &&& (858993459 : Int32)) + (((((p0 - ((((p0).toUInt32 >>> (((1 : Int32)).toUInt32 &&& Int32.toUInt32 31)).toInt32) &&& (1431655765 : Int32)))).toUInt32 >>> (((2 : Int32)).toUInt32 &&& Int32.toUInt32 31)).toInt32) &&& (858993459 : Int32)))).toUInt32 >>> (((4 : Int32)).toUInt32 &&& Int32.toUInt32 31)).toInt32)) &&& (252645135 : Int32))).toUInt32 >>> (((8 : Int32)).toUInt32 &&& Int32.toUInt32 31)).toInt32)) + (((((((((p0 - ((((p0).toUInt32 >>> (((1 : Int32)).toUInt32 &&& Int32.toUInt32 31)).toInt32) &&& (1431655765 : Int32))) &&& (858993459 : Int32)) + (((((p0 - ((((p0).toUInt32 >>> (((1 : Int32)).toUInt32 &&& Int32.toUInt32 31)).toInt32) &&& (1431655765 : Int32)))).toUInt32 >>> (((2 : Int32)).toUInt32 &&& Int32.toUInt32 31)).toInt32) &&& (858993459 : Int32))) + ((((((p0 - ((((p0).toUInt32 >>> (((1 : Int32)).toUInt32 &&& Int32.toUInt32 31)).toInt32) &&& (1431655765 : Int32))) &&& (858993459 : Int32)) + (((((p0 - ((((p0).toUInt32 >>> (((1 : Int32)).toUInt32 &&& Int32.toUInt32 31)).toInt32) &&& (1431655765 : Int32)))).toUInt32 >>> (((2 : Int32)).toUInt32 &&& Int32.toUInt32 31)).toInt32) &&& (858993459 : Int32)))).toUInt32 >>> (((4 : Int32)).toUInt32 &&& Int32.toUInt32 31)).toInt32)) &&& (252645135 : Int32)) + ((((((((p0 - ((((p0).toUInt32 >>> (((1 : Int32)).toUInt32 &&& Int32.toUInt32 31)).toInt32) &&& (1431655765 : Int32))) &&& (858993459 : Int32)) + (((((p0 - ((((p0).toUInt32 >>> (((1 : Int32)).toUInt32 &&& Int32.toUInt32 31)).toInt32) &&& (1431655765 : Int32)))).toUInt32 >>> (((2 : Int32)).toUInt32 &&& Int32.toUInt32 31)).toInt32) &&& (858993459 : Int32))) + ((((((p0 - ((((p0).toUInt32 >>> (((1 : Int32)).toUInt32 &&& Int32.toUInt32 31)).toInt32) &&& (1431655765 : Int32))) &&& (858993459 : Int32)) + (((((p0 - ((((p0).toUInt32 >>> (((1 : Int32)).toUInt32 &&& Int32.toUInt32 31)).toInt32) &&& (1431655765 : Int32)))).toUInt32 >>> (((2 : Int32)).toUInt32 &&& Int32.toUInt32 31)).toInt32) &&& (858993459 : Int32)))).toUInt32 >>> (((4 : Int32)).toUInt32 &&& Int32.toUInt32 31)).toInt32)) &&& (252645135 : Int32))).toUInt32 >>> (((8 : Int32)).toUInt32 &&& Int32.toUInt32 31)).toInt32))).toUInt32 >>> (((16 : Int32)).toUInt32 &&& Int32.toUInt32 31)).toInt32)) &&& (63 : Int32)) s
theorem q_283 {d : Nat} {K : Int32 → ST → Prop} (p0 : Int32) (s : ST) (k : w_283 p0 s K) : Rn sc (d + 0) 283 [.int p0] (hpS s) (kI K) := by
  have hq : prog[283]? = some pm283 := rfl
  refine Rn.of (L := [.int p0]) hq rfl rfl ?_
  unfold w_283 at k
  refine Ex.seg hq 41 (j := 41) (L' := [.int (((((((p0 - ((((p0).toUInt32 >>> (((1 : Int32)).toUInt32 &&& Int32.toUInt32 31)).toInt32) &&& (1431655765 : Int32))) &&& (858993459 : Int32)) + (((((p0 - ((((p0).toUInt32 >>> (((1 : Int32)).toUInt32 &&& Int32.toUInt32 31)).toInt32) &&& (1431655765 : Int32)))).toUInt32 >>> (((2 : Int32)).toUInt32 &&& Int32.toUInt32 31)).toInt32) &&& (858993459 : Int32))) + ((((((p0 - ((((p0).toUInt32 >>> (((1 : Int32)).toUInt32 &&& Int32.toUInt32 31)).toInt32) &&& (1431655765 : Int32))) &&& (858993459 : Int32)) + (((((p0 - ((((p0).toUInt32 >>> (((1 : Int32)).toUInt32 &&& Int32.toUInt32 31)).toInt32) &&& (1431655765 : Int32)))).toUInt32 >>> (((2 : Int32)).toUInt32 &&& Int32.toUInt32 31)).toInt32) &&& (858993459 : Int32)))).toUInt32 >>> (((4 : Int32)).toUInt32 &&& Int32.toUInt32 31)).toInt32)) &&& (252645135 : Int32)) + ((((((((p0 - ((((p0).toUInt32 >>> (((1 : Int32)).toUInt32 &&& Int32.toUInt32 31)).toInt32) &&& (1431655765 : Int32))) &&& (858993459 : Int32)) + (((((p0 - ((((p0).toUInt32 >>> (((1 : Int32)).toUInt32 &&& Int32.toUInt32 31)).toInt32) &&& (1431655765 : Int32)))).toUInt32 >>> (((2 : Int32)).toUInt32 &&& Int32.toUInt32 31)).toInt32) &&& (858993459 : Int32))) + ((((((p0 - ((((p0).toUInt32 >>> (((1 : Int32)).toUInt32 &&& Int32.toUInt32 31)).toInt32) &&& (1431655765 : Int32))) &&& (858993459 : Int32)) + (((((p0 - ((((p0).toUInt32 >>> (((1 : Int32)).toUInt32 &&& Int32.toUInt32 31)).toInt32) &&& (1431655765 : Int32)))).toUInt32 >>> (((2 : Int32)).toUInt32 &&& Int32.toUInt32 31)).toInt32) &&& (858993459 : Int32)))).toUInt32 >>> (((4 : Int32)).toUInt32 &&& Int32.toUInt32 31)).toInt32)) &&& (252645135 : Int32))).toUInt32 >>> (((8 : Int32)).toUInt32 &&& Int32.toUInt32 31)).toInt32)) + (((((((((p0 - ((((p0).toUInt32 >>> (((1 : Int32)).toUInt32 &&& Int32.toUInt32 31)).toInt32) &&& (1431655765 : Int32))) &&& (858993459 : Int32)) + (((((p0 - ((((p0).toUInt32 >>> (((1 : Int32)).toUInt32 &&& Int32.toUInt32 31)).toInt32) &&& (1431655765 : Int32)))).toUInt32 >>> (((2 : Int32)).toUInt32 &&& Int32.toUInt32 31)).toInt32) &&& (858993459 : Int32))) + ((((((p0 - ((((p0).toUInt32 >>> (((1 : Int32)).toUInt32 &&& Int32.toUInt32 31)).toInt32) &&& (1431655765 : Int32))) &&& (858993459 : Int32)) + (((((p0 - ((((p0).toUInt32 >>> (((1 : Int32)).toUInt32 &&& Int32.toUInt32 31)).toInt32) &&& (1431655765 : Int32)))).toUInt32 >>> (((2 : Int32)).toUInt32 &&& Int32.toUInt32 31)).toInt32) &&& (858993459 : Int32)))).toUInt32 >>> (((4 : Int32)).toUInt32 &&& Int32.toUInt32 31)).toInt32)) &&& (252645135 : Int32)) + ((((((((p0 - ((((p0).toUInt32 >>> (((1 : Int32)).toUInt32 &&& Int32.toUInt32 31)).toInt32) &&& (1431655765 : Int32))) &&& (858993459 : Int32)) + (((((p0 - ((((p0).toUInt32 >>> (((1 : Int32)).toUInt32 &&& Int32.toUInt32 31)).toInt32) &&& (1431655765 : Int32)))).toUInt32 >>> (((2 : Int32)).toUInt32 &&& Int32.toUInt32 31)).toInt32) &&& (858993459 : Int32))) + ((((((p0 - ((((p0).toUInt32 >>> (((1 : Int32)).toUInt32 &&& Int32.toUInt32 31)).toInt32) &&& (1431655765 : Int32))) &&& (858993459 : Int32)) + (((((p0 - ((((p0).toUInt32 >>> (((1 : Int32)).toUInt32 &&& Int32.toUInt32 31)).toInt32) &&& (1431655765 : Int32)))).toUInt32 >>> (((2 : Int32)).toUInt32 &&& Int32.toUInt32 31)).toInt32) &&& (858993459 : Int32)))).toUInt32 >>> (((4 : Int32)).toUInt32 &&& Int32.toUInt32 31)).toInt32)) &&& (252645135 : Int32))).toUInt32 >>> (((8 : Int32)).toUInt32 &&& Int32.toUInt32 31)).toInt32))).toUInt32 >>> (((16 : Int32)).toUInt32 &&& Int32.toUInt32 31)).toInt32))]) (S' := [.int ((((((((p0 - ((((p0).toUInt32 >>> (((1 : Int32)).toUInt32 &&& Int32.toUInt32 31)).toInt32) &&& (1431655765 : Int32))) &&& (858993459 : Int32)) + (((((p0 - ((((p0).toUInt32 >>> (((1 : Int32)).toUInt32 &&& Int32.toUInt32 31)).toInt32) &&& (1431655765 : Int32)))).toUInt32 >>> (((2 : Int32)).toUInt32 &&& Int32.toUInt32 31)).toInt32) &&& (858993459 : Int32))) + ((((((p0 - ((((p0).toUInt32 >>> (((1 : Int32)).toUInt32 &&& Int32.toUInt32 31)).toInt32) &&& (1431655765 : Int32))) &&& (858993459 : Int32)) + (((((p0 - ((((p0).toUInt32 >>> (((1 : Int32)).toUInt32 &&& Int32.toUInt32 31)).toInt32) &&& (1431655765 : Int32)))).toUInt32 >>> (((2 : Int32)).toUInt32 &&& Int32.toUInt32 31)).toInt32) &&& (858993459 : Int32)))).toUInt32 >>> (((4 : Int32)).toUInt32 &&& Int32.toUInt32 31)).toInt32)) &&& (252645135 : Int32)) + ((((((((p0 - ((((p0).toUInt32 >>> (((1 : Int32)).toUInt32 &&& Int32.toUInt32 31)).toInt32) &&& (1431655765 : Int32))) &&& (858993459 : Int32)) + (((((p0 - ((((p0).toUInt32 >>> (((1 : Int32)).toUInt32 &&& Int32.toUInt32 31)).toInt32) &&& (1431655765 : Int32)))).toUInt32 >>> (((2 : Int32)).toUInt32 &&& Int32.toUInt32 31)).toInt32) &&& (858993459 : Int32))) + ((((((p0 - ((((p0).toUInt32 >>> (((1 : Int32)).toUInt32 &&& Int32.toUInt32 31)).toInt32) &&& (1431655765 : Int32))) &&& (858993459 : Int32)) + (((((p0 - ((((p0).toUInt32 >>> (((1 : Int32)).toUInt32 &&& Int32.toUInt32 31)).toInt32) &&& (1431655765 : Int32)))).toUInt32 >>> (((2 : Int32)).toUInt32 &&& Int32.toUInt32 31)).toInt32) &&& (858993459 : Int32)))).toUInt32 >>> (((4 : Int32)).toUInt32 &&& Int32.toUInt32 31)).toInt32)) &&& (252645135 : Int32))).toUInt32 >>> (((8 : Int32)).toUInt32 &&& Int32.toUInt32 31)).toInt32)) + (((((((((p0 - ((((p0).toUInt32 >>> (((1 : Int32)).toUInt32 &&& Int32.toUInt32 31)).toInt32) &&& (1431655765 : Int32))) &&& (858993459 : Int32)) + (((((p0 - ((((p0).toUInt32 >>> (((1 : Int32)).toUInt32 &&& Int32.toUInt32 31)).toInt32) &&& (1431655765 : Int32)))).toUInt32 >>> (((2 : Int32)).toUInt32 &&& Int32.toUInt32 31)).toInt32) &&& (858993459 : Int32))) + ((((((p0 - ((((p0).toUInt32 >>> (((1 : Int32)).toUInt32 &&& Int32.toUInt32 31)).toInt32) &&& (1431655765 : Int32))) &&& (858993459 : Int32)) + (((((p0 - ((((p0).toUInt32 >>> (((1 : Int32)).toUInt32 &&& Int32.toUInt32 31)).toInt32) &&& (1431655765 : Int32)))).toUInt32 >>> (((2 : Int32)).toUInt32 &&& Int32.toUInt32 31)).toInt32) &&& (858993459 : Int32)))).toUInt32 >>> (((4 : Int32)).toUInt32 &&& Int32.toUInt32 31)).toInt32)) &&& (252645135 : Int32)) + ((((((((p0 - ((((p0).toUInt32 >>> (((1 : Int32)).toUInt32 &&& Int32.toUInt32 31)).toInt32) &&& (1431655765 : Int32))) &&& (858993459 : Int32)) + (((((p0 - ((((p0).toUInt32 >>> (((1 : Int32)).toUInt32 &&& Int32.toUInt32 31)).toInt32) &&& (1431655765 : Int32)))).toUInt32 >>> (((2 : Int32)).toUInt32 &&& Int32.toUInt32 31)).toInt32) &&& (858993459 : Int32))) + ((((((p0 - ((((p0).toUInt32 >>> (((1 : Int32)).toUInt32 &&& Int32.toUInt32 31)).toInt32) &&& (1431655765 : Int32))) &&& (858993459 : Int32)) + (((((p0 - ((((p0).toUInt32 >>> (((1 : Int32)).toUInt32 &&& Int32.toUInt32 31)).toInt32) &&& (1431655765 : Int32)))).toUInt32 >>> (((2 : Int32)).toUInt32 &&& Int32.toUInt32 31)).toInt32) &&& (858993459 : Int32)))).toUInt32 >>> (((4 : Int32)).toUInt32 &&& Int32.toUInt32 31)).toInt32)) &&& (252645135 : Int32))).toUInt32 >>> (((8 : Int32)).toUInt32 &&& Int32.toUInt32 31)).toInt32))).toUInt32 >>> (((16 : Int32)).toUInt32 &&& Int32.toUInt32 31)).toInt32)) &&& (63 : Int32))]) (h' := hpS s) rfl ?_
  exact Ex.rt hq rfl rfl ⟨((((((((p0 - ((((p0).toUInt32 >>> (((1 : Int32)).toUInt32 &&& Int32.toUInt32 31)).toInt32) &&& (1431655765 : Int32))) &&& (858993459 : Int32)) + (((((p0 - ((((p0).toUInt32 >>> (((1 : Int32)).toUInt32 &&& Int32.toUInt32 31)).toInt32) &&& (1431655765 : Int32)))).toUInt32 >>> (((2 : Int32)).toUInt32 &&& Int32.toUInt32 31)).toInt32) &&& (858993459 : Int32))) + ((((((p0 - ((((p0).toUInt32 >>> (((1 : Int32)).toUInt32 &&& Int32.toUInt32 31)).toInt32) &&& (1431655765 : Int32))) &&& (858993459 : Int32)) + (((((p0 - ((((p0).toUInt32 >>> (((1 : Int32)).toUInt32 &&& Int32.toUInt32 31)).toInt32) &&& (1431655765 : Int32)))).toUInt32 >>> (((2 : Int32)).toUInt32 &&& Int32.toUInt32 31)).toInt32) &&& (858993459 : Int32)))).toUInt32 >>> (((4 : Int32)).toUInt32 &&& Int32.toUInt32 31)).toInt32)) &&& (252645135 : Int32)) + ((((((((p0 - ((((p0).toUInt32 >>> (((1 : Int32)).toUInt32 &&& Int32.toUInt32 31)).toInt32) &&& (1431655765 : Int32))) &&& (858993459 : Int32)) + (((((p0 - ((((p0).toUInt32 >>> (((1 : Int32)).toUInt32 &&& Int32.toUInt32 31)).toInt32) &&& (1431655765 : Int32)))).toUInt32 >>> (((2 : Int32)).toUInt32 &&& Int32.toUInt32 31)).toInt32) &&& (858993459 : Int32))) + ((((((p0 - ((((p0).toUInt32 >>> (((1 : Int32)).toUInt32 &&& Int32.toUInt32 31)).toInt32) &&& (1431655765 : Int32))) &&& (858993459 : Int32)) + (((((p0 - ((((p0).toUInt32 >>> (((1 : Int32)).toUInt32 &&& Int32.toUInt32 31)).toInt32) &&& (1431655765 : Int32)))).toUInt32 >>> (((2 : Int32)).toUInt32 &&& Int32.toUInt32 31)).toInt32) &&& (858993459 : Int32)))).toUInt32 >>> (((4 : Int32)).toUInt32 &&& Int32.toUInt32 31)).toInt32)) &&& (252645135 : Int32))).toUInt32 >>> (((8 : Int32)).toUInt32 &&& Int32.toUInt32 31)).toInt32)) + (((((((((p0 - ((((p0).toUInt32 >>> (((1 : Int32)).toUInt32 &&& Int32.toUInt32 31)).toInt32) &&& (1431655765 : Int32))) &&& (858993459 : Int32)) + (((((p0 - ((((p0).toUInt32 >>> (((1 : Int32)).toUInt32 &&& Int32.toUInt32 31)).toInt32) &&& (1431655765 : Int32)))).toUInt32 >>> (((2 : Int32)).toUInt32 &&& Int32.toUInt32 31)).toInt32) &&& (858993459 : Int32))) + ((((((p0 - ((((p0).toUInt32 >>> (((1 : Int32)).toUInt32 &&& Int32.toUInt32 31)).toInt32) &&& (1431655765 : Int32))) &&& (858993459 : Int32)) + (((((p0 - ((((p0).toUInt32 >>> (((1 : Int32)).toUInt32 &&& Int32.toUInt32 31)).toInt32) &&& (1431655765 : Int32)))).toUInt32 >>> (((2 : Int32)).toUInt32 &&& Int32.toUInt32 31)).toInt32) &&& (858993459 : Int32)))).toUInt32 >>> (((4 : Int32)).toUInt32 &&& Int32.toUInt32 31)).toInt32)) &&& (252645135 : Int32)) + ((((((((p0 - ((((p0).toUInt32 >>> (((1 : Int32)).toUInt32 &&& Int32.toUInt32 31)).toInt32) &&& (1431655765 : Int32))) &&& (858993459 : Int32)) + (((((p0 - ((((p0).toUInt32 >>> (((1 : Int32)).toUInt32 &&& Int32.toUInt32 31)).toInt32) &&& (1431655765 : Int32)))).toUInt32 >>> (((2 : Int32)).toUInt32 &&& Int32.toUInt32 31)).toInt32) &&& (858993459 : Int32))) + ((((((p0 - ((((p0).toUInt32 >>> (((1 : Int32)).toUInt32 &&& Int32.toUInt32 31)).toInt32) &&& (1431655765 : Int32))) &&& (858993459 : Int32)) + (((((p0 - ((((p0).toUInt32 >>> (((1 : Int32)).toUInt32 &&& Int32.toUInt32 31)).toInt32) &&& (1431655765 : Int32)))).toUInt32 >>> (((2 : Int32)).toUInt32 &&& Int32.toUInt32 31)).toInt32) &&& (858993459 : Int32)))).toUInt32 >>> (((4 : Int32)).toUInt32 &&& Int32.toUInt32 31)).toInt32)) &&& (252645135 : Int32))).toUInt32 >>> (((8 : Int32)).toUInt32 &&& Int32.toUInt32 31)).toInt32))).toUInt32 >>> (((16 : Int32)).toUInt32 &&& Int32.toUInt32 31)).toInt32)) &&& (63 : Int32)), s, rfl, rfl, k⟩
/-- RowAuditor$Rounder.waysBy(II)I -/
def w_103 (p1 : Int32) (p2 : Int32) (s : ST) (K : Int32 → ST → Prop) : Prop := w_104 p1 p2 s (fun r2 s1 => w_181 r2 (0 : Int32) ((Int32.ofNat 2304) - (1 : Int32)) s1 (fun r4 s3 => ((r4 = 0 → K (0 : Int32) s3) ∧ (¬ (r4 = 0) → (pin r2 2304 = true ∧ K ((s3.2.1 47) (r2).toNatClampNeg) s3)))))
theorem q_103 {d : Nat} {K : Int32 → ST → Prop} (p1 : Int32) (p2 : Int32) (s : ST) (k : w_103 p1 p2 s K) : Rn sc (d + 1) 103 [.ref 46, .int p1, .int p2] (hpS s) (kI K) := by
  have hq : prog[103]? = some pm103 := rfl
  refine Rn.of (L := [.ref 46, .int p1, .int p2, pu]) hq rfl rfl ?_
  unfold w_103 at k
  refine Ex.seg hq 2 (j := 2) (L' := [.ref 46, .int p1, .int p2, pu]) (S' := [.int p2, .int p1]) (h' := hpS s) rfl ?_
  refine Ex.cl hq rfl rfl ?_
  refine Rn.mono (q_104 (d := d + 0) p1 p2 s k) ?_
  rintro _ _ ⟨r2, s1, rfl, rfl, k⟩
  show Ex sc (d + 1) 103 3 [.ref 46, .int p1, .int p2, pu] [.int r2] (hpS s1) _
  refine Ex.seg hq 8 (j := 11) (L' := [.ref 46, .int p1, .int p2, .int r2]) (S' := [.int ((Int32.ofNat 2304) - (1 : Int32)), .int (0 : Int32), .int r2]) (h' := hpS s1) rfl ?_
  refine Ex.cl hq rfl rfl ?_
  refine Rn.mono (q_181 (d := d + 0) r2 (0 : Int32) ((Int32.ofNat 2304) - (1 : Int32)) s1 k) ?_
  rintro _ _ ⟨r4, s3, rfl, hzr4, rfl, k⟩
  show Ex sc (d + 1) 103 12 [.ref 46, .int p1, .int p2, .int r2] [.int r4] (hpS s3) _
  refine Ex.i1 hq rfl (fun c => ?_) (fun c => ?_)
  · have k := k.1 c
    refine Ex.seg hq 1 (j := 19) (L' := [.ref 46, .int p1, .int p2, .int r2]) (S' := [.int (0 : Int32)]) (h' := hpS s3) rfl ?_
    exact Ex.rt hq rfl rfl ⟨(0 : Int32), s3, rfl, rfl, k⟩
  · have k := k.2 c
    refine Ex.seg hq 3 (j := 16) (L' := [.ref 46, .int p1, .int p2, .int r2]) (S' := [.int r2, .ref 47]) (h' := hpS s3) rfl ?_
    obtain ⟨hin, k⟩ := k
    refine Ex.ial hq rfl rfl hin ?_
    refine Ex.seg hq 1 (j := 19) (L' := [.ref 46, .int p1, .int p2, .int r2]) (S' := [.int ((s3.2.1 47) (r2).toNatClampNeg)]) (h' := hpS s3) rfl ?_
    exact Ex.rt hq rfl rfl ⟨((s3.2.1 47) (r2).toNatClampNeg), s3, rfl, rfl, k⟩
end WP
