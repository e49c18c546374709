/-! ===== weakest preconditions, printed by wip/whole/genwp.py ===== -/
section WP
variable {sc : Nat × (Nat → Int32)}
def w_254_L2 : Nat → Int32 → Int32 → ST → (ST → Prop) → (Int32 → ST → Prop) → (Int32 → ST → Prop) → Prop
  | 0, _, _, _, _, _, _ => False
  | n + 1, x1, x2, s, X29, X14, K => ((x1 ≤ x2 → X29  s) ∧ (¬ (x1 ≤ x2) → (pin x2 6 = true ∧ (pin x2 4 = true ∧ ((((s.2.1 103) (x2).toNatClampNeg) = ((s.2.1 106) (x2).toNatClampNeg) → w_254_L2 n x1 (x2 + (1 : Int32)) s X29 X14 K) ∧ (¬ (((s.2.1 103) (x2).toNatClampNeg) = ((s.2.1 106) (x2).toNatClampNeg)) → X14 x2 s))))))
theorem q_254_L2 {d : Nat} {X29 : ST → Prop} {X14 : Int32 → ST → Prop} {K : Int32 → ST → Prop} : ∀ (n : Nat) (x1 : Int32) (x2 : Int32) (s : ST), w_254_L2 n x1 x2 s X29 X14 K → (∀ (s : ST), X29  s → Ex sc (d + 0) 254 29 [pu, pu, pu] [] (hpS s) (kZ K)) → (∀ (y2 : Int32) (s : ST), X14 y2 s → Ex sc (d + 0) 254 14 [.ref 55, pu, .int y2] [] (hpS s) (kZ K)) → Ex sc (d + 0) 254 2 [.ref 55, .int x1, .int x2] [] (hpS s) (kZ K) := by
  have hq : prog[254]? = some pm254 := rfl
  intro n
  induction n with
  | zero =>
    intro x1 x2 s k
    exact k.elim
  | succ n ih =>
    intro x1 x2 s k hX29 hX14
    rw [w_254_L2] at k
    refine Ex.seg hq 2 (j := 4) (L' := [.ref 55, .int x1, .int x2]) (S' := [.int x1, .int x2]) (h' := hpS s) rfl ?_
    refine Ex.i2 hq rfl (fun c => ?_) (fun c => ?_)
    · have k := k.1 c
      refine Ex.fg (L := [pu, pu, pu]) ⟨Or.inr ⟨rfl, rfl⟩, ⟨Or.inr ⟨rfl, rfl⟩, ⟨Or.inr ⟨rfl, rfl⟩, trivial⟩⟩⟩ ?_
      exact hX29  s k
    · have k := k.2 c
      refine Ex.seg hq 3 (j := 8) (L' := [.ref 55, .int x1, .int x2]) (S' := [.int x2, .ref 103]) (h' := hpS s) rfl ?_
      obtain ⟨hin, k⟩ := k
      refine Ex.ial hq rfl rfl hin ?_
      refine Ex.seg hq 3 (j := 12) (L' := [.ref 55, .int x1, .int x2]) (S' := [.int x2, .ref 106, .int ((s.2.1 103) (x2).toNatClampNeg)]) (h' := hpS s) rfl ?_
      obtain ⟨hin, k⟩ := k
      refine Ex.ial hq rfl rfl hin ?_
      refine Ex.i2 hq rfl (fun c => ?_) (fun c => ?_)
      · have k := k.1 c
        refine Ex.seg hq 2 (j := 2) (L' := [.ref 55, .int x1, .int (x2 + (1 : Int32))]) (S' := []) (h' := hpS s) rfl ?_
        exact ih x1 (x2 + (1 : Int32)) s k hX29 hX14
      · have k := k.2 c
        refine Ex.fg (L := [.ref 55, pu, .int x2]) ⟨Or.inl rfl, ⟨Or.inr ⟨rfl, rfl⟩, ⟨Or.inl rfl, trivial⟩⟩⟩ ?_
        exact hX14 x2 s k
/-- RowAuditorModel.isLess(I)Z -/
def w_254 (p1 : Int32) (s : ST) (K : Int32 → ST → Prop) : Prop := (∃ m, w_254_L2 m p1 (0 : Int32) s (fun s1 => K (0 : Int32) s1) (fun y2 s2 => (pin y2 6 = true ∧ (pin y2 4 = true ∧ ((((s2.2.1 106) (y2).toNatClampNeg) ≤ ((s2.2.1 103) (y2).toNatClampNeg) → K (0 : Int32) s2) ∧ (¬ (((s2.2.1 106) (y2).toNatClampNeg) ≤ ((s2.2.1 103) (y2).toNatClampNeg)) → K (1 : Int32) s2))))) K)
theorem q_254 {d : Nat} {K : Int32 → ST → Prop} (p1 : Int32) (s : ST) (k : w_254 p1 s K) : Rn sc (d + 0) 254 [.ref 55, .int p1] (hpS s) (kZ K) := by
  have hq : prog[254]? = some pm254 := rfl
  refine Rn.of (L := [.ref 55, .int p1, pu]) hq rfl rfl ?_
  unfold w_254 at k
  refine Ex.seg hq 2 (j := 2) (L' := [.ref 55, .int p1, .int (0 : Int32)]) (S' := []) (h' := hpS s) rfl ?_
  obtain ⟨m, k⟩ := k
  refine q_254_L2 (d := d) m p1 (0 : Int32) s k ?_ ?_
  · intro s1 k
    refine Ex.seg hq 1 (j := 30) (L' := [pu, pu, pu]) (S' := [.int (0 : Int32)]) (h' := hpS s1) rfl ?_
    exact Ex.zr hq rfl rfl (Or.inl rfl) ⟨(0 : Int32), s1, rfl, (Or.inl rfl), rfl, k⟩
  · intro y2 s2 k
    refine Ex.seg hq 3 (j := 17) (L' := [.ref 55, pu, .int y2]) (S' := [.int y2, .ref 103]) (h' := hpS s2) rfl ?_
    obtain ⟨hin, k⟩ := k
    refine Ex.ial hq rfl rfl hin ?_
    refine Ex.seg hq 3 (j := 21) (L' := [.ref 55, pu, .int y2]) (S' := [.int y2, .ref 106, .int ((s2.2.1 103) (y2).toNatClampNeg)]) (h' := hpS s2) rfl ?_
    obtain ⟨hin, k⟩ := k
    refine Ex.ial hq rfl rfl hin ?_
    refine Ex.i2 hq rfl (fun c => ?_) (fun c => ?_)
    · have k := k.1 c
      refine Ex.seg hq 1 (j := 26) (L' := [.ref 55, pu, .int y2]) (S' := [.int (0 : Int32)]) (h' := hpS s2) rfl ?_
      exact Ex.zr hq rfl rfl (Or.inl rfl) ⟨(0 : Int32), s2, rfl, (Or.inl rfl), rfl, k⟩
    · have k := k.2 c
      refine Ex.seg hq 2 (j := 26) (L' := [.ref 55, pu, .int y2]) (S' := [.int (1 : Int32)]) (h' := hpS s2) rfl ?_
      exact Ex.zr hq rfl rfl (Or.inr rfl) ⟨(1 : Int32), s2, rfl, (Or.inr rfl), rfl, k⟩
def w_255_L25 : Nat → Int32 → Int32 → Int32 → Int32 → Int32 → Int32 → Int32 → ST → (Int32 → Int32 → Int32 → Int32 → Int32 → Int32 → ST → Prop) → (Int32 → ST → Prop) → Prop
  | 0, _, _, _, _, _, _, _, _, _, _ => False
  | n + 1, x1, x2, x3, x4, x5, x6, x7, s, X47, K => ((x5 ≤ x7 → X47 x1 x2 x3 x4 x5 x6 s) ∧ (¬ (x5 ≤ x7) → w_232 (((10 : Int32) * ((20 : Int32) + x1)) + x7) s (fun r6 s5 => (pin (((4 : Int32) * x6) + x7) 600 = true ∧ w_255_L25 n x1 x2 x3 x4 x5 x6 (x7 + (1 : Int32)) (sA s5 105 (upd (s5.2.1 105) ((((4 : Int32) * x6) + x7)).toNatClampNeg (vp_nar .boolean r6))) X47 K))))
theorem q_255_L25 {d : Nat} {X47 : Int32 → Int32 → Int32 → Int32 → Int32 → Int32 → ST → Prop} {K : Int32 → ST → Prop} : ∀ (n : Nat) (x1 : Int32) (x2 : Int32) (x3 : Int32) (x4 : Int32) (x5 : Int32) (x6 : Int32) (x7 : Int32) (s : ST), w_255_L25 n x1 x2 x3 x4 x5 x6 x7 s X47 K → (∀ (y1 : Int32) (y2 : Int32) (y3 : Int32) (y4 : Int32) (y5 : Int32) (y6 : Int32) (s : ST), X47 y1 y2 y3 y4 y5 y6 s → Ex sc (d + 2) 255 47 [.ref 55, .int y1, .int y2, .int y3, .int y4, .int y5, .int y6, pu, pu, pu, pu, pu] [] (hpS s) (kI K)) → Ex sc (d + 2) 255 25 [.ref 55, .int x1, .int x2, .int x3, .int x4, .int x5, .int x6, .int x7, pu, pu, pu, pu] [] (hpS s) (kI K) := by
  have hq : prog[255]? = some pm255 := rfl
  intro n
  induction n with
  | zero =>
    intro x1 x2 x3 x4 x5 x6 x7 s k
    exact k.elim
  | succ n ih =>
    intro x1 x2 x3 x4 x5 x6 x7 s k hX47
    rw [w_255_L25] at k
    refine Ex.seg hq 2 (j := 27) (L' := [.ref 55, .int x1, .int x2, .int x3, .int x4, .int x5, .int x6, .int x7, pu, pu, pu, pu]) (S' := [.int x5, .int x7]) (h' := hpS s) rfl ?_
    refine Ex.i2 hq rfl (fun c => ?_) (fun c => ?_)
    · have k := k.1 c
      refine Ex.fg (L := [.ref 55, .int x1, .int x2, .int x3, .int x4, .int x5, .int x6, pu, pu, pu, pu, pu]) ⟨Or.inl rfl, ⟨Or.inl rfl, ⟨Or.inl rfl, ⟨Or.inl rfl, ⟨Or.inl rfl, ⟨Or.inl rfl, ⟨Or.inl rfl, ⟨Or.inr ⟨rfl, rfl⟩, ⟨Or.inl rfl, ⟨Or.inl rfl, ⟨Or.inl rfl, ⟨Or.inl rfl, trivial⟩⟩⟩⟩⟩⟩⟩⟩⟩⟩⟩⟩ ?_
      exact hX47 x1 x2 x3 x4 x5 x6 s k
    · have k := k.2 c
      refine Ex.seg hq 15 (j := 43) (L' := [.ref 55, .int x1, .int x2, .int x3, .int x4, .int x5, .int x6, .int x7, pu, pu, pu, pu]) (S' := [.int (((10 : Int32) * ((20 : Int32) + x1)) + x7), .ref 55, .int (((4 : Int32) * x6) + x7), .ref 105]) (h' := hpS s) rfl ?_
      refine Ex.cl hq rfl rfl ?_
      refine Rn.mono (q_232 (d := d + 0) (((10 : Int32) * ((20 : Int32) + x1)) + x7) s k) ?_
      rintro _ _ ⟨r6, s5, rfl, hzr6, rfl, k⟩
      show Ex sc (d + 2) 255 44 [.ref 55, .int x1, .int x2, .int x3, .int x4, .int x5, .int x6, .int x7, pu, pu, pu, pu] [.int r6, .int (((4 : Int32) * x6) + x7), .ref 105] (hpS s5) _
      obtain ⟨hin, k⟩ := k
      refine Ex.zas hq rfl rfl hin (h' := hpS (sA s5 105 (upd (s5.2.1 105) ((((4 : Int32) * x6) + x7)).toNatClampNeg (vp_nar .boolean r6)))) (hset_105 _ _) ?_
      refine Ex.seg hq 2 (j := 25) (L' := [.ref 55, .int x1, .int x2, .int x3, .int x4, .int x5, .int x6, .int (x7 + (1 : Int32)), pu, pu, pu, pu]) (S' := []) (h' := hpS (sA s5 105 (upd (s5.2.1 105) ((((4 : Int32) * x6) + x7)).toNatClampNeg (vp_nar .boolean r6)))) rfl ?_
      exact ih x1 x2 x3 x4 x5 x6 (x7 + (1 : Int32)) (sA s5 105 (upd (s5.2.1 105) ((((4 : Int32) * x6) + x7)).toNatClampNeg (vp_nar .boolean r6))) k hX47
def w_255_L13 : Nat → Int32 → Int32 → Int32 → Int32 → Int32 → Int32 → ST → (Int32 → Int32 → Int32 → Int32 → Int32 → ST → Prop) → (Int32 → ST → Prop) → Prop
  | 0, _, _, _, _, _, _, _, _, _ => False
  | n + 1, x1, x2, x3, x4, x5, x6, s, X49, K => (((s.1 5520) ≤ x6 → X49 x1 x2 x3 x4 x5 s) ∧ (¬ ((s.1 5520) ≤ x6) → (pin x6 150 = true ∧ w_230 ((s.2.1 72) (x6).toNatClampNeg) s (fun s3 => (∃ m, w_255_L25 m x1 x2 x3 x4 x5 x6 (0 : Int32) s3 (fun y1 y2 y3 y4 y5 y6 s5 => w_255_L13 n y1 y2 y3 y4 y5 (y6 + (1 : Int32)) s5 X49 K) K)))))
theorem q_255_L13 {d : Nat} {X49 : Int32 → Int32 → Int32 → Int32 → Int32 → ST → Prop} {K : Int32 → ST → Prop} : ∀ (n : Nat) (x1 : Int32) (x2 : Int32) (x3 : Int32) (x4 : Int32) (x5 : Int32) (x6 : Int32) (s : ST), w_255_L13 n x1 x2 x3 x4 x5 x6 s X49 K → (∀ (y1 : Int32) (y2 : Int32) (y3 : Int32) (y4 : Int32) (y5 : Int32) (s : ST), X49 y1 y2 y3 y4 y5 s → Ex sc (d + 2) 255 49 [.ref 55, .int y1, .int y2, .int y3, .int y4, .int y5, pu, pu, pu, pu, pu, pu] [] (hpS s) (kI K)) → Ex sc (d + 2) 255 13 [.ref 55, .int x1, .int x2, .int x3, .int x4, .int x5, .int x6, pu, pu, pu, pu, pu] [] (hpS s) (kI K) := by
  have hq : prog[255]? = some pm255 := rfl
  intro n
  induction n with
  | zero =>
    intro x1 x2 x3 x4 x5 x6 s k
    exact k.elim
  | succ n ih =>
    intro x1 x2 x3 x4 x5 x6 s k hX49
    rw [w_255_L13] at k
    refine Ex.seg hq 3 (j := 16) (L' := [.ref 55, .int x1, .int x2, .int x3, .int x4, .int x5, .int x6, pu, pu, pu, pu, pu]) (S' := [.int (s.1 5520), .int x6]) (h' := hpS s) rfl ?_
    refine Ex.i2 hq rfl (fun c => ?_) (fun c => ?_)
    · have k := k.1 c
      refine Ex.fg (L := [.ref 55, .int x1, .int x2, .int x3, .int x4, .int x5, pu, pu, pu, pu, pu, pu]) ⟨Or.inl rfl, ⟨Or.inl rfl, ⟨Or.inl rfl, ⟨Or.inl rfl, ⟨Or.inl rfl, ⟨Or.inl rfl, ⟨Or.inr ⟨rfl, rfl⟩, ⟨Or.inl rfl, ⟨Or.inl rfl, ⟨Or.inl rfl, ⟨Or.inl rfl, ⟨Or.inl rfl, trivial⟩⟩⟩⟩⟩⟩⟩⟩⟩⟩⟩⟩ ?_
      exact hX49 x1 x2 x3 x4 x5 s k
    · have k := k.2 c
      refine Ex.seg hq 4 (j := 21) (L' := [.ref 55, .int x1, .int x2, .int x3, .int x4, .int x5, .int x6, pu, pu, pu, pu, pu]) (S' := [.int x6, .ref 72, .ref 55]) (h' := hpS s) rfl ?_
      obtain ⟨hin, k⟩ := k
      refine Ex.ial hq rfl rfl hin ?_
      refine Ex.cl hq rfl rfl ?_
      refine Rn.mono (q_230 (d := d + 0) ((s.2.1 72) (x6).toNatClampNeg) s k) ?_
      rintro _ _ ⟨s3, rfl, rfl, k⟩
      show Ex sc (d + 2) 255 23 [.ref 55, .int x1, .int x2, .int x3, .int x4, .int x5, .int x6, pu, pu, pu, pu, pu] [] (hpS s3) _
      refine Ex.seg hq 2 (j := 25) (L' := [.ref 55, .int x1, .int x2, .int x3, .int x4, .int x5, .int x6, .int (0 : Int32), pu, pu, pu, pu]) (S' := []) (h' := hpS s3) rfl ?_
      obtain ⟨m, k⟩ := k
      refine q_255_L25 (d := d) m x1 x2 x3 x4 x5 x6 (0 : Int32) s3 k ?_
      · intro y1 y2 y3 y4 y5 y6 s5 k
        refine Ex.seg hq 2 (j := 13) (L' := [.ref 55, .int y1, .int y2, .int y3, .int y4, .int y5, .int (y6 + (1 : Int32)), pu, pu, pu, pu, pu]) (S' := []) (h' := hpS s5) rfl ?_
        exact ih y1 y2 y3 y4 y5 (y6 + (1 : Int32)) s5 k hX49
def w_255_L149 : Nat → Int32 → Int32 → Int32 → Int32 → Int32 → Int32 → Int32 → Int32 → Int32 → ST → (Int32 → Int32 → Int32 → Int32 → Int32 → Int32 → Int32 → Int32 → ST → Prop) → (Int32 → ST → Prop) → Prop
  | 0, _, _, _, _, _, _, _, _, _, _, _, _ => False
  | n + 1, x1, x2, x3, x4, x5, x6, x7, x10, x11, s, X164, K => ((x5 ≤ x11 → X164 x1 x2 x3 x4 x5 x6 x7 x10 s) ∧ (¬ (x5 ≤ x11) → (pin x11 6 = true ∧ (pin ((s.2.1 103) (x11).toNatClampNeg) 150 = true ∧ w_255_L149 n x1 x2 x3 x4 x5 x6 x7 (x10 + ((s.2.1 73) (((s.2.1 103) (x11).toNatClampNeg)).toNatClampNeg)) (x11 + (1 : Int32)) s X164 K))))
theorem q_255_L149 {d : Nat} {X164 : Int32 → Int32 → Int32 → Int32 → Int32 → Int32 → Int32 → Int32 → ST → Prop} {K : Int32 → ST → Prop} : ∀ (n : Nat) (x1 : Int32) (x2 : Int32) (x3 : Int32) (x4 : Int32) (x5 : Int32) (x6 : Int32) (x7 : Int32) (x10 : Int32) (x11 : Int32) (s : ST), w_255_L149 n x1 x2 x3 x4 x5 x6 x7 x10 x11 s X164 K → (∀ (y1 : Int32) (y2 : Int32) (y3 : Int32) (y4 : Int32) (y5 : Int32) (y6 : Int32) (y7 : Int32) (y10 : Int32) (s : ST), X164 y1 y2 y3 y4 y5 y6 y7 y10 s → Ex sc (d + 2) 255 164 [.ref 55, .int y1, .int y2, .int y3, .int y4, .int y5, .int y6, .int y7, pu, pu, .int y10, pu] [] (hpS s) (kI K)) → Ex sc (d + 2) 255 149 [.ref 55, .int x1, .int x2, .int x3, .int x4, .int x5, .int x6, .int x7, pu, pu, .int x10, .int x11] [] (hpS s) (kI K) := by
  have hq : prog[255]? = some pm255 := rfl
  intro n
  induction n with
  | zero =>
    intro x1 x2 x3 x4 x5 x6 x7 x10 x11 s k
    exact k.elim
  | succ n ih =>
    intro x1 x2 x3 x4 x5 x6 x7 x10 x11 s k hX164
    rw [w_255_L149] at k
    refine Ex.seg hq 2 (j := 151) (L' := [.ref 55, .int x1, .int x2, .int x3, .int x4, .int x5, .int x6, .int x7, pu, pu, .int x10, .int x11]) (S' := [.int x5, .int x11]) (h' := hpS s) rfl ?_
    refine Ex.i2 hq rfl (fun c => ?_) (fun c => ?_)
    · have k := k.1 c
      refine Ex.fg (L := [.ref 55, .int x1, .int x2, .int x3, .int x4, .int x5, .int x6, .int x7, pu, pu, .int x10, pu]) ⟨Or.inl rfl, ⟨Or.inl rfl, ⟨Or.inl rfl, ⟨Or.inl rfl, ⟨Or.inl rfl, ⟨Or.inl rfl, ⟨Or.inl rfl, ⟨Or.inl rfl, ⟨Or.inl rfl, ⟨Or.inl rfl, ⟨Or.inl rfl, ⟨Or.inr ⟨rfl, rfl⟩, trivial⟩⟩⟩⟩⟩⟩⟩⟩⟩⟩⟩⟩ ?_
      exact hX164 x1 x2 x3 x4 x5 x6 x7 x10 s k
    · have k := k.2 c
      refine Ex.seg hq 6 (j := 158) (L' := [.ref 55, .int x1, .int x2, .int x3, .int x4, .int x5, .int x6, .int x7, pu, pu, .int x10, .int x11]) (S' := [.int x11, .ref 103, .ref 73, .int x10]) (h' := hpS s) rfl ?_
      obtain ⟨hin, k⟩ := k
      refine Ex.ial hq rfl rfl hin ?_
      obtain ⟨hin, k⟩ := k
      refine Ex.ial hq rfl rfl hin ?_
      refine Ex.seg hq 4 (j := 149) (L' := [.ref 55, .int x1, .int x2, .int x3, .int x4, .int x5, .int x6, .int x7, pu, pu, .int (x10 + ((s.2.1 73) (((s.2.1 103) (x11).toNatClampNeg)).toNatClampNeg)), .int (x11 + (1 : Int32))]) (S' := []) (h' := hpS s) rfl ?_
      exact ih x1 x2 x3 x4 x5 x6 x7 (x10 + ((s.2.1 73) (((s.2.1 103) (x11).toNatClampNeg)).toNatClampNeg)) (x11 + (1 : Int32)) s k hX164
def w_255_L176 : Nat → Int32 → Int32 → Int32 → Int32 → Int32 → Int32 → Int32 → Int32 → ST → (Int32 → Int32 → Int32 → Int32 → Int32 → Int32 → Int32 → ST → Prop) → (Int32 → ST → Prop) → Prop
  | 0, _, _, _, _, _, _, _, _, _, _, _ => False
  | n + 1, x1, x2, x3, x4, x5, x6, x7, x11, s, X189, K => ((x5 ≤ x11 → X189 x1 x2 x3 x4 x5 x6 x7 s) ∧ (¬ (x5 ≤ x11) → (pin x11 6 = true ∧ (pin x11 4 = true ∧ w_255_L176 n x1 x2 x3 x4 x5 x6 x7 (x11 + (1 : Int32)) (sA s 106 (upd (s.2.1 106) (x11).toNatClampNeg ((s.2.1 103) (x11).toNatClampNeg))) X189 K))))
theorem q_255_L176 {d : Nat} {X189 : Int32 → Int32 → Int32 → Int32 → Int32 → Int32 → Int32 → ST → Prop} {K : Int32 → ST → Prop} : ∀ (n : Nat) (x1 : Int32) (x2 : Int32) (x3 : Int32) (x4 : Int32) (x5 : Int32) (x6 : Int32) (x7 : Int32) (x11 : Int32) (s : ST), w_255_L176 n x1 x2 x3 x4 x5 x6 x7 x11 s X189 K → (∀ (y1 : Int32) (y2 : Int32) (y3 : Int32) (y4 : Int32) (y5 : Int32) (y6 : Int32) (y7 : Int32) (s : ST), X189 y1 y2 y3 y4 y5 y6 y7 s → Ex sc (d + 2) 255 189 [.ref 55, .int y1, .int y2, .int y3, .int y4, .int y5, .int y6, .int y7, pu, pu, pu, pu] [] (hpS s) (kI K)) → Ex sc (d + 2) 255 176 [.ref 55, .int x1, .int x2, .int x3, .int x4, .int x5, .int x6, .int x7, pu, pu, pu, .int x11] [] (hpS s) (kI K) := by
  have hq : prog[255]? = some pm255 := rfl
  intro n
  induction n with
  | zero =>
    intro x1 x2 x3 x4 x5 x6 x7 x11 s k
    exact k.elim
  | succ n ih =>
    intro x1 x2 x3 x4 x5 x6 x7 x11 s k hX189
    rw [w_255_L176] at k
    refine Ex.seg hq 2 (j := 178) (L' := [.ref 55, .int x1, .int x2, .int x3, .int x4, .int x5, .int x6, .int x7, pu, pu, pu, .int x11]) (S' := [.int x5, .int x11]) (h' := hpS s) rfl ?_
    refine Ex.i2 hq rfl (fun c => ?_) (fun c => ?_)
    · have k := k.1 c
      refine Ex.fg (L := [.ref 55, .int x1, .int x2, .int x3, .int x4, .int x5, .int x6, .int x7, pu, pu, pu, pu]) ⟨Or.inl rfl, ⟨Or.inl rfl, ⟨Or.inl rfl, ⟨Or.inl rfl, ⟨Or.inl rfl, ⟨Or.inl rfl, ⟨Or.inl rfl, ⟨Or.inl rfl, ⟨Or.inl rfl, ⟨Or.inl rfl, ⟨Or.inl rfl, ⟨Or.inr ⟨rfl, rfl⟩, trivial⟩⟩⟩⟩⟩⟩⟩⟩⟩⟩⟩⟩ ?_
      exact hX189 x1 x2 x3 x4 x5 x6 x7 s k
    · have k := k.2 c
      refine Ex.seg hq 6 (j := 185) (L' := [.ref 55, .int x1, .int x2, .int x3, .int x4, .int x5, .int x6, .int x7, pu, pu, pu, .int x11]) (S' := [.int x11, .ref 103, .int x11, .ref 106]) (h' := hpS s) rfl ?_
      obtain ⟨hin, k⟩ := k
      refine Ex.ial hq rfl rfl hin ?_
      obtain ⟨hin, k⟩ := k
      refine Ex.ias hq rfl rfl hin (h' := hpS (sA s 106 (upd (s.2.1 106) (x11).toNatClampNeg ((s.2.1 103) (x11).toNatClampNeg)))) (hset_106 _ _) ?_
      refine Ex.seg hq 2 (j := 176) (L' := [.ref 55, .int x1, .int x2, .int x3, .int x4, .int x5, .int x6, .int x7, pu, pu, pu, .int (x11 + (1 : Int32))]) (S' := []) (h' := hpS (sA s 106 (upd (s.2.1 106) (x11).toNatClampNeg ((s.2.1 103) (x11).toNatClampNeg)))) rfl ?_
      exact ih x1 x2 x3 x4 x5 x6 x7 (x11 + (1 : Int32)) (sA s 106 (upd (s.2.1 106) (x11).toNatClampNeg ((s.2.1 103) (x11).toNatClampNeg))) k hX189
def w_255_L58 : Nat → Int32 → Int32 → Int32 → Int32 → Int32 → Int32 → Int32 → ST → (Int32 → ST → Prop) → (Int32 → ST → Prop) → Prop
  | 0, _, _, _, _, _, _, _, _, _, _ => False
  | n + 1, x1, x2, x3, x4, x5, x6, x7, s, X199, K => ((x7 < 0 → X199 x6 s) ∧ (¬ (x7 < 0) → ((¬ x4 = 0 → (pin x7 6 = true ∧ (pin x7 6 = true ∧ ((((s.2.1 104) (x7).toNatClampNeg) < (s.1 5520) → (pin ((s.2.1 104) (x7).toNatClampNeg) 150 = true ∧ (pin (((4 : Int32) * ((s.2.1 104) (x7).toNatClampNeg)) + x7) 600 = true ∧ ((((s.2.1 105) ((((4 : Int32) * ((s.2.1 104) (x7).toNatClampNeg)) + x7)).toNatClampNeg) = 0 → w_255_L58 n x1 x2 x3 x4 x5 x6 x7 (sA s 104 (upd (s.2.1 104) (x7).toNatClampNeg (((s.2.1 104) (x7).toNatClampNeg) + (1 : Int32)))) X199 K) ∧ (¬ (((s.2.1 105) ((((4 : Int32) * ((s.2.1 104) (x7).toNatClampNeg)) + x7)).toNatClampNeg) = 0) → ((x7 ≤ 0 → (pin x7 6 = true ∧ ((x5 ≤ (x7 + (1 : Int32)) → (∃ m, w_255_L149 m x1 x2 x3 x4 x5 x6 x7 (0 : Int32) (0 : Int32) (sA (sA s 104 (upd (s.2.1 104) (x7).toNatClampNeg (((s.2.1 104) (x7).toNatClampNeg) + (1 : Int32)))) 103 (upd (s.2.1 103) (x7).toNatClampNeg ((s.2.1 72) (((s.2.1 104) (x7).toNatClampNeg)).toNatClampNeg))) (fun y1 y2 y3 y4 y5 y6 y7 y10 s7 => ((y3 ≤ y10 → ((y6 = 0 → (∃ m, w_255_L176 m y1 y2 y3 y4 y5 y6 y7 (0 : Int32) s7 (fun y1 y2 y3 y4 y5 y6 y7 s8 => (((100000 : Int32) ≤ y6 → w_255_L58 n y1 y2 y3 y4 y5 y6 y7 s8 X199 K) ∧ (¬ ((100000 : Int32) ≤ y6) → w_255_L58 n y1 y2 y3 y4 y5 (y6 + (1 : Int32)) y7 s8 X199 K))) K)) ∧ (¬ (y6 = 0) → w_254 y5 s7 (fun r10 s9 => ((r10 = 0 → (((100000 : Int32) ≤ y6 → w_255_L58 n y1 y2 y3 y4 y5 y6 y7 s9 X199 K) ∧ (¬ ((100000 : Int32) ≤ y6) → w_255_L58 n y1 y2 y3 y4 y5 (y6 + (1 : Int32)) y7 s9 X199 K))) ∧ (¬ (r10 = 0) → (∃ m, w_255_L176 m y1 y2 y3 y4 y5 y6 y7 (0 : Int32) s9 (fun y1 y2 y3 y4 y5 y6 y7 s11 => (((100000 : Int32) ≤ y6 → w_255_L58 n y1 y2 y3 y4 y5 y6 y7 s11 X199 K) ∧ (¬ ((100000 : Int32) ≤ y6) → w_255_L58 n y1 y2 y3 y4 y5 (y6 + (1 : Int32)) y7 s11 X199 K))) K))))))) ∧ (¬ (y3 ≤ y10) → w_255_L58 n y1 y2 y3 y4 y5 y6 y7 s7 X199 K))) K)) ∧ (¬ (x5 ≤ (x7 + (1 : Int32))) → (pin (x7 + (1 : Int32)) 6 = true ∧ w_255_L58 n x1 x2 x3 x4 x5 x6 (x7 + (1 : Int32)) (sA (sA s 103 (upd (s.2.1 103) (x7).toNatClampNeg ((s.2.1 72) (((s.2.1 104) (x7).toNatClampNeg)).toNatClampNeg))) 104 (upd (upd (s.2.1 104) (x7).toNatClampNeg (((s.2.1 104) (x7).toNatClampNeg) + (1 : Int32))) ((x7 + (1 : Int32))).toNatClampNeg (((s.2.1 104) (x7).toNatClampNeg) + (1 : Int32)))) X199 K))))) ∧ (¬ (x7 ≤ 0) → (pin ((s.2.1 72) (((s.2.1 104) (x7).toNatClampNeg)).toNatClampNeg) 150 = true ∧ (pin (0 : Int32) 6 = true ∧ (pin ((s.2.1 103) ((0 : Int32)).toNatClampNeg) 150 = true ∧ ((x2 < (((s.2.1 60) (((s.2.1 72) (((s.2.1 104) (x7).toNatClampNeg)).toNatClampNeg)).toNatClampNeg) - ((s.2.1 60) (((s.2.1 103) ((0 : Int32)).toNatClampNeg)).toNatClampNeg)) → w_255_L58 n x1 x2 x3 x4 x5 x6 x7 (sA s 104 (upd (s.2.1 104) (x7).toNatClampNeg (((s.2.1 104) (x7).toNatClampNeg) + (1 : Int32)))) X199 K) ∧ (¬ (x2 < (((s.2.1 60) (((s.2.1 72) (((s.2.1 104) (x7).toNatClampNeg)).toNatClampNeg)).toNatClampNeg) - ((s.2.1 60) (((s.2.1 103) ((0 : Int32)).toNatClampNeg)).toNatClampNeg))) → w_253 x1 x7 ((s.2.1 72) (((s.2.1 104) (x7).toNatClampNeg)).toNatClampNeg) (sA s 104 (upd (s.2.1 104) (x7).toNatClampNeg (((s.2.1 104) (x7).toNatClampNeg) + (1 : Int32)))) (fun r13 s12 => ((¬ r13 = 0 → (pin x7 6 = true ∧ ((x5 ≤ (x7 + (1 : Int32)) → (∃ m, w_255_L149 m x1 x2 x3 x4 x5 x6 x7 (0 : Int32) (0 : Int32) (sA s12 103 (upd (s12.2.1 103) (x7).toNatClampNeg ((s.2.1 72) (((s.2.1 104) (x7).toNatClampNeg)).toNatClampNeg))) (fun y1 y2 y3 y4 y5 y6 y7 y10 s14 => ((y3 ≤ y10 → ((y6 = 0 → (∃ m, w_255_L176 m y1 y2 y3 y4 y5 y6 y7 (0 : Int32) s14 (fun y1 y2 y3 y4 y5 y6 y7 s15 => (((100000 : Int32) ≤ y6 → w_255_L58 n y1 y2 y3 y4 y5 y6 y7 s15 X199 K) ∧ (¬ ((100000 : Int32) ≤ y6) → w_255_L58 n y1 y2 y3 y4 y5 (y6 + (1 : Int32)) y7 s15 X199 K))) K)) ∧ (¬ (y6 = 0) → w_254 y5 s14 (fun r17 s16 => ((r17 = 0 → (((100000 : Int32) ≤ y6 → w_255_L58 n y1 y2 y3 y4 y5 y6 y7 s16 X199 K) ∧ (¬ ((100000 : Int32) ≤ y6) → w_255_L58 n y1 y2 y3 y4 y5 (y6 + (1 : Int32)) y7 s16 X199 K))) ∧ (¬ (r17 = 0) → (∃ m, w_255_L176 m y1 y2 y3 y4 y5 y6 y7 (0 : Int32) s16 (fun y1 y2 y3 y4 y5 y6 y7 s18 => (((100000 : Int32) ≤ y6 → w_255_L58 n y1 y2 y3 y4 y5 y6 y7 s18 X199 K) ∧ (¬ ((100000 : Int32) ≤ y6) → w_255_L58 n y1 y2 y3 y4 y5 (y6 + (1 : Int32)) y7 s18 X199 K))) K))))))) ∧ (¬ (y3 ≤ y10) → w_255_L58 n y1 y2 y3 y4 y5 y6 y7 s14 X199 K))) K)) ∧ (¬ (x5 ≤ (x7 + (1 : Int32))) → (pin (x7 + (1 : Int32)) 6 = true ∧ w_255_L58 n x1 x2 x3 x4 x5 x6 (x7 + (1 : Int32)) (sA (sA s12 103 (upd (s12.2.1 103) (x7).toNatClampNeg ((s.2.1 72) (((s.2.1 104) (x7).toNatClampNeg)).toNatClampNeg))) 104 (upd (s12.2.1 104) ((x7 + (1 : Int32))).toNatClampNeg (((s.2.1 104) (x7).toNatClampNeg) + (1 : Int32)))) X199 K))))) ∧ (¬ (¬ r13 = 0) → w_255_L58 n x1 x2 x3 x4 x5 x6 x7 s12 X199 K))))))))))))))) ∧ (¬ (((s.2.1 104) (x7).toNatClampNeg) < (s.1 5520)) → w_255_L58 n x1 x2 x3 x4 x5 x6 (x7 - (1 : Int32)) (sA s 104 (upd (s.2.1 104) (x7).toNatClampNeg (((s.2.1 104) (x7).toNatClampNeg) + (1 : Int32)))) X199 K))))) ∧ (¬ (¬ x4 = 0) → (((100000 : Int32) ≤ x6 → X199 x6 s) ∧ (¬ ((100000 : Int32) ≤ x6) → (pin x7 6 = true ∧ (pin x7 6 = true ∧ ((((s.2.1 104) (x7).toNatClampNeg) < (s.1 5520) → (pin ((s.2.1 104) (x7).toNatClampNeg) 150 = true ∧ (pin (((4 : Int32) * ((s.2.1 104) (x7).toNatClampNeg)) + x7) 600 = true ∧ ((((s.2.1 105) ((((4 : Int32) * ((s.2.1 104) (x7).toNatClampNeg)) + x7)).toNatClampNeg) = 0 → w_255_L58 n x1 x2 x3 x4 x5 x6 x7 (sA s 104 (upd (s.2.1 104) (x7).toNatClampNeg (((s.2.1 104) (x7).toNatClampNeg) + (1 : Int32)))) X199 K) ∧ (¬ (((s.2.1 105) ((((4 : Int32) * ((s.2.1 104) (x7).toNatClampNeg)) + x7)).toNatClampNeg) = 0) → ((x7 ≤ 0 → (pin x7 6 = true ∧ ((x5 ≤ (x7 + (1 : Int32)) → (∃ m, w_255_L149 m x1 x2 x3 x4 x5 x6 x7 (0 : Int32) (0 : Int32) (sA (sA s 104 (upd (s.2.1 104) (x7).toNatClampNeg (((s.2.1 104) (x7).toNatClampNeg) + (1 : Int32)))) 103 (upd (s.2.1 103) (x7).toNatClampNeg ((s.2.1 72) (((s.2.1 104) (x7).toNatClampNeg)).toNatClampNeg))) (fun y1 y2 y3 y4 y5 y6 y7 y10 s19 => ((y3 ≤ y10 → ((y6 = 0 → (∃ m, w_255_L176 m y1 y2 y3 y4 y5 y6 y7 (0 : Int32) s19 (fun y1 y2 y3 y4 y5 y6 y7 s20 => (((100000 : Int32) ≤ y6 → w_255_L58 n y1 y2 y3 y4 y5 y6 y7 s20 X199 K) ∧ (¬ ((100000 : Int32) ≤ y6) → w_255_L58 n y1 y2 y3 y4 y5 (y6 + (1 : Int32)) y7 s20 X199 K))) K)) ∧ (¬ (y6 = 0) → w_254 y5 s19 (fun r22 s21 => ((r22 = 0 → (((100000 : Int32) ≤ y6 → w_255_L58 n y1 y2 y3 y4 y5 y6 y7 s21 X199 K) ∧ (¬ ((100000 : Int32) ≤ y6) → w_255_L58 n y1 y2 y3 y4 y5 (y6 + (1 : Int32)) y7 s21 X199 K))) ∧ (¬ (r22 = 0) → (∃ m, w_255_L176 m y1 y2 y3 y4 y5 y6 y7 (0 : Int32) s21 (fun y1 y2 y3 y4 y5 y6 y7 s23 => (((100000 : Int32) ≤ y6 → w_255_L58 n y1 y2 y3 y4 y5 y6 y7 s23 X199 K) ∧ (¬ ((100000 : Int32) ≤ y6) → w_255_L58 n y1 y2 y3 y4 y5 (y6 + (1 : Int32)) y7 s23 X199 K))) K))))))) ∧ (¬ (y3 ≤ y10) → w_255_L58 n y1 y2 y3 y4 y5 y6 y7 s19 X199 K))) K)) ∧ (¬ (x5 ≤ (x7 + (1 : Int32))) → (pin (x7 + (1 : Int32)) 6 = true ∧ w_255_L58 n x1 x2 x3 x4 x5 x6 (x7 + (1 : Int32)) (sA (sA s 103 (upd (s.2.1 103) (x7).toNatClampNeg ((s.2.1 72) (((s.2.1 104) (x7).toNatClampNeg)).toNatClampNeg))) 104 (upd (upd (s.2.1 104) (x7).toNatClampNeg (((s.2.1 104) (x7).toNatClampNeg) + (1 : Int32))) ((x7 + (1 : Int32))).toNatClampNeg (((s.2.1 104) (x7).toNatClampNeg) + (1 : Int32)))) X199 K))))) ∧ (¬ (x7 ≤ 0) → (pin ((s.2.1 72) (((s.2.1 104) (x7).toNatClampNeg)).toNatClampNeg) 150 = true ∧ (pin (0 : Int32) 6 = true ∧ (pin ((s.2.1 103) ((0 : Int32)).toNatClampNeg) 150 = true ∧ ((x2 < (((s.2.1 60) (((s.2.1 72) (((s.2.1 104) (x7).toNatClampNeg)).toNatClampNeg)).toNatClampNeg) - ((s.2.1 60) (((s.2.1 103) ((0 : Int32)).toNatClampNeg)).toNatClampNeg)) → w_255_L58 n x1 x2 x3 x4 x5 x6 x7 (sA s 104 (upd (s.2.1 104) (x7).toNatClampNeg (((s.2.1 104) (x7).toNatClampNeg) + (1 : Int32)))) X199 K) ∧ (¬ (x2 < (((s.2.1 60) (((s.2.1 72) (((s.2.1 104) (x7).toNatClampNeg)).toNatClampNeg)).toNatClampNeg) - ((s.2.1 60) (((s.2.1 103) ((0 : Int32)).toNatClampNeg)).toNatClampNeg))) → w_253 x1 x7 ((s.2.1 72) (((s.2.1 104) (x7).toNatClampNeg)).toNatClampNeg) (sA s 104 (upd (s.2.1 104) (x7).toNatClampNeg (((s.2.1 104) (x7).toNatClampNeg) + (1 : Int32)))) (fun r25 s24 => ((¬ r25 = 0 → (pin x7 6 = true ∧ ((x5 ≤ (x7 + (1 : Int32)) → (∃ m, w_255_L149 m x1 x2 x3 x4 x5 x6 x7 (0 : Int32) (0 : Int32) (sA s24 103 (upd (s24.2.1 103) (x7).toNatClampNeg ((s.2.1 72) (((s.2.1 104) (x7).toNatClampNeg)).toNatClampNeg))) (fun y1 y2 y3 y4 y5 y6 y7 y10 s26 => ((y3 ≤ y10 → ((y6 = 0 → (∃ m, w_255_L176 m y1 y2 y3 y4 y5 y6 y7 (0 : Int32) s26 (fun y1 y2 y3 y4 y5 y6 y7 s27 => (((100000 : Int32) ≤ y6 → w_255_L58 n y1 y2 y3 y4 y5 y6 y7 s27 X199 K) ∧ (¬ ((100000 : Int32) ≤ y6) → w_255_L58 n y1 y2 y3 y4 y5 (y6 + (1 : Int32)) y7 s27 X199 K))) K)) ∧ (¬ (y6 = 0) → w_254 y5 s26 (fun r29 s28 => ((r29 = 0 → (((100000 : Int32) ≤ y6 → w_255_L58 n y1 y2 y3 y4 y5 y6 y7 s28 X199 K) ∧ (¬ ((100000 : Int32) ≤ y6) → w_255_L58 n y1 y2 y3 y4 y5 (y6 + (1 : Int32)) y7 s28 X199 K))) ∧ (¬ (r29 = 0) → (∃ m, w_255_L176 m y1 y2 y3 y4 y5 y6 y7 (0 : Int32) s28 (fun y1 y2 y3 y4 y5 y6 y7 s30 => (((100000 : Int32) ≤ y6 → w_255_L58 n y1 y2 y3 y4 y5 y6 y7 s30 X199 K) ∧ (¬ ((100000 : Int32) ≤ y6) → w_255_L58 n y1 y2 y3 y4 y5 (y6 + (1 : Int32)) y7 s30 X199 K))) K))))))) ∧ (¬ (y3 ≤ y10) → w_255_L58 n y1 y2 y3 y4 y5 y6 y7 s26 X199 K))) K)) ∧ (¬ (x5 ≤ (x7 + (1 : Int32))) → (pin (x7 + (1 : Int32)) 6 = true ∧ w_255_L58 n x1 x2 x3 x4 x5 x6 (x7 + (1 : Int32)) (sA (sA s24 103 (upd (s24.2.1 103) (x7).toNatClampNeg ((s.2.1 72) (((s.2.1 104) (x7).toNatClampNeg)).toNatClampNeg))) 104 (upd (s24.2.1 104) ((x7 + (1 : Int32))).toNatClampNeg (((s.2.1 104) (x7).toNatClampNeg) + (1 : Int32)))) X199 K))))) ∧ (¬ (¬ r25 = 0) → w_255_L58 n x1 x2 x3 x4 x5 x6 x7 s24 X199 K))))))))))))))) ∧ (¬ (((s.2.1 104) (x7).toNatClampNeg) < (s.1 5520)) → w_255_L58 n x1 x2 x3 x4 x5 x6 (x7 - (1 : Int32)) (sA s 104 (upd (s.2.1 104) (x7).toNatClampNeg (((s.2.1 104) (x7).toNatClampNeg) + (1 : Int32)))) X199 K))))))))))
theorem q_255_L58 {d : Nat} {X199 : Int32 → ST → Prop} {K : Int32 → ST → Prop} : ∀ (n : Nat) (x1 : Int32) (x2 : Int32) (x3 : Int32) (x4 : Int32) (x5 : Int32) (x6 : Int32) (x7 : Int32) (s : ST), w_255_L58 n x1 x2 x3 x4 x5 x6 x7 s X199 K → (∀ (y6 : Int32) (s : ST), X199 y6 s → Ex sc (d + 2) 255 199 [pu, pu, pu, pu, pu, pu, .int y6, pu, pu, pu, pu, pu] [] (hpS s) (kI K)) → Ex sc (d + 2) 255 58 [.ref 55, .int x1, .int x2, .int x3, .int x4, .int x5, .int x6, .int x7, pu, pu, pu, pu] [] (hpS s) (kI K) := by
  have hq : prog[255]? = some pm255 := rfl
  intro n
  induction n with
  | zero =>
    intro x1 x2 x3 x4 x5 x6 x7 s k
    exact k.elim
  | succ n ih =>
    intro x1 x2 x3 x4 x5 x6 x7 s k hX199
    rw [w_255_L58] at k
    refine Ex.seg hq 1 (j := 59) (L' := [.ref 55, .int x1, .int x2, .int x3, .int x4, .int x5, .int x6, .int x7, pu, pu, pu, pu]) (S' := [.int x7]) (h' := hpS s) rfl ?_
    refine Ex.i1 hq rfl (fun c => ?_) (fun c => ?_)
    · have k := k.1 c
      refine Ex.fg (L := [pu, pu, pu, pu, pu, pu, .int x6, pu, pu, pu, pu, pu]) ⟨Or.inr ⟨rfl, rfl⟩, ⟨Or.inr ⟨rfl, rfl⟩, ⟨Or.inr ⟨rfl, rfl⟩, ⟨Or.inr ⟨rfl, rfl⟩, ⟨Or.inr ⟨rfl, rfl⟩, ⟨Or.inr ⟨rfl, rfl⟩, ⟨Or.inl rfl, ⟨Or.inr ⟨rfl, rfl⟩, ⟨Or.inl rfl, ⟨Or.inl rfl, ⟨Or.inl rfl, ⟨Or.inl rfl, trivial⟩⟩⟩⟩⟩⟩⟩⟩⟩⟩⟩⟩ ?_
      exact hX199 x6 s k
    · have k := k.2 c
      refine Ex.seg hq 1 (j := 61) (L' := [.ref 55, .int x1, .int x2, .int x3, .int x4, .int x5, .int x6, .int x7, pu, pu, pu, pu]) (S' := [.int x4]) (h' := hpS s) rfl ?_
      refine Ex.i1 hq rfl (fun c => ?_) (fun c => ?_)
      · have k := k.1 c
        refine Ex.seg hq 3 (j := 68) (L' := [.ref 55, .int x1, .int x2, .int x3, .int x4, .int x5, .int x6, .int x7, pu, pu, pu, pu]) (S' := [.int x7, .ref 104]) (h' := hpS s) rfl ?_
        obtain ⟨hin, k⟩ := k
        refine Ex.ial hq rfl rfl hin ?_
        refine Ex.seg hq 7 (j := 76) (L' := [.ref 55, .int x1, .int x2, .int x3, .int x4, .int x5, .int x6, .int x7, .int ((s.2.1 104) (x7).toNatClampNeg), pu, pu, pu]) (S' := [.int (((s.2.1 104) (x7).toNatClampNeg) + (1 : Int32)), .int x7, .ref 104]) (h' := hpS s) rfl ?_
        obtain ⟨hin, k⟩ := k
        refine Ex.ias hq rfl rfl hin (h' := hpS (sA s 104 (upd (s.2.1 104) (x7).toNatClampNeg (((s.2.1 104) (x7).toNatClampNeg) + (1 : Int32))))) (hset_104 _ _) ?_
        refine Ex.seg hq 3 (j := 80) (L' := [.ref 55, .int x1, .int x2, .int x3, .int x4, .int x5, .int x6, .int x7, .int ((s.2.1 104) (x7).toNatClampNeg), pu, pu, pu]) (S' := [.int (s.1 5520), .int ((s.2.1 104) (x7).toNatClampNeg)]) (h' := hpS (sA s 104 (upd (s.2.1 104) (x7).toNatClampNeg (((s.2.1 104) (x7).toNatClampNeg) + (1 : Int32))))) rfl ?_
        refine Ex.i2 hq rfl (fun c => ?_) (fun c => ?_)
        · have k := k.1 c
          refine Ex.seg hq 3 (j := 89) (L' := [.ref 55, .int x1, .int x2, .int x3, .int x4, .int x5, .int x6, .int x7, .int ((s.2.1 104) (x7).toNatClampNeg), pu, pu, pu]) (S' := [.int ((s.2.1 104) (x7).toNatClampNeg), .ref 72]) (h' := hpS (sA s 104 (upd (s.2.1 104) (x7).toNatClampNeg (((s.2.1 104) (x7).toNatClampNeg) + (1 : Int32))))) rfl ?_
          obtain ⟨hin, k⟩ := k
          refine Ex.ial hq rfl rfl hin ?_
          refine Ex.seg hq 8 (j := 98) (L' := [.ref 55, .int x1, .int x2, .int x3, .int x4, .int x5, .int x6, .int x7, .int ((s.2.1 104) (x7).toNatClampNeg), .int ((s.2.1 72) (((s.2.1 104) (x7).toNatClampNeg)).toNatClampNeg), pu, pu]) (S' := [.int (((4 : Int32) * ((s.2.1 104) (x7).toNatClampNeg)) + x7), .ref 105]) (h' := hpS (sA s 104 (upd (s.2.1 104) (x7).toNatClampNeg (((s.2.1 104) (x7).toNatClampNeg) + (1 : Int32))))) rfl ?_
          obtain ⟨hin, k⟩ := k
          refine Ex.zal hq rfl rfl hin ?_
          refine Ex.i1 hq rfl (fun c => ?_) (fun c => ?_)
          · have k := k.1 c
            refine Ex.fg (L := [.ref 55, .int x1, .int x2, .int x3, .int x4, .int x5, .int x6, .int x7, pu, pu, pu, pu]) ⟨Or.inl rfl, ⟨Or.inl rfl, ⟨Or.inl rfl, ⟨Or.inl rfl, ⟨Or.inl rfl, ⟨Or.inl rfl, ⟨Or.inl rfl, ⟨Or.inl rfl, ⟨Or.inr ⟨rfl, rfl⟩, ⟨Or.inr ⟨rfl, rfl⟩, ⟨Or.inl rfl, ⟨Or.inl rfl, trivial⟩⟩⟩⟩⟩⟩⟩⟩⟩⟩⟩⟩ ?_
            exact ih x1 x2 x3 x4 x5 x6 x7 (sA s 104 (upd (s.2.1 104) (x7).toNatClampNeg (((s.2.1 104) (x7).toNatClampNeg) + (1 : Int32)))) k hX199
          · have k := k.2 c
            refine Ex.seg hq 1 (j := 101) (L' := [.ref 55, .int x1, .int x2, .int x3, .int x4, .int x5, .int x6, .int x7, .int ((s.2.1 104) (x7).toNatClampNeg), .int ((s.2.1 72) (((s.2.1 104) (x7).toNatClampNeg)).toNatClampNeg), pu, pu]) (S' := [.int x7]) (h' := hpS (sA s 104 (upd (s.2.1 104) (x7).toNatClampNeg (((s.2.1 104) (x7).toNatClampNeg) + (1 : Int32))))) rfl ?_
            refine Ex.i1 hq rfl (fun c => ?_) (fun c => ?_)
            · have k := k.1 c
              refine Ex.seg hq 4 (j := 127) (L' := [.ref 55, .int x1, .int x2, .int x3, .int x4, .int x5, .int x6, .int x7, .int ((s.2.1 104) (x7).toNatClampNeg), .int ((s.2.1 72) (((s.2.1 104) (x7).toNatClampNeg)).toNatClampNeg), pu, pu]) (S' := [.int ((s.2.1 72) (((s.2.1 104) (x7).toNatClampNeg)).toNatClampNeg), .int x7, .ref 103]) (h' := hpS (sA s 104 (upd (s.2.1 104) (x7).toNatClampNeg (((s.2.1 104) (x7).toNatClampNeg) + (1 : Int32))))) rfl ?_
              obtain ⟨hin, k⟩ := k
              refine Ex.ias hq rfl rfl hin (h' := hpS (sA (sA s 104 (upd (s.2.1 104) (x7).toNatClampNeg (((s.2.1 104) (x7).toNatClampNeg) + (1 : Int32)))) 103 (upd (s.2.1 103) (x7).toNatClampNeg ((s.2.1 72) (((s.2.1 104) (x7).toNatClampNeg)).toNatClampNeg)))) (hset_103 _ _) ?_
              refine Ex.seg hq 4 (j := 132) (L' := [.ref 55, .int x1, .int x2, .int x3, .int x4, .int x5, .int x6, .int x7, .int ((s.2.1 104) (x7).toNatClampNeg), .int ((s.2.1 72) (((s.2.1 104) (x7).toNatClampNeg)).toNatClampNeg), pu, pu]) (S' := [.int x5, .int (x7 + (1 : Int32))]) (h' := hpS (sA (sA s 104 (upd (s.2.1 104) (x7).toNatClampNeg (((s.2.1 104) (x7).toNatClampNeg) + (1 : Int32)))) 103 (upd (s.2.1 103) (x7).toNatClampNeg ((s.2.1 72) (((s.2.1 104) (x7).toNatClampNeg)).toNatClampNeg)))) rfl ?_
              refine Ex.i2 hq rfl (fun c => ?_) (fun c => ?_)
              · have k := k.1 c
                refine Ex.seg hq 4 (j := 149) (L' := [.ref 55, .int x1, .int x2, .int x3, .int x4, .int x5, .int x6, .int x7, .int ((s.2.1 104) (x7).toNatClampNeg), .int ((s.2.1 72) (((s.2.1 104) (x7).toNatClampNeg)).toNatClampNeg), .int (0 : Int32), .int (0 : Int32)]) (S' := []) (h' := hpS (sA (sA s 104 (upd (s.2.1 104) (x7).toNatClampNeg (((s.2.1 104) (x7).toNatClampNeg) + (1 : Int32)))) 103 (upd (s.2.1 103) (x7).toNatClampNeg ((s.2.1 72) (((s.2.1 104) (x7).toNatClampNeg)).toNatClampNeg)))) rfl ?_
                obtain ⟨m, k⟩ := k
                refine Ex.fg (L := [.ref 55, .int x1, .int x2, .int x3, .int x4, .int x5, .int x6, .int x7, pu, pu, .int (0 : Int32), .int (0 : Int32)]) ⟨Or.inl rfl, ⟨Or.inl rfl, ⟨Or.inl rfl, ⟨Or.inl rfl, ⟨Or.inl rfl, ⟨Or.inl rfl, ⟨Or.inl rfl, ⟨Or.inl rfl, ⟨Or.inr ⟨rfl, rfl⟩, ⟨Or.inr ⟨rfl, rfl⟩, ⟨Or.inl rfl, ⟨Or.inl rfl, trivial⟩⟩⟩⟩⟩⟩⟩⟩⟩⟩⟩⟩ ?_
                refine q_255_L149 (d := d) m x1 x2 x3 x4 x5 x6 x7 (0 : Int32) (0 : Int32) (sA (sA s 104 (upd (s.2.1 104) (x7).toNatClampNeg (((s.2.1 104) (x7).toNatClampNeg) + (1 : Int32)))) 103 (upd (s.2.1 103) (x7).toNatClampNeg ((s.2.1 72) (((s.2.1 104) (x7).toNatClampNeg)).toNatClampNeg))) k ?_
                · intro y1 y2 y3 y4 y5 y6 y7 y10 s7 k
                  refine Ex.seg hq 2 (j := 166) (L' := [.ref 55, .int y1, .int y2, .int y3, .int y4, .int y5, .int y6, .int y7, pu, pu, .int y10, pu]) (S' := [.int y3, .int y10]) (h' := hpS s7) rfl ?_
                  refine Ex.i2 hq rfl (fun c => ?_) (fun c => ?_)
                  · have k := k.1 c
                    refine Ex.seg hq 1 (j := 169) (L' := [.ref 55, .int y1, .int y2, .int y3, .int y4, .int y5, .int y6, .int y7, pu, pu, .int y10, pu]) (S' := [.int y6]) (h' := hpS s7) rfl ?_
                    refine Ex.i1 hq rfl (fun c => ?_) (fun c => ?_)
                    · have k := k.1 c
                      refine Ex.seg hq 2 (j := 176) (L' := [.ref 55, .int y1, .int y2, .int y3, .int y4, .int y5, .int y6, .int y7, pu, pu, .int y10, .int (0 : Int32)]) (S' := []) (h' := hpS s7) rfl ?_
                      obtain ⟨m, k⟩ := k
                      refine Ex.fg (L := [.ref 55, .int y1, .int y2, .int y3, .int y4, .int y5, .int y6, .int y7, pu, pu, pu, .int (0 : Int32)]) ⟨Or.inl rfl, ⟨Or.inl rfl, ⟨Or.inl rfl, ⟨Or.inl rfl, ⟨Or.inl rfl, ⟨Or.inl rfl, ⟨Or.inl rfl, ⟨Or.inl rfl, ⟨Or.inl rfl, ⟨Or.inl rfl, ⟨Or.inr ⟨rfl, rfl⟩, ⟨Or.inl rfl, trivial⟩⟩⟩⟩⟩⟩⟩⟩⟩⟩⟩⟩ ?_
                      refine q_255_L176 (d := d) m y1 y2 y3 y4 y5 y6 y7 (0 : Int32) s7 k ?_
                      · intro y1 y2 y3 y4 y5 y6 y7 s8 k
                        refine Ex.seg hq 2 (j := 191) (L' := [.ref 55, .int y1, .int y2, .int y3, .int y4, .int y5, .int y6, .int y7, pu, pu, pu, pu]) (S' := [.int (100000 : Int32), .int y6]) (h' := hpS s8) rfl ?_
                        refine Ex.i2 hq rfl (fun c => ?_) (fun c => ?_)
                        · have k := k.1 c
                          refine Ex.seg hq 3 (j := 58) (L' := [.ref 55, .int y1, .int y2, .int y3, .int y4, .int y5, .int y6, .int y7, pu, pu, pu, pu]) (S' := []) (h' := hpS s8) rfl ?_
                          exact ih y1 y2 y3 y4 y5 y6 y7 s8 k hX199
                        · have k := k.2 c
                          refine Ex.seg hq 6 (j := 58) (L' := [.ref 55, .int y1, .int y2, .int y3, .int y4, .int y5, .int (y6 + (1 : Int32)), .int y7, pu, pu, pu, pu]) (S' := []) (h' := hpS s8) rfl ?_
                          exact ih y1 y2 y3 y4 y5 (y6 + (1 : Int32)) y7 s8 k hX199
                    · have k := k.2 c
                      refine Ex.seg hq 2 (j := 172) (L' := [.ref 55, .int y1, .int y2, .int y3, .int y4, .int y5, .int y6, .int y7, pu, pu, .int y10, pu]) (S' := [.int y5, .ref 55]) (h' := hpS s7) rfl ?_
                      refine Ex.cl hq rfl rfl ?_
                      refine Rn.mono (q_254 (d := d + 1) y5 s7 k) ?_
                      rintro _ _ ⟨r10, s9, rfl, hzr10, rfl, k⟩
                      show Ex sc (d + 2) 255 173 [.ref 55, .int y1, .int y2, .int y3, .int y4, .int y5, .int y6, .int y7, pu, pu, .int y10, pu] [.int r10] (hpS s9) _
                      refine Ex.i1 hq rfl (fun c => ?_) (fun c => ?_)
                      · have k := k.1 c
                        refine Ex.seg hq 2 (j := 191) (L' := [.ref 55, .int y1, .int y2, .int y3, .int y4, .int y5, .int y6, .int y7, pu, pu, .int y10, pu]) (S' := [.int (100000 : Int32), .int y6]) (h' := hpS s9) rfl ?_
                        refine Ex.i2 hq rfl (fun c => ?_) (fun c => ?_)
                        · have k := k.1 c
                          refine Ex.seg hq 3 (j := 58) (L' := [.ref 55, .int y1, .int y2, .int y3, .int y4, .int y5, .int y6, .int y7, pu, pu, .int y10, pu]) (S' := []) (h' := hpS s9) rfl ?_
                          refine Ex.fg (L := [.ref 55, .int y1, .int y2, .int y3, .int y4, .int y5, .int y6, .int y7, pu, pu, pu, pu]) ⟨Or.inl rfl, ⟨Or.inl rfl, ⟨Or.inl rfl, ⟨Or.inl rfl, ⟨Or.inl rfl, ⟨Or.inl rfl, ⟨Or.inl rfl, ⟨Or.inl rfl, ⟨Or.inl rfl, ⟨Or.inl rfl, ⟨Or.inr ⟨rfl, rfl⟩, ⟨Or.inl rfl, trivial⟩⟩⟩⟩⟩⟩⟩⟩⟩⟩⟩⟩ ?_
                          exact ih y1 y2 y3 y4 y5 y6 y7 s9 k hX199
                        · have k := k.2 c
                          refine Ex.seg hq 6 (j := 58) (L' := [.ref 55, .int y1, .int y2, .int y3, .int y4, .int y5, .int (y6 + (1 : Int32)), .int y7, pu, pu, .int y10, pu]) (S' := []) (h' := hpS s9) rfl ?_
                          refine Ex.fg (L := [.ref 55, .int y1, .int y2, .int y3, .int y4, .int y5, .int (y6 + (1 : Int32)), .int y7, pu, pu, pu, pu]) ⟨Or.inl rfl, ⟨Or.inl rfl, ⟨Or.inl rfl, ⟨Or.inl rfl, ⟨Or.inl rfl, ⟨Or.inl rfl, ⟨Or.inl rfl, ⟨Or.inl rfl, ⟨Or.inl rfl, ⟨Or.inl rfl, ⟨Or.inr ⟨rfl, rfl⟩, ⟨Or.inl rfl, trivial⟩⟩⟩⟩⟩⟩⟩⟩⟩⟩⟩⟩ ?_
                          exact ih y1 y2 y3 y4 y5 (y6 + (1 : Int32)) y7 s9 k hX199
                      · have k := k.2 c
                        refine Ex.seg hq 2 (j := 176) (L' := [.ref 55, .int y1, .int y2, .int y3, .int y4, .int y5, .int y6, .int y7, pu, pu, .int y10, .int (0 : Int32)]) (S' := []) (h' := hpS s9) rfl ?_
                        obtain ⟨m, k⟩ := k
                        refine Ex.fg (L := [.ref 55, .int y1, .int y2, .int y3, .int y4, .int y5, .int y6, .int y7, pu, pu, pu, .int (0 : Int32)]) ⟨Or.inl rfl, ⟨Or.inl rfl, ⟨Or.inl rfl, ⟨Or.inl rfl, ⟨Or.inl rfl, ⟨Or.inl rfl, ⟨Or.inl rfl, ⟨Or.inl rfl, ⟨Or.inl rfl, ⟨Or.inl rfl, ⟨Or.inr ⟨rfl, rfl⟩, ⟨Or.inl rfl, trivial⟩⟩⟩⟩⟩⟩⟩⟩⟩⟩⟩⟩ ?_
                        refine q_255_L176 (d := d) m y1 y2 y3 y4 y5 y6 y7 (0 : Int32) s9 k ?_
                        · intro y1 y2 y3 y4 y5 y6 y7 s11 k
                          refine Ex.seg hq 2 (j := 191) (L' := [.ref 55, .int y1, .int y2, .int y3, .int y4, .int y5, .int y6, .int y7, pu, pu, pu, pu]) (S' := [.int (100000 : Int32), .int y6]) (h' := hpS s11) rfl ?_
                          refine Ex.i2 hq rfl (fun c => ?_) (fun c => ?_)
                          · have k := k.1 c
                            refine Ex.seg hq 3 (j := 58) (L' := [.ref 55, .int y1, .int y2, .int y3, .int y4, .int y5, .int y6, .int y7, pu, pu, pu, pu]) (S' := []) (h' := hpS s11) rfl ?_
                            exact ih y1 y2 y3 y4 y5 y6 y7 s11 k hX199
                          · have k := k.2 c
                            refine Ex.seg hq 6 (j := 58) (L' := [.ref 55, .int y1, .int y2, .int y3, .int y4, .int y5, .int (y6 + (1 : Int32)), .int y7, pu, pu, pu, pu]) (S' := []) (h' := hpS s11) rfl ?_
                            exact ih y1 y2 y3 y4 y5 (y6 + (1 : Int32)) y7 s11 k hX199
                  · have k := k.2 c
                    refine Ex.seg hq 1 (j := 58) (L' := [.ref 55, .int y1, .int y2, .int y3, .int y4, .int y5, .int y6, .int y7, pu, pu, .int y10, pu]) (S' := []) (h' := hpS s7) rfl ?_
                    refine Ex.fg (L := [.ref 55, .int y1, .int y2, .int y3, .int y4, .int y5, .int y6, .int y7, pu, pu, pu, pu]) ⟨Or.inl rfl, ⟨Or.inl rfl, ⟨Or.inl rfl, ⟨Or.inl rfl, ⟨Or.inl rfl, ⟨Or.inl rfl, ⟨Or.inl rfl, ⟨Or.inl rfl, ⟨Or.inl rfl, ⟨Or.inl rfl, ⟨Or.inr ⟨rfl, rfl⟩, ⟨Or.inl rfl, trivial⟩⟩⟩⟩⟩⟩⟩⟩⟩⟩⟩⟩ ?_
                    exact ih y1 y2 y3 y4 y5 y6 y7 s7 k hX199
              · have k := k.2 c
                refine Ex.seg hq 10 (j := 143) (L' := [.ref 55, .int x1, .int x2, .int x3, .int x4, .int x5, .int x6, .int (x7 + (1 : Int32)), .int ((s.2.1 104) (x7).toNatClampNeg), .int ((s.2.1 72) (((s.2.1 104) (x7).toNatClampNeg)).toNatClampNeg), pu, pu]) (S' := [.int (((s.2.1 104) (x7).toNatClampNeg) + (1 : Int32)), .int (x7 + (1 : Int32)), .ref 104]) (h' := hpS (sA (sA s 104 (upd (s.2.1 104) (x7).toNatClampNeg (((s.2.1 104) (x7).toNatClampNeg) + (1 : Int32)))) 103 (upd (s.2.1 103) (x7).toNatClampNeg ((s.2.1 72) (((s.2.1 104) (x7).toNatClampNeg)).toNatClampNeg)))) rfl ?_
                obtain ⟨hin, k⟩ := k
                refine Ex.ias hq rfl rfl hin (h' := hpS (sA (sA s 103 (upd (s.2.1 103) (x7).toNatClampNeg ((s.2.1 72) (((s.2.1 104) (x7).toNatClampNeg)).toNatClampNeg))) 104 (upd (upd (s.2.1 104) (x7).toNatClampNeg (((s.2.1 104) (x7).toNatClampNeg) + (1 : Int32))) ((x7 + (1 : Int32))).toNatClampNeg (((s.2.1 104) (x7).toNatClampNeg) + (1 : Int32))))) (hset_104 _ _) ?_
                refine Ex.seg hq 1 (j := 58) (L' := [.ref 55, .int x1, .int x2, .int x3, .int x4, .int x5, .int x6, .int (x7 + (1 : Int32)), .int ((s.2.1 104) (x7).toNatClampNeg), .int ((s.2.1 72) (((s.2.1 104) (x7).toNatClampNeg)).toNatClampNeg), pu, pu]) (S' := []) (h' := hpS (sA (sA s 103 (upd (s.2.1 103) (x7).toNatClampNeg ((s.2.1 72) (((s.2.1 104) (x7).toNatClampNeg)).toNatClampNeg))) 104 (upd (upd (s.2.1 104) (x7).toNatClampNeg (((s.2.1 104) (x7).toNatClampNeg) + (1 : Int32))) ((x7 + (1 : Int32))).toNatClampNeg (((s.2.1 104) (x7).toNatClampNeg) + (1 : Int32))))) rfl ?_
                refine Ex.fg (L := [.ref 55, .int x1, .int x2, .int x3, .int x4, .int x5, .int x6, .int (x7 + (1 : Int32)), pu, pu, pu, pu]) ⟨Or.inl rfl, ⟨Or.inl rfl, ⟨Or.inl rfl, ⟨Or.inl rfl, ⟨Or.inl rfl, ⟨Or.inl rfl, ⟨Or.inl rfl, ⟨Or.inl rfl, ⟨Or.inr ⟨rfl, rfl⟩, ⟨Or.inr ⟨rfl, rfl⟩, ⟨Or.inl rfl, ⟨Or.inl rfl, trivial⟩⟩⟩⟩⟩⟩⟩⟩⟩⟩⟩⟩ ?_
                exact ih x1 x2 x3 x4 x5 x6 (x7 + (1 : Int32)) (sA (sA s 103 (upd (s.2.1 103) (x7).toNatClampNeg ((s.2.1 72) (((s.2.1 104) (x7).toNatClampNeg)).toNatClampNeg))) 104 (upd (upd (s.2.1 104) (x7).toNatClampNeg (((s.2.1 104) (x7).toNatClampNeg) + (1 : Int32))) ((x7 + (1 : Int32))).toNatClampNeg (((s.2.1 104) (x7).toNatClampNeg) + (1 : Int32)))) k hX199
            · have k := k.2 c
              refine Ex.seg hq 3 (j := 105) (L' := [.ref 55, .int x1, .int x2, .int x3, .int x4, .int x5, .int x6, .int x7, .int ((s.2.1 104) (x7).toNatClampNeg), .int ((s.2.1 72) (((s.2.1 104) (x7).toNatClampNeg)).toNatClampNeg), pu, pu]) (S' := [.int ((s.2.1 72) (((s.2.1 104) (x7).toNatClampNeg)).toNatClampNeg), .ref 60]) (h' := hpS (sA s 104 (upd (s.2.1 104) (x7).toNatClampNeg (((s.2.1 104) (x7).toNatClampNeg) + (1 : Int32))))) rfl ?_
              obtain ⟨hin, k⟩ := k
              refine Ex.ial hq rfl rfl hin ?_
              refine Ex.seg hq 5 (j := 111) (L' := [.ref 55, .int x1, .int x2, .int x3, .int x4, .int x5, .int x6, .int x7, .int ((s.2.1 104) (x7).toNatClampNeg), .int ((s.2.1 72) (((s.2.1 104) (x7).toNatClampNeg)).toNatClampNeg), pu, pu]) (S' := [.int (0 : Int32), .ref 103, .ref 60, .int ((s.2.1 60) (((s.2.1 72) (((s.2.1 104) (x7).toNatClampNeg)).toNatClampNeg)).toNatClampNeg)]) (h' := hpS (sA s 104 (upd (s.2.1 104) (x7).toNatClampNeg (((s.2.1 104) (x7).toNatClampNeg) + (1 : Int32))))) rfl ?_
              obtain ⟨hin, k⟩ := k
              refine Ex.ial hq rfl rfl hin ?_
              obtain ⟨hin, k⟩ := k
              refine Ex.ial hq rfl rfl hin ?_
              refine Ex.seg hq 2 (j := 115) (L' := [.ref 55, .int x1, .int x2, .int x3, .int x4, .int x5, .int x6, .int x7, .int ((s.2.1 104) (x7).toNatClampNeg), .int ((s.2.1 72) (((s.2.1 104) (x7).toNatClampNeg)).toNatClampNeg), pu, pu]) (S' := [.int x2, .int (((s.2.1 60) (((s.2.1 72) (((s.2.1 104) (x7).toNatClampNeg)).toNatClampNeg)).toNatClampNeg) - ((s.2.1 60) (((s.2.1 103) ((0 : Int32)).toNatClampNeg)).toNatClampNeg))]) (h' := hpS (sA s 104 (upd (s.2.1 104) (x7).toNatClampNeg (((s.2.1 104) (x7).toNatClampNeg) + (1 : Int32))))) rfl ?_
              refine Ex.i2 hq rfl (fun c => ?_) (fun c => ?_)
              · have k := k.1 c
                refine Ex.fg (L := [.ref 55, .int x1, .int x2, .int x3, .int x4, .int x5, .int x6, .int x7, pu, pu, pu, pu]) ⟨Or.inl rfl, ⟨Or.inl rfl, ⟨Or.inl rfl, ⟨Or.inl rfl, ⟨Or.inl rfl, ⟨Or.inl rfl, ⟨Or.inl rfl, ⟨Or.inl rfl, ⟨Or.inr ⟨rfl, rfl⟩, ⟨Or.inr ⟨rfl, rfl⟩, ⟨Or.inl rfl, ⟨Or.inl rfl, trivial⟩⟩⟩⟩⟩⟩⟩⟩⟩⟩⟩⟩ ?_
                exact ih x1 x2 x3 x4 x5 x6 x7 (sA s 104 (upd (s.2.1 104) (x7).toNatClampNeg (((s.2.1 104) (x7).toNatClampNeg) + (1 : Int32)))) k hX199
              · have k := k.2 c
                refine Ex.seg hq 4 (j := 120) (L' := [.ref 55, .int x1, .int x2, .int x3, .int x4, .int x5, .int x6, .int x7, .int ((s.2.1 104) (x7).toNatClampNeg), .int ((s.2.1 72) (((s.2.1 104) (x7).toNatClampNeg)).toNatClampNeg), pu, pu]) (S' := [.int ((s.2.1 72) (((s.2.1 104) (x7).toNatClampNeg)).toNatClampNeg), .int x7, .int x1, .ref 55]) (h' := hpS (sA s 104 (upd (s.2.1 104) (x7).toNatClampNeg (((s.2.1 104) (x7).toNatClampNeg) + (1 : Int32))))) rfl ?_
                refine Ex.cl hq rfl rfl ?_
                refine Rn.mono (q_253 (d := d + 0) x1 x7 ((s.2.1 72) (((s.2.1 104) (x7).toNatClampNeg)).toNatClampNeg) (sA s 104 (upd (s.2.1 104) (x7).toNatClampNeg (((s.2.1 104) (x7).toNatClampNeg) + (1 : Int32)))) k) ?_
                rintro _ _ ⟨r13, s12, rfl, hzr13, rfl, k⟩
                show Ex sc (d + 2) 255 121 [.ref 55, .int x1, .int x2, .int x3, .int x4, .int x5, .int x6, .int x7, .int ((s.2.1 104) (x7).toNatClampNeg), .int ((s.2.1 72) (((s.2.1 104) (x7).toNatClampNeg)).toNatClampNeg), pu, pu] [.int r13] (hpS s12) _
                refine Ex.i1 hq rfl (fun c => ?_) (fun c => ?_)
                · have k := k.1 c
                  refine Ex.seg hq 4 (j := 127) (L' := [.ref 55, .int x1, .int x2, .int x3, .int x4, .int x5, .int x6, .int x7, .int ((s.2.1 104) (x7).toNatClampNeg), .int ((s.2.1 72) (((s.2.1 104) (x7).toNatClampNeg)).toNatClampNeg), pu, pu]) (S' := [.int ((s.2.1 72) (((s.2.1 104) (x7).toNatClampNeg)).toNatClampNeg), .int x7, .ref 103]) (h' := hpS s12) rfl ?_
                  obtain ⟨hin, k⟩ := k
                  refine Ex.ias hq rfl rfl hin (h' := hpS (sA s12 103 (upd (s12.2.1 103) (x7).toNatClampNeg ((s.2.1 72) (((s.2.1 104) (x7).toNatClampNeg)).toNatClampNeg)))) (hset_103 _ _) ?_
                  refine Ex.seg hq 4 (j := 132) (L' := [.ref 55, .int x1, .int x2, .int x3, .int x4, .int x5, .int x6, .int x7, .int ((s.2.1 104) (x7).toNatClampNeg), .int ((s.2.1 72) (((s.2.1 104) (x7).toNatClampNeg)).toNatClampNeg), pu, pu]) (S' := [.int x5, .int (x7 + (1 : Int32))]) (h' := hpS (sA s12 103 (upd (s12.2.1 103) (x7).toNatClampNeg ((s.2.1 72) (((s.2.1 104) (x7).toNatClampNeg)).toNatClampNeg)))) rfl ?_
                  refine Ex.i2 hq rfl (fun c => ?_) (fun c => ?_)
                  · have k := k.1 c
                    refine Ex.seg hq 4 (j := 149) (L' := [.ref 55, .int x1, .int x2, .int x3, .int x4, .int x5, .int x6, .int x7, .int ((s.2.1 104) (x7).toNatClampNeg), .int ((s.2.1 72) (((s.2.1 104) (x7).toNatClampNeg)).toNatClampNeg), .int (0 : Int32), .int (0 : Int32)]) (S' := []) (h' := hpS (sA s12 103 (upd (s12.2.1 103) (x7).toNatClampNeg ((s.2.1 72) (((s.2.1 104) (x7).toNatClampNeg)).toNatClampNeg)))) rfl ?_
                    obtain ⟨m, k⟩ := k
                    refine Ex.fg (L := [.ref 55, .int x1, .int x2, .int x3, .int x4, .int x5, .int x6, .int x7, pu, pu, .int (0 : Int32), .int (0 : Int32)]) ⟨Or.inl rfl, ⟨Or.inl rfl, ⟨Or.inl rfl, ⟨Or.inl rfl, ⟨Or.inl rfl, ⟨Or.inl rfl, ⟨Or.inl rfl, ⟨Or.inl rfl, ⟨Or.inr ⟨rfl, rfl⟩, ⟨Or.inr ⟨rfl, rfl⟩, ⟨Or.inl rfl, ⟨Or.inl rfl, trivial⟩⟩⟩⟩⟩⟩⟩⟩⟩⟩⟩⟩ ?_
                    refine q_255_L149 (d := d) m x1 x2 x3 x4 x5 x6 x7 (0 : Int32) (0 : Int32) (sA s12 103 (upd (s12.2.1 103) (x7).toNatClampNeg ((s.2.1 72) (((s.2.1 104) (x7).toNatClampNeg)).toNatClampNeg))) k ?_
                    · intro y1 y2 y3 y4 y5 y6 y7 y10 s14 k
                      refine Ex.seg hq 2 (j := 166) (L' := [.ref 55, .int y1, .int y2, .int y3, .int y4, .int y5, .int y6, .int y7, pu, pu, .int y10, pu]) (S' := [.int y3, .int y10]) (h' := hpS s14) rfl ?_
                      refine Ex.i2 hq rfl (fun c => ?_) (fun c => ?_)
                      · have k := k.1 c
                        refine Ex.seg hq 1 (j := 169) (L' := [.ref 55, .int y1, .int y2, .int y3, .int y4, .int y5, .int y6, .int y7, pu, pu, .int y10, pu]) (S' := [.int y6]) (h' := hpS s14) rfl ?_
                        refine Ex.i1 hq rfl (fun c => ?_) (fun c => ?_)
                        · have k := k.1 c
                          refine Ex.seg hq 2 (j := 176) (L' := [.ref 55, .int y1, .int y2, .int y3, .int y4, .int y5, .int y6, .int y7, pu, pu, .int y10, .int (0 : Int32)]) (S' := []) (h' := hpS s14) rfl ?_
                          obtain ⟨m, k⟩ := k
                          refine Ex.fg (L := [.ref 55, .int y1, .int y2, .int y3, .int y4, .int y5, .int y6, .int y7, pu, pu, pu, .int (0 : Int32)]) ⟨Or.inl rfl, ⟨Or.inl rfl, ⟨Or.inl rfl, ⟨Or.inl rfl, ⟨Or.inl rfl, ⟨Or.inl rfl, ⟨Or.inl rfl, ⟨Or.inl rfl, ⟨Or.inl rfl, ⟨Or.inl rfl, ⟨Or.inr ⟨rfl, rfl⟩, ⟨Or.inl rfl, trivial⟩⟩⟩⟩⟩⟩⟩⟩⟩⟩⟩⟩ ?_
                          refine q_255_L176 (d := d) m y1 y2 y3 y4 y5 y6 y7 (0 : Int32) s14 k ?_
                          · intro y1 y2 y3 y4 y5 y6 y7 s15 k
                            refine Ex.seg hq 2 (j := 191) (L' := [.ref 55, .int y1, .int y2, .int y3, .int y4, .int y5, .int y6, .int y7, pu, pu, pu, pu]) (S' := [.int (100000 : Int32), .int y6]) (h' := hpS s15) rfl ?_
                            refine Ex.i2 hq rfl (fun c => ?_) (fun c => ?_)
                            · have k := k.1 c
                              refine Ex.seg hq 3 (j := 58) (L' := [.ref 55, .int y1, .int y2, .int y3, .int y4, .int y5, .int y6, .int y7, pu, pu, pu, pu]) (S' := []) (h' := hpS s15) rfl ?_
                              exact ih y1 y2 y3 y4 y5 y6 y7 s15 k hX199
                            · have k := k.2 c
                              refine Ex.seg hq 6 (j := 58) (L' := [.ref 55, .int y1, .int y2, .int y3, .int y4, .int y5, .int (y6 + (1 : Int32)), .int y7, pu, pu, pu, pu]) (S' := []) (h' := hpS s15) rfl ?_
                              exact ih y1 y2 y3 y4 y5 (y6 + (1 : Int32)) y7 s15 k hX199
                        · have k := k.2 c
                          refine Ex.seg hq 2 (j := 172) (L' := [.ref 55, .int y1, .int y2, .int y3, .int y4, .int y5, .int y6, .int y7, pu, pu, .int y10, pu]) (S' := [.int y5, .ref 55]) (h' := hpS s14) rfl ?_
                          refine Ex.cl hq rfl rfl ?_
                          refine Rn.mono (q_254 (d := d + 1) y5 s14 k) ?_
                          rintro _ _ ⟨r17, s16, rfl, hzr17, rfl, k⟩
                          show Ex sc (d + 2) 255 173 [.ref 55, .int y1, .int y2, .int y3, .int y4, .int y5, .int y6, .int y7, pu, pu, .int y10, pu] [.int r17] (hpS s16) _
                          refine Ex.i1 hq rfl (fun c => ?_) (fun c => ?_)
                          · have k := k.1 c
                            refine Ex.seg hq 2 (j := 191) (L' := [.ref 55, .int y1, .int y2, .int y3, .int y4, .int y5, .int y6, .int y7, pu, pu, .int y10, pu]) (S' := [.int (100000 : Int32), .int y6]) (h' := hpS s16) rfl ?_
                            refine Ex.i2 hq rfl (fun c => ?_) (fun c => ?_)
                            · have k := k.1 c
                              refine Ex.seg hq 3 (j := 58) (L' := [.ref 55, .int y1, .int y2, .int y3, .int y4, .int y5, .int y6, .int y7, pu, pu, .int y10, pu]) (S' := []) (h' := hpS s16) rfl ?_
                              refine Ex.fg (L := [.ref 55, .int y1, .int y2, .int y3, .int y4, .int y5, .int y6, .int y7, pu, pu, pu, pu]) ⟨Or.inl rfl, ⟨Or.inl rfl, ⟨Or.inl rfl, ⟨Or.inl rfl, ⟨Or.inl rfl, ⟨Or.inl rfl, ⟨Or.inl rfl, ⟨Or.inl rfl, ⟨Or.inl rfl, ⟨Or.inl rfl, ⟨Or.inr ⟨rfl, rfl⟩, ⟨Or.inl rfl, trivial⟩⟩⟩⟩⟩⟩⟩⟩⟩⟩⟩⟩ ?_
                              exact ih y1 y2 y3 y4 y5 y6 y7 s16 k hX199
                            · have k := k.2 c
                              refine Ex.seg hq 6 (j := 58) (L' := [.ref 55, .int y1, .int y2, .int y3, .int y4, .int y5, .int (y6 + (1 : Int32)), .int y7, pu, pu, .int y10, pu]) (S' := []) (h' := hpS s16) rfl ?_
                              refine Ex.fg (L := [.ref 55, .int y1, .int y2, .int y3, .int y4, .int y5, .int (y6 + (1 : Int32)), .int y7, pu, pu, pu, pu]) ⟨Or.inl rfl, ⟨Or.inl rfl, ⟨Or.inl rfl, ⟨Or.inl rfl, ⟨Or.inl rfl, ⟨Or.inl rfl, ⟨Or.inl rfl, ⟨Or.inl rfl, ⟨Or.inl rfl, ⟨Or.inl rfl, ⟨Or.inr ⟨rfl, rfl⟩, ⟨Or.inl rfl, trivial⟩⟩⟩⟩⟩⟩⟩⟩⟩⟩⟩⟩ ?_
                              exact ih y1 y2 y3 y4 y5 (y6 + (1 : Int32)) y7 s16 k hX199
                          · have k := k.2 c
                            refine Ex.seg hq 2 (j := 176) (L' := [.ref 55, .int y1, .int y2, .int y3, .int y4, .int y5, .int y6, .int y7, pu, pu, .int y10, .int (0 : Int32)]) (S' := []) (h' := hpS s16) rfl ?_
                            obtain ⟨m, k⟩ := k
                            refine Ex.fg (L := [.ref 55, .int y1, .int y2, .int y3, .int y4, .int y5, .int y6, .int y7, pu, pu, pu, .int (0 : Int32)]) ⟨Or.inl rfl, ⟨Or.inl rfl, ⟨Or.inl rfl, ⟨Or.inl rfl, ⟨Or.inl rfl, ⟨Or.inl rfl, ⟨Or.inl rfl, ⟨Or.inl rfl, ⟨Or.inl rfl, ⟨Or.inl rfl, ⟨Or.inr ⟨rfl, rfl⟩, ⟨Or.inl rfl, trivial⟩⟩⟩⟩⟩⟩⟩⟩⟩⟩⟩⟩ ?_
                            refine q_255_L176 (d := d) m y1 y2 y3 y4 y5 y6 y7 (0 : Int32) s16 k ?_
                            · intro y1 y2 y3 y4 y5 y6 y7 s18 k
                              refine Ex.seg hq 2 (j := 191) (L' := [.ref 55, .int y1, .int y2, .int y3, .int y4, .int y5, .int y6, .int y7, pu, pu, pu, pu]) (S' := [.int (100000 : Int32), .int y6]) (h' := hpS s18) rfl ?_
                              refine Ex.i2 hq rfl (fun c => ?_) (fun c => ?_)
                              · have k := k.1 c
                                refine Ex.seg hq 3 (j := 58) (L' := [.ref 55, .int y1, .int y2, .int y3, .int y4, .int y5, .int y6, .int y7, pu, pu, pu, pu]) (S' := []) (h' := hpS s18) rfl ?_
                                exact ih y1 y2 y3 y4 y5 y6 y7 s18 k hX199
                              · have k := k.2 c
                                refine Ex.seg hq 6 (j := 58) (L' := [.ref 55, .int y1, .int y2, .int y3, .int y4, .int y5, .int (y6 + (1 : Int32)), .int y7, pu, pu, pu, pu]) (S' := []) (h' := hpS s18) rfl ?_
                                exact ih y1 y2 y3 y4 y5 (y6 + (1 : Int32)) y7 s18 k hX199
                      · have k := k.2 c
                        refine Ex.seg hq 1 (j := 58) (L' := [.ref 55, .int y1, .int y2, .int y3, .int y4, .int y5, .int y6, .int y7, pu, pu, .int y10, pu]) (S' := []) (h' := hpS s14) rfl ?_
                        refine Ex.fg (L := [.ref 55, .int y1, .int y2, .int y3, .int y4, .int y5, .int y6, .int y7, pu, pu, pu, pu]) ⟨Or.inl rfl, ⟨Or.inl rfl, ⟨Or.inl rfl, ⟨Or.inl rfl, ⟨Or.inl rfl, ⟨Or.inl rfl, ⟨Or.inl rfl, ⟨Or.inl rfl, ⟨Or.inl rfl, ⟨Or.inl rfl, ⟨Or.inr ⟨rfl, rfl⟩, ⟨Or.inl rfl, trivial⟩⟩⟩⟩⟩⟩⟩⟩⟩⟩⟩⟩ ?_
                        exact ih y1 y2 y3 y4 y5 y6 y7 s14 k hX199
                  · have k := k.2 c
                    refine Ex.seg hq 10 (j := 143) (L' := [.ref 55, .int x1, .int x2, .int x3, .int x4, .int x5, .int x6, .int (x7 + (1 : Int32)), .int ((s.2.1 104) (x7).toNatClampNeg), .int ((s.2.1 72) (((s.2.1 104) (x7).toNatClampNeg)).toNatClampNeg), pu, pu]) (S' := [.int (((s.2.1 104) (x7).toNatClampNeg) + (1 : Int32)), .int (x7 + (1 : Int32)), .ref 104]) (h' := hpS (sA s12 103 (upd (s12.2.1 103) (x7).toNatClampNeg ((s.2.1 72) (((s.2.1 104) (x7).toNatClampNeg)).toNatClampNeg)))) rfl ?_
                    obtain ⟨hin, k⟩ := k
                    refine Ex.ias hq rfl rfl hin (h' := hpS (sA (sA s12 103 (upd (s12.2.1 103) (x7).toNatClampNeg ((s.2.1 72) (((s.2.1 104) (x7).toNatClampNeg)).toNatClampNeg))) 104 (upd (s12.2.1 104) ((x7 + (1 : Int32))).toNatClampNeg (((s.2.1 104) (x7).toNatClampNeg) + (1 : Int32))))) (hset_104 _ _) ?_
                    refine Ex.seg hq 1 (j := 58) (L' := [.ref 55, .int x1, .int x2, .int x3, .int x4, .int x5, .int x6, .int (x7 + (1 : Int32)), .int ((s.2.1 104) (x7).toNatClampNeg), .int ((s.2.1 72) (((s.2.1 104) (x7).toNatClampNeg)).toNatClampNeg), pu, pu]) (S' := []) (h' := hpS (sA (sA s12 103 (upd (s12.2.1 103) (x7).toNatClampNeg ((s.2.1 72) (((s.2.1 104) (x7).toNatClampNeg)).toNatClampNeg))) 104 (upd (s12.2.1 104) ((x7 + (1 : Int32))).toNatClampNeg (((s.2.1 104) (x7).toNatClampNeg) + (1 : Int32))))) rfl ?_
                    refine Ex.fg (L := [.ref 55, .int x1, .int x2, .int x3, .int x4, .int x5, .int x6, .int (x7 + (1 : Int32)), pu, pu, pu, pu]) ⟨Or.inl rfl, ⟨Or.inl rfl, ⟨Or.inl rfl, ⟨Or.inl rfl, ⟨Or.inl rfl, ⟨Or.inl rfl, ⟨Or.inl rfl, ⟨Or.inl rfl, ⟨Or.inr ⟨rfl, rfl⟩, ⟨Or.inr ⟨rfl, rfl⟩, ⟨Or.inl rfl, ⟨Or.inl rfl, trivial⟩⟩⟩⟩⟩⟩⟩⟩⟩⟩⟩⟩ ?_
                    exact ih x1 x2 x3 x4 x5 x6 (x7 + (1 : Int32)) (sA (sA s12 103 (upd (s12.2.1 103) (x7).toNatClampNeg ((s.2.1 72) (((s.2.1 104) (x7).toNatClampNeg)).toNatClampNeg))) 104 (upd (s12.2.1 104) ((x7 + (1 : Int32))).toNatClampNeg (((s.2.1 104) (x7).toNatClampNeg) + (1 : Int32)))) k hX199
                · have k := k.2 c
                  refine Ex.seg hq 1 (j := 58) (L' := [.ref 55, .int x1, .int x2, .int x3, .int x4, .int x5, .int x6, .int x7, .int ((s.2.1 104) (x7).toNatClampNeg), .int ((s.2.1 72) (((s.2.1 104) (x7).toNatClampNeg)).toNatClampNeg), pu, pu]) (S' := []) (h' := hpS s12) rfl ?_
                  refine Ex.fg (L := [.ref 55, .int x1, .int x2, .int x3, .int x4, .int x5, .int x6, .int x7, pu, pu, pu, pu]) ⟨Or.inl rfl, ⟨Or.inl rfl, ⟨Or.inl rfl, ⟨Or.inl rfl, ⟨Or.inl rfl, ⟨Or.inl rfl, ⟨Or.inl rfl, ⟨Or.inl rfl, ⟨Or.inr ⟨rfl, rfl⟩, ⟨Or.inr ⟨rfl, rfl⟩, ⟨Or.inl rfl, ⟨Or.inl rfl, trivial⟩⟩⟩⟩⟩⟩⟩⟩⟩⟩⟩⟩ ?_
                  exact ih x1 x2 x3 x4 x5 x6 x7 s12 k hX199
        · have k := k.2 c
          refine Ex.seg hq 5 (j := 58) (L' := [.ref 55, .int x1, .int x2, .int x3, .int x4, .int x5, .int x6, .int (x7 - (1 : Int32)), .int ((s.2.1 104) (x7).toNatClampNeg), pu, pu, pu]) (S' := []) (h' := hpS (sA s 104 (upd (s.2.1 104) (x7).toNatClampNeg (((s.2.1 104) (x7).toNatClampNeg) + (1 : Int32))))) rfl ?_
          refine Ex.fg (L := [.ref 55, .int x1, .int x2, .int x3, .int x4, .int x5, .int x6, .int (x7 - (1 : Int32)), pu, pu, pu, pu]) ⟨Or.inl rfl, ⟨Or.inl rfl, ⟨Or.inl rfl, ⟨Or.inl rfl, ⟨Or.inl rfl, ⟨Or.inl rfl, ⟨Or.inl rfl, ⟨Or.inl rfl, ⟨Or.inr ⟨rfl, rfl⟩, ⟨Or.inl rfl, ⟨Or.inl rfl, ⟨Or.inl rfl, trivial⟩⟩⟩⟩⟩⟩⟩⟩⟩⟩⟩⟩ ?_
          exact ih x1 x2 x3 x4 x5 x6 (x7 - (1 : Int32)) (sA s 104 (upd (s.2.1 104) (x7).toNatClampNeg (((s.2.1 104) (x7).toNatClampNeg) + (1 : Int32)))) k hX199
      · have k := k.2 c
        refine Ex.seg hq 2 (j := 64) (L' := [.ref 55, .int x1, .int x2, .int x3, .int x4, .int x5, .int x6, .int x7, pu, pu, pu, pu]) (S' := [.int (100000 : Int32), .int x6]) (h' := hpS s) rfl ?_
        refine Ex.i2 hq rfl (fun c => ?_) (fun c => ?_)
        · have k := k.1 c
          refine Ex.fg (L := [pu, pu, pu, pu, pu, pu, .int x6, pu, pu, pu, pu, pu]) ⟨Or.inr ⟨rfl, rfl⟩, ⟨Or.inr ⟨rfl, rfl⟩, ⟨Or.inr ⟨rfl, rfl⟩, ⟨Or.inr ⟨rfl, rfl⟩, ⟨Or.inr ⟨rfl, rfl⟩, ⟨Or.inr ⟨rfl, rfl⟩, ⟨Or.inl rfl, ⟨Or.inr ⟨rfl, rfl⟩, ⟨Or.inl rfl, ⟨Or.inl rfl, ⟨Or.inl rfl, ⟨Or.inl rfl, trivial⟩⟩⟩⟩⟩⟩⟩⟩⟩⟩⟩⟩ ?_
          exact hX199 x6 s k
        · have k := k.2 c
          refine Ex.seg hq 3 (j := 68) (L' := [.ref 55, .int x1, .int x2, .int x3, .int x4, .int x5, .int x6, .int x7, pu, pu, pu, pu]) (S' := [.int x7, .ref 104]) (h' := hpS s) rfl ?_
          obtain ⟨hin, k⟩ := k
          refine Ex.ial hq rfl rfl hin ?_
          refine Ex.seg hq 7 (j := 76) (L' := [.ref 55, .int x1, .int x2, .int x3, .int x4, .int x5, .int x6, .int x7, .int ((s.2.1 104) (x7).toNatClampNeg), pu, pu, pu]) (S' := [.int (((s.2.1 104) (x7).toNatClampNeg) + (1 : Int32)), .int x7, .ref 104]) (h' := hpS s) rfl ?_
          obtain ⟨hin, k⟩ := k
          refine Ex.ias hq rfl rfl hin (h' := hpS (sA s 104 (upd (s.2.1 104) (x7).toNatClampNeg (((s.2.1 104) (x7).toNatClampNeg) + (1 : Int32))))) (hset_104 _ _) ?_
          refine Ex.seg hq 3 (j := 80) (L' := [.ref 55, .int x1, .int x2, .int x3, .int x4, .int x5, .int x6, .int x7, .int ((s.2.1 104) (x7).toNatClampNeg), pu, pu, pu]) (S' := [.int (s.1 5520), .int ((s.2.1 104) (x7).toNatClampNeg)]) (h' := hpS (sA s 104 (upd (s.2.1 104) (x7).toNatClampNeg (((s.2.1 104) (x7).toNatClampNeg) + (1 : Int32))))) rfl ?_
          refine Ex.i2 hq rfl (fun c => ?_) (fun c => ?_)
          · have k := k.1 c
            refine Ex.seg hq 3 (j := 89) (L' := [.ref 55, .int x1, .int x2, .int x3, .int x4, .int x5, .int x6, .int x7, .int ((s.2.1 104) (x7).toNatClampNeg), pu, pu, pu]) (S' := [.int ((s.2.1 104) (x7).toNatClampNeg), .ref 72]) (h' := hpS (sA s 104 (upd (s.2.1 104) (x7).toNatClampNeg (((s.2.1 104) (x7).toNatClampNeg) + (1 : Int32))))) rfl ?_
            obtain ⟨hin, k⟩ := k
            refine Ex.ial hq rfl rfl hin ?_
            refine Ex.seg hq 8 (j := 98) (L' := [.ref 55, .int x1, .int x2, .int x3, .int x4, .int x5, .int x6, .int x7, .int ((s.2.1 104) (x7).toNatClampNeg), .int ((s.2.1 72) (((s.2.1 104) (x7).toNatClampNeg)).toNatClampNeg), pu, pu]) (S' := [.int (((4 : Int32) * ((s.2.1 104) (x7).toNatClampNeg)) + x7), .ref 105]) (h' := hpS (sA s 104 (upd (s.2.1 104) (x7).toNatClampNeg (((s.2.1 104) (x7).toNatClampNeg) + (1 : Int32))))) rfl ?_
            obtain ⟨hin, k⟩ := k
            refine Ex.zal hq rfl rfl hin ?_
            refine Ex.i1 hq rfl (fun c => ?_) (fun c => ?_)
            · have k := k.1 c
              refine Ex.fg (L := [.ref 55, .int x1, .int x2, .int x3, .int x4, .int x5, .int x6, .int x7, pu, pu, pu, pu]) ⟨Or.inl rfl, ⟨Or.inl rfl, ⟨Or.inl rfl, ⟨Or.inl rfl, ⟨Or.inl rfl, ⟨Or.inl rfl, ⟨Or.inl rfl, ⟨Or.inl rfl, ⟨Or.inr ⟨rfl, rfl⟩, ⟨Or.inr ⟨rfl, rfl⟩, ⟨Or.inl rfl, ⟨Or.inl rfl, trivial⟩⟩⟩⟩⟩⟩⟩⟩⟩⟩⟩⟩ ?_
              exact ih x1 x2 x3 x4 x5 x6 x7 (sA s 104 (upd (s.2.1 104) (x7).toNatClampNeg (((s.2.1 104) (x7).toNatClampNeg) + (1 : Int32)))) k hX199
            · have k := k.2 c
              refine Ex.seg hq 1 (j := 101) (L' := [.ref 55, .int x1, .int x2, .int x3, .int x4, .int x5, .int x6, .int x7, .int ((s.2.1 104) (x7).toNatClampNeg), .int ((s.2.1 72) (((s.2.1 104) (x7).toNatClampNeg)).toNatClampNeg), pu, pu]) (S' := [.int x7]) (h' := hpS (sA s 104 (upd (s.2.1 104) (x7).toNatClampNeg (((s.2.1 104) (x7).toNatClampNeg) + (1 : Int32))))) rfl ?_
              refine Ex.i1 hq rfl (fun c => ?_) (fun c => ?_)
              · have k := k.1 c
                refine Ex.seg hq 4 (j := 127) (L' := [.ref 55, .int x1, .int x2, .int x3, .int x4, .int x5, .int x6, .int x7, .int ((s.2.1 104) (x7).toNatClampNeg), .int ((s.2.1 72) (((s.2.1 104) (x7).toNatClampNeg)).toNatClampNeg), pu, pu]) (S' := [.int ((s.2.1 72) (((s.2.1 104) (x7).toNatClampNeg)).toNatClampNeg), .int x7, .ref 103]) (h' := hpS (sA s 104 (upd (s.2.1 104) (x7).toNatClampNeg (((s.2.1 104) (x7).toNatClampNeg) + (1 : Int32))))) rfl ?_
                obtain ⟨hin, k⟩ := k
                refine Ex.ias hq rfl rfl hin (h' := hpS (sA (sA s 104 (upd (s.2.1 104) (x7).toNatClampNeg (((s.2.1 104) (x7).toNatClampNeg) + (1 : Int32)))) 103 (upd (s.2.1 103) (x7).toNatClampNeg ((s.2.1 72) (((s.2.1 104) (x7).toNatClampNeg)).toNatClampNeg)))) (hset_103 _ _) ?_
                refine Ex.seg hq 4 (j := 132) (L' := [.ref 55, .int x1, .int x2, .int x3, .int x4, .int x5, .int x6, .int x7, .int ((s.2.1 104) (x7).toNatClampNeg), .int ((s.2.1 72) (((s.2.1 104) (x7).toNatClampNeg)).toNatClampNeg), pu, pu]) (S' := [.int x5, .int (x7 + (1 : Int32))]) (h' := hpS (sA (sA s 104 (upd (s.2.1 104) (x7).toNatClampNeg (((s.2.1 104) (x7).toNatClampNeg) + (1 : Int32)))) 103 (upd (s.2.1 103) (x7).toNatClampNeg ((s.2.1 72) (((s.2.1 104) (x7).toNatClampNeg)).toNatClampNeg)))) rfl ?_
                refine Ex.i2 hq rfl (fun c => ?_) (fun c => ?_)
                · have k := k.1 c
                  refine Ex.seg hq 4 (j := 149) (L' := [.ref 55, .int x1, .int x2, .int x3, .int x4, .int x5, .int x6, .int x7, .int ((s.2.1 104) (x7).toNatClampNeg), .int ((s.2.1 72) (((s.2.1 104) (x7).toNatClampNeg)).toNatClampNeg), .int (0 : Int32), .int (0 : Int32)]) (S' := []) (h' := hpS (sA (sA s 104 (upd (s.2.1 104) (x7).toNatClampNeg (((s.2.1 104) (x7).toNatClampNeg) + (1 : Int32)))) 103 (upd (s.2.1 103) (x7).toNatClampNeg ((s.2.1 72) (((s.2.1 104) (x7).toNatClampNeg)).toNatClampNeg)))) rfl ?_
                  obtain ⟨m, k⟩ := k
                  refine Ex.fg (L := [.ref 55, .int x1, .int x2, .int x3, .int x4, .int x5, .int x6, .int x7, pu, pu, .int (0 : Int32), .int (0 : Int32)]) ⟨Or.inl rfl, ⟨Or.inl rfl, ⟨Or.inl rfl, ⟨Or.inl rfl, ⟨Or.inl rfl, ⟨Or.inl rfl, ⟨Or.inl rfl, ⟨Or.inl rfl, ⟨Or.inr ⟨rfl, rfl⟩, ⟨Or.inr ⟨rfl, rfl⟩, ⟨Or.inl rfl, ⟨Or.inl rfl, trivial⟩⟩⟩⟩⟩⟩⟩⟩⟩⟩⟩⟩ ?_
                  refine q_255_L149 (d := d) m x1 x2 x3 x4 x5 x6 x7 (0 : Int32) (0 : Int32) (sA (sA s 104 (upd (s.2.1 104) (x7).toNatClampNeg (((s.2.1 104) (x7).toNatClampNeg) + (1 : Int32)))) 103 (upd (s.2.1 103) (x7).toNatClampNeg ((s.2.1 72) (((s.2.1 104) (x7).toNatClampNeg)).toNatClampNeg))) k ?_
                  · intro y1 y2 y3 y4 y5 y6 y7 y10 s19 k
                    refine Ex.seg hq 2 (j := 166) (L' := [.ref 55, .int y1, .int y2, .int y3, .int y4, .int y5, .int y6, .int y7, pu, pu, .int y10, pu]) (S' := [.int y3, .int y10]) (h' := hpS s19) rfl ?_
                    refine Ex.i2 hq rfl (fun c => ?_) (fun c => ?_)
                    · have k := k.1 c
                      refine Ex.seg hq 1 (j := 169) (L' := [.ref 55, .int y1, .int y2, .int y3, .int y4, .int y5, .int y6, .int y7, pu, pu, .int y10, pu]) (S' := [.int y6]) (h' := hpS s19) rfl ?_
                      refine Ex.i1 hq rfl (fun c => ?_) (fun c => ?_)
                      · have k := k.1 c
                        refine Ex.seg hq 2 (j := 176) (L' := [.ref 55, .int y1, .int y2, .int y3, .int y4, .int y5, .int y6, .int y7, pu, pu, .int y10, .int (0 : Int32)]) (S' := []) (h' := hpS s19) rfl ?_
                        obtain ⟨m, k⟩ := k
                        refine Ex.fg (L := [.ref 55, .int y1, .int y2, .int y3, .int y4, .int y5, .int y6, .int y7, pu, pu, pu, .int (0 : Int32)]) ⟨Or.inl rfl, ⟨Or.inl rfl, ⟨Or.inl rfl, ⟨Or.inl rfl, ⟨Or.inl rfl, ⟨Or.inl rfl, ⟨Or.inl rfl, ⟨Or.inl rfl, ⟨Or.inl rfl, ⟨Or.inl rfl, ⟨Or.inr ⟨rfl, rfl⟩, ⟨Or.inl rfl, trivial⟩⟩⟩⟩⟩⟩⟩⟩⟩⟩⟩⟩ ?_
                        refine q_255_L176 (d := d) m y1 y2 y3 y4 y5 y6 y7 (0 : Int32) s19 k ?_
                        · intro y1 y2 y3 y4 y5 y6 y7 s20 k
                          refine Ex.seg hq 2 (j := 191) (L' := [.ref 55, .int y1, .int y2, .int y3, .int y4, .int y5, .int y6, .int y7, pu, pu, pu, pu]) (S' := [.int (100000 : Int32), .int y6]) (h' := hpS s20) rfl ?_
                          refine Ex.i2 hq rfl (fun c => ?_) (fun c => ?_)
                          · have k := k.1 c
                            refine Ex.seg hq 3 (j := 58) (L' := [.ref 55, .int y1, .int y2, .int y3, .int y4, .int y5, .int y6, .int y7, pu, pu, pu, pu]) (S' := []) (h' := hpS s20) rfl ?_
                            exact ih y1 y2 y3 y4 y5 y6 y7 s20 k hX199
                          · have k := k.2 c
                            refine Ex.seg hq 6 (j := 58) (L' := [.ref 55, .int y1, .int y2, .int y3, .int y4, .int y5, .int (y6 + (1 : Int32)), .int y7, pu, pu, pu, pu]) (S' := []) (h' := hpS s20) rfl ?_
                            exact ih y1 y2 y3 y4 y5 (y6 + (1 : Int32)) y7 s20 k hX199
                      · have k := k.2 c
                        refine Ex.seg hq 2 (j := 172) (L' := [.ref 55, .int y1, .int y2, .int y3, .int y4, .int y5, .int y6, .int y7, pu, pu, .int y10, pu]) (S' := [.int y5, .ref 55]) (h' := hpS s19) rfl ?_
                        refine Ex.cl hq rfl rfl ?_
                        refine Rn.mono (q_254 (d := d + 1) y5 s19 k) ?_
                        rintro _ _ ⟨r22, s21, rfl, hzr22, rfl, k⟩
                        show Ex sc (d + 2) 255 173 [.ref 55, .int y1, .int y2, .int y3, .int y4, .int y5, .int y6, .int y7, pu, pu, .int y10, pu] [.int r22] (hpS s21) _
                        refine Ex.i1 hq rfl (fun c => ?_) (fun c => ?_)
                        · have k := k.1 c
                          refine Ex.seg hq 2 (j := 191) (L' := [.ref 55, .int y1, .int y2, .int y3, .int y4, .int y5, .int y6, .int y7, pu, pu, .int y10, pu]) (S' := [.int (100000 : Int32), .int y6]) (h' := hpS s21) rfl ?_
                          refine Ex.i2 hq rfl (fun c => ?_) (fun c => ?_)
                          · have k := k.1 c
                            refine Ex.seg hq 3 (j := 58) (L' := [.ref 55, .int y1, .int y2, .int y3, .int y4, .int y5, .int y6, .int y7, pu, pu, .int y10, pu]) (S' := []) (h' := hpS s21) rfl ?_
                            refine Ex.fg (L := [.ref 55, .int y1, .int y2, .int y3, .int y4, .int y5, .int y6, .int y7, pu, pu, pu, pu]) ⟨Or.inl rfl, ⟨Or.inl rfl, ⟨Or.inl rfl, ⟨Or.inl rfl, ⟨Or.inl rfl, ⟨Or.inl rfl, ⟨Or.inl rfl, ⟨Or.inl rfl, ⟨Or.inl rfl, ⟨Or.inl rfl, ⟨Or.inr ⟨rfl, rfl⟩, ⟨Or.inl rfl, trivial⟩⟩⟩⟩⟩⟩⟩⟩⟩⟩⟩⟩ ?_
                            exact ih y1 y2 y3 y4 y5 y6 y7 s21 k hX199
                          · have k := k.2 c
                            refine Ex.seg hq 6 (j := 58) (L' := [.ref 55, .int y1, .int y2, .int y3, .int y4, .int y5, .int (y6 + (1 : Int32)), .int y7, pu, pu, .int y10, pu]) (S' := []) (h' := hpS s21) rfl ?_
                            refine Ex.fg (L := [.ref 55, .int y1, .int y2, .int y3, .int y4, .int y5, .int (y6 + (1 : Int32)), .int y7, pu, pu, pu, pu]) ⟨Or.inl rfl, ⟨Or.inl rfl, ⟨Or.inl rfl, ⟨Or.inl rfl, ⟨Or.inl rfl, ⟨Or.inl rfl, ⟨Or.inl rfl, ⟨Or.inl rfl, ⟨Or.inl rfl, ⟨Or.inl rfl, ⟨Or.inr ⟨rfl, rfl⟩, ⟨Or.inl rfl, trivial⟩⟩⟩⟩⟩⟩⟩⟩⟩⟩⟩⟩ ?_
                            exact ih y1 y2 y3 y4 y5 (y6 + (1 : Int32)) y7 s21 k hX199
                        · have k := k.2 c
                          refine Ex.seg hq 2 (j := 176) (L' := [.ref 55, .int y1, .int y2, .int y3, .int y4, .int y5, .int y6, .int y7, pu, pu, .int y10, .int (0 : Int32)]) (S' := []) (h' := hpS s21) rfl ?_
                          obtain ⟨m, k⟩ := k
                          refine Ex.fg (L := [.ref 55, .int y1, .int y2, .int y3, .int y4, .int y5, .int y6, .int y7, pu, pu, pu, .int (0 : Int32)]) ⟨Or.inl rfl, ⟨Or.inl rfl, ⟨Or.inl rfl, ⟨Or.inl rfl, ⟨Or.inl rfl, ⟨Or.inl rfl, ⟨Or.inl rfl, ⟨Or.inl rfl, ⟨Or.inl rfl, ⟨Or.inl rfl, ⟨Or.inr ⟨rfl, rfl⟩, ⟨Or.inl rfl, trivial⟩⟩⟩⟩⟩⟩⟩⟩⟩⟩⟩⟩ ?_
                          refine q_255_L176 (d := d) m y1 y2 y3 y4 y5 y6 y7 (0 : Int32) s21 k ?_
                          · intro y1 y2 y3 y4 y5 y6 y7 s23 k
                            refine Ex.seg hq 2 (j := 191) (L' := [.ref 55, .int y1, .int y2, .int y3, .int y4, .int y5, .int y6, .int y7, pu, pu, pu, pu]) (S' := [.int (100000 : Int32), .int y6]) (h' := hpS s23) rfl ?_
                            refine Ex.i2 hq rfl (fun c => ?_) (fun c => ?_)
                            · have k := k.1 c
                              refine Ex.seg hq 3 (j := 58) (L' := [.ref 55, .int y1, .int y2, .int y3, .int y4, .int y5, .int y6, .int y7, pu, pu, pu, pu]) (S' := []) (h' := hpS s23) rfl ?_
                              exact ih y1 y2 y3 y4 y5 y6 y7 s23 k hX199
                            · have k := k.2 c
                              refine Ex.seg hq 6 (j := 58) (L' := [.ref 55, .int y1, .int y2, .int y3, .int y4, .int y5, .int (y6 + (1 : Int32)), .int y7, pu, pu, pu, pu]) (S' := []) (h' := hpS s23) rfl ?_
                              exact ih y1 y2 y3 y4 y5 (y6 + (1 : Int32)) y7 s23 k hX199
                    · have k := k.2 c
                      refine Ex.seg hq 1 (j := 58) (L' := [.ref 55, .int y1, .int y2, .int y3, .int y4, .int y5, .int y6, .int y7, pu, pu, .int y10, pu]) (S' := []) (h' := hpS s19) rfl ?_
                      refine Ex.fg (L := [.ref 55, .int y1, .int y2, .int y3, .int y4, .int y5, .int y6, .int y7, pu, pu, pu, pu]) ⟨Or.inl rfl, ⟨Or.inl rfl, ⟨Or.inl rfl, ⟨Or.inl rfl, ⟨Or.inl rfl, ⟨Or.inl rfl, ⟨Or.inl rfl, ⟨Or.inl rfl, ⟨Or.inl rfl, ⟨Or.inl rfl, ⟨Or.inr ⟨rfl, rfl⟩, ⟨Or.inl rfl, trivial⟩⟩⟩⟩⟩⟩⟩⟩⟩⟩⟩⟩ ?_
                      exact ih y1 y2 y3 y4 y5 y6 y7 s19 k hX199
                · have k := k.2 c
                  refine Ex.seg hq 10 (j := 143) (L' := [.ref 55, .int x1, .int x2, .int x3, .int x4, .int x5, .int x6, .int (x7 + (1 : Int32)), .int ((s.2.1 104) (x7).toNatClampNeg), .int ((s.2.1 72) (((s.2.1 104) (x7).toNatClampNeg)).toNatClampNeg), pu, pu]) (S' := [.int (((s.2.1 104) (x7).toNatClampNeg) + (1 : Int32)), .int (x7 + (1 : Int32)), .ref 104]) (h' := hpS (sA (sA s 104 (upd (s.2.1 104) (x7).toNatClampNeg (((s.2.1 104) (x7).toNatClampNeg) + (1 : Int32)))) 103 (upd (s.2.1 103) (x7).toNatClampNeg ((s.2.1 72) (((s.2.1 104) (x7).toNatClampNeg)).toNatClampNeg)))) rfl ?_
                  obtain ⟨hin, k⟩ := k
                  refine Ex.ias hq rfl rfl hin (h' := hpS (sA (sA s 103 (upd (s.2.1 103) (x7).toNatClampNeg ((s.2.1 72) (((s.2.1 104) (x7).toNatClampNeg)).toNatClampNeg))) 104 (upd (upd (s.2.1 104) (x7).toNatClampNeg (((s.2.1 104) (x7).toNatClampNeg) + (1 : Int32))) ((x7 + (1 : Int32))).toNatClampNeg (((s.2.1 104) (x7).toNatClampNeg) + (1 : Int32))))) (hset_104 _ _) ?_
                  refine Ex.seg hq 1 (j := 58) (L' := [.ref 55, .int x1, .int x2, .int x3, .int x4, .int x5, .int x6, .int (x7 + (1 : Int32)), .int ((s.2.1 104) (x7).toNatClampNeg), .int ((s.2.1 72) (((s.2.1 104) (x7).toNatClampNeg)).toNatClampNeg), pu, pu]) (S' := []) (h' := hpS (sA (sA s 103 (upd (s.2.1 103) (x7).toNatClampNeg ((s.2.1 72) (((s.2.1 104) (x7).toNatClampNeg)).toNatClampNeg))) 104 (upd (upd (s.2.1 104) (x7).toNatClampNeg (((s.2.1 104) (x7).toNatClampNeg) + (1 : Int32))) ((x7 + (1 : Int32))).toNatClampNeg (((s.2.1 104) (x7).toNatClampNeg) + (1 : Int32))))) rfl ?_
                  refine Ex.fg (L := [.ref 55, .int x1, .int x2, .int x3, .int x4, .int x5, .int x6, .int (x7 + (1 : Int32)), pu, pu, pu, pu]) ⟨Or.inl rfl, ⟨Or.inl rfl, ⟨Or.inl rfl, ⟨Or.inl rfl, ⟨Or.inl rfl, ⟨Or.inl rfl, ⟨Or.inl rfl, ⟨Or.inl rfl, ⟨Or.inr ⟨rfl, rfl⟩, ⟨Or.inr ⟨rfl, rfl⟩, ⟨Or.inl rfl, ⟨Or.inl rfl, trivial⟩⟩⟩⟩⟩⟩⟩⟩⟩⟩⟩⟩ ?_
                  exact ih x1 x2 x3 x4 x5 x6 (x7 + (1 : Int32)) (sA (sA s 103 (upd (s.2.1 103) (x7).toNatClampNeg ((s.2.1 72) (((s.2.1 104) (x7).toNatClampNeg)).toNatClampNeg))) 104 (upd (upd (s.2.1 104) (x7).toNatClampNeg (((s.2.1 104) (x7).toNatClampNeg) + (1 : Int32))) ((x7 + (1 : Int32))).toNatClampNeg (((s.2.1 104) (x7).toNatClampNeg) + (1 : Int32)))) k hX199
              · have k := k.2 c
                refine Ex.seg hq 3 (j := 105) (L' := [.ref 55, .int x1, .int x2, .int x3, .int x4, .int x5, .int x6, .int x7, .int ((s.2.1 104) (x7).toNatClampNeg), .int ((s.2.1 72) (((s.2.1 104) (x7).toNatClampNeg)).toNatClampNeg), pu, pu]) (S' := [.int ((s.2.1 72) (((s.2.1 104) (x7).toNatClampNeg)).toNatClampNeg), .ref 60]) (h' := hpS (sA s 104 (upd (s.2.1 104) (x7).toNatClampNeg (((s.2.1 104) (x7).toNatClampNeg) + (1 : Int32))))) rfl ?_
                obtain ⟨hin, k⟩ := k
                refine Ex.ial hq rfl rfl hin ?_
                refine Ex.seg hq 5 (j := 111) (L' := [.ref 55, .int x1, .int x2, .int x3, .int x4, .int x5, .int x6, .int x7, .int ((s.2.1 104) (x7).toNatClampNeg), .int ((s.2.1 72) (((s.2.1 104) (x7).toNatClampNeg)).toNatClampNeg), pu, pu]) (S' := [.int (0 : Int32), .ref 103, .ref 60, .int ((s.2.1 60) (((s.2.1 72) (((s.2.1 104) (x7).toNatClampNeg)).toNatClampNeg)).toNatClampNeg)]) (h' := hpS (sA s 104 (upd (s.2.1 104) (x7).toNatClampNeg (((s.2.1 104) (x7).toNatClampNeg) + (1 : Int32))))) rfl ?_
                obtain ⟨hin, k⟩ := k
                refine Ex.ial hq rfl rfl hin ?_
                obtain ⟨hin, k⟩ := k
                refine Ex.ial hq rfl rfl hin ?_
                refine Ex.seg hq 2 (j := 115) (L' := [.ref 55, .int x1, .int x2, .int x3, .int x4, .int x5, .int x6, .int x7, .int ((s.2.1 104) (x7).toNatClampNeg), .int ((s.2.1 72) (((s.2.1 104) (x7).toNatClampNeg)).toNatClampNeg), pu, pu]) (S' := [.int x2, .int (((s.2.1 60) (((s.2.1 72) (((s.2.1 104) (x7).toNatClampNeg)).toNatClampNeg)).toNatClampNeg) - ((s.2.1 60) (((s.2.1 103) ((0 : Int32)).toNatClampNeg)).toNatClampNeg))]) (h' := hpS (sA s 104 (upd (s.2.1 104) (x7).toNatClampNeg (((s.2.1 104) (x7).toNatClampNeg) + (1 : Int32))))) rfl ?_
                refine Ex.i2 hq rfl (fun c => ?_) (fun c => ?_)
                · have k := k.1 c
                  refine Ex.fg (L := [.ref 55, .int x1, .int x2, .int x3, .int x4, .int x5, .int x6, .int x7, pu, pu, pu, pu]) ⟨Or.inl rfl, ⟨Or.inl rfl, ⟨Or.inl rfl, ⟨Or.inl rfl, ⟨Or.inl rfl, ⟨Or.inl rfl, ⟨Or.inl rfl, ⟨Or.inl rfl, ⟨Or.inr ⟨rfl, rfl⟩, ⟨Or.inr ⟨rfl, rfl⟩, ⟨Or.inl rfl, ⟨Or.inl rfl, trivial⟩⟩⟩⟩⟩⟩⟩⟩⟩⟩⟩⟩ ?_
                  exact ih x1 x2 x3 x4 x5 x6 x7 (sA s 104 (upd (s.2.1 104) (x7).toNatClampNeg (((s.2.1 104) (x7).toNatClampNeg) + (1 : Int32)))) k hX199
                · have k := k.2 c
                  refine Ex.seg hq 4 (j := 120) (L' := [.ref 55, .int x1, .int x2, .int x3, .int x4, .int x5, .int x6, .int x7, .int ((s.2.1 104) (x7).toNatClampNeg), .int ((s.2.1 72) (((s.2.1 104) (x7).toNatClampNeg)).toNatClampNeg), pu, pu]) (S' := [.int ((s.2.1 72) (((s.2.1 104) (x7).toNatClampNeg)).toNatClampNeg), .int x7, .int x1, .ref 55]) (h' := hpS (sA s 104 (upd (s.2.1 104) (x7).toNatClampNeg (((s.2.1 104) (x7).toNatClampNeg) + (1 : Int32))))) rfl ?_
                  refine Ex.cl hq rfl rfl ?_
                  refine Rn.mono (q_253 (d := d + 0) x1 x7 ((s.2.1 72) (((s.2.1 104) (x7).toNatClampNeg)).toNatClampNeg) (sA s 104 (upd (s.2.1 104) (x7).toNatClampNeg (((s.2.1 104) (x7).toNatClampNeg) + (1 : Int32)))) k) ?_
                  rintro _ _ ⟨r25, s24, rfl, hzr25, rfl, k⟩
                  show Ex sc (d + 2) 255 121 [.ref 55, .int x1, .int x2, .int x3, .int x4, .int x5, .int x6, .int x7, .int ((s.2.1 104) (x7).toNatClampNeg), .int ((s.2.1 72) (((s.2.1 104) (x7).toNatClampNeg)).toNatClampNeg), pu, pu] [.int r25] (hpS s24) _
                  refine Ex.i1 hq rfl (fun c => ?_) (fun c => ?_)
                  · have k := k.1 c
                    refine Ex.seg hq 4 (j := 127) (L' := [.ref 55, .int x1, .int x2, .int x3, .int x4, .int x5, .int x6, .int x7, .int ((s.2.1 104) (x7).toNatClampNeg), .int ((s.2.1 72) (((s.2.1 104) (x7).toNatClampNeg)).toNatClampNeg), pu, pu]) (S' := [.int ((s.2.1 72) (((s.2.1 104) (x7).toNatClampNeg)).toNatClampNeg), .int x7, .ref 103]) (h' := hpS s24) rfl ?_
                    obtain ⟨hin, k⟩ := k
                    refine Ex.ias hq rfl rfl hin (h' := hpS (sA s24 103 (upd (s24.2.1 103) (x7).toNatClampNeg ((s.2.1 72) (((s.2.1 104) (x7).toNatClampNeg)).toNatClampNeg)))) (hset_103 _ _) ?_
                    refine Ex.seg hq 4 (j := 132) (L' := [.ref 55, .int x1, .int x2, .int x3, .int x4, .int x5, .int x6, .int x7, .int ((s.2.1 104) (x7).toNatClampNeg), .int ((s.2.1 72) (((s.2.1 104) (x7).toNatClampNeg)).toNatClampNeg), pu, pu]) (S' := [.int x5, .int (x7 + (1 : Int32))]) (h' := hpS (sA s24 103 (upd (s24.2.1 103) (x7).toNatClampNeg ((s.2.1 72) (((s.2.1 104) (x7).toNatClampNeg)).toNatClampNeg)))) rfl ?_
                    refine Ex.i2 hq rfl (fun c => ?_) (fun c => ?_)
                    · have k := k.1 c
                      refine Ex.seg hq 4 (j := 149) (L' := [.ref 55, .int x1, .int x2, .int x3, .int x4, .int x5, .int x6, .int x7, .int ((s.2.1 104) (x7).toNatClampNeg), .int ((s.2.1 72) (((s.2.1 104) (x7).toNatClampNeg)).toNatClampNeg), .int (0 : Int32), .int (0 : Int32)]) (S' := []) (h' := hpS (sA s24 103 (upd (s24.2.1 103) (x7).toNatClampNeg ((s.2.1 72) (((s.2.1 104) (x7).toNatClampNeg)).toNatClampNeg)))) rfl ?_
                      obtain ⟨m, k⟩ := k
                      refine Ex.fg (L := [.ref 55, .int x1, .int x2, .int x3, .int x4, .int x5, .int x6, .int x7, pu, pu, .int (0 : Int32), .int (0 : Int32)]) ⟨Or.inl rfl, ⟨Or.inl rfl, ⟨Or.inl rfl, ⟨Or.inl rfl, ⟨Or.inl rfl, ⟨Or.inl rfl, ⟨Or.inl rfl, ⟨Or.inl rfl, ⟨Or.inr ⟨rfl, rfl⟩, ⟨Or.inr ⟨rfl, rfl⟩, ⟨Or.inl rfl, ⟨Or.inl rfl, trivial⟩⟩⟩⟩⟩⟩⟩⟩⟩⟩⟩⟩ ?_
                      refine q_255_L149 (d := d) m x1 x2 x3 x4 x5 x6 x7 (0 : Int32) (0 : Int32) (sA s24 103 (upd (s24.2.1 103) (x7).toNatClampNeg ((s.2.1 72) (((s.2.1 104) (x7).toNatClampNeg)).toNatClampNeg))) k ?_
                      · intro y1 y2 y3 y4 y5 y6 y7 y10 s26 k
                        refine Ex.seg hq 2 (j := 166) (L' := [.ref 55, .int y1, .int y2, .int y3, .int y4, .int y5, .int y6, .int y7, pu, pu, .int y10, pu]) (S' := [.int y3, .int y10]) (h' := hpS s26) rfl ?_
                        refine Ex.i2 hq rfl (fun c => ?_) (fun c => ?_)
                        · have k := k.1 c
                          refine Ex.seg hq 1 (j := 169) (L' := [.ref 55, .int y1, .int y2, .int y3, .int y4, .int y5, .int y6, .int y7, pu, pu, .int y10, pu]) (S' := [.int y6]) (h' := hpS s26) rfl ?_
                          refine Ex.i1 hq rfl (fun c => ?_) (fun c => ?_)
                          · have k := k.1 c
                            refine Ex.seg hq 2 (j := 176) (L' := [.ref 55, .int y1, .int y2, .int y3, .int y4, .int y5, .int y6, .int y7, pu, pu, .int y10, .int (0 : Int32)]) (S' := []) (h' := hpS s26) rfl ?_
                            obtain ⟨m, k⟩ := k
                            refine Ex.fg (L := [.ref 55, .int y1, .int y2, .int y3, .int y4, .int y5, .int y6, .int y7, pu, pu, pu, .int (0 : Int32)]) ⟨Or.inl rfl, ⟨Or.inl rfl, ⟨Or.inl rfl, ⟨Or.inl rfl, ⟨Or.inl rfl, ⟨Or.inl rfl, ⟨Or.inl rfl, ⟨Or.inl rfl, ⟨Or.inl rfl, ⟨Or.inl rfl, ⟨Or.inr ⟨rfl, rfl⟩, ⟨Or.inl rfl, trivial⟩⟩⟩⟩⟩⟩⟩⟩⟩⟩⟩⟩ ?_
                            refine q_255_L176 (d := d) m y1 y2 y3 y4 y5 y6 y7 (0 : Int32) s26 k ?_
                            · intro y1 y2 y3 y4 y5 y6 y7 s27 k
                              refine Ex.seg hq 2 (j := 191) (L' := [.ref 55, .int y1, .int y2, .int y3, .int y4, .int y5, .int y6, .int y7, pu, pu, pu, pu]) (S' := [.int (100000 : Int32), .int y6]) (h' := hpS s27) rfl ?_
                              refine Ex.i2 hq rfl (fun c => ?_) (fun c => ?_)
                              · have k := k.1 c
                                refine Ex.seg hq 3 (j := 58) (L' := [.ref 55, .int y1, .int y2, .int y3, .int y4, .int y5, .int y6, .int y7, pu, pu, pu, pu]) (S' := []) (h' := hpS s27) rfl ?_
                                exact ih y1 y2 y3 y4 y5 y6 y7 s27 k hX199
                              · have k := k.2 c
                                refine Ex.seg hq 6 (j := 58) (L' := [.ref 55, .int y1, .int y2, .int y3, .int y4, .int y5, .int (y6 + (1 : Int32)), .int y7, pu, pu, pu, pu]) (S' := []) (h' := hpS s27) rfl ?_
                                exact ih y1 y2 y3 y4 y5 (y6 + (1 : Int32)) y7 s27 k hX199
                          · have k := k.2 c
                            refine Ex.seg hq 2 (j := 172) (L' := [.ref 55, .int y1, .int y2, .int y3, .int y4, .int y5, .int y6, .int y7, pu, pu, .int y10, pu]) (S' := [.int y5, .ref 55]) (h' := hpS s26) rfl ?_
                            refine Ex.cl hq rfl rfl ?_
                            refine Rn.mono (q_254 (d := d + 1) y5 s26 k) ?_
                            rintro _ _ ⟨r29, s28, rfl, hzr29, rfl, k⟩
                            show Ex sc (d + 2) 255 173 [.ref 55, .int y1, .int y2, .int y3, .int y4, .int y5, .int y6, .int y7, pu, pu, .int y10, pu] [.int r29] (hpS s28) _
                            refine Ex.i1 hq rfl (fun c => ?_) (fun c => ?_)
                            · have k := k.1 c
                              refine Ex.seg hq 2 (j := 191) (L' := [.ref 55, .int y1, .int y2, .int y3, .int y4, .int y5, .int y6, .int y7, pu, pu, .int y10, pu]) (S' := [.int (100000 : Int32), .int y6]) (h' := hpS s28) rfl ?_
                              refine Ex.i2 hq rfl (fun c => ?_) (fun c => ?_)
                              · have k := k.1 c
                                refine Ex.seg hq 3 (j := 58) (L' := [.ref 55, .int y1, .int y2, .int y3, .int y4, .int y5, .int y6, .int y7, pu, pu, .int y10, pu]) (S' := []) (h' := hpS s28) rfl ?_
                                refine Ex.fg (L := [.ref 55, .int y1, .int y2, .int y3, .int y4, .int y5, .int y6, .int y7, pu, pu, pu, pu]) ⟨Or.inl rfl, ⟨Or.inl rfl, ⟨Or.inl rfl, ⟨Or.inl rfl, ⟨Or.inl rfl, ⟨Or.inl rfl, ⟨Or.inl rfl, ⟨Or.inl rfl, ⟨Or.inl rfl, ⟨Or.inl rfl, ⟨Or.inr ⟨rfl, rfl⟩, ⟨Or.inl rfl, trivial⟩⟩⟩⟩⟩⟩⟩⟩⟩⟩⟩⟩ ?_
                                exact ih y1 y2 y3 y4 y5 y6 y7 s28 k hX199
                              · have k := k.2 c
                                refine Ex.seg hq 6 (j := 58) (L' := [.ref 55, .int y1, .int y2, .int y3, .int y4, .int y5, .int (y6 + (1 : Int32)), .int y7, pu, pu, .int y10, pu]) (S' := []) (h' := hpS s28) rfl ?_
                                refine Ex.fg (L := [.ref 55, .int y1, .int y2, .int y3, .int y4, .int y5, .int (y6 + (1 : Int32)), .int y7, pu, pu, pu, pu]) ⟨Or.inl rfl, ⟨Or.inl rfl, ⟨Or.inl rfl, ⟨Or.inl rfl, ⟨Or.inl rfl, ⟨Or.inl rfl, ⟨Or.inl rfl, ⟨Or.inl rfl, ⟨Or.inl rfl, ⟨Or.inl rfl, ⟨Or.inr ⟨rfl, rfl⟩, ⟨Or.inl rfl, trivial⟩⟩⟩⟩⟩⟩⟩⟩⟩⟩⟩⟩ ?_
                                exact ih y1 y2 y3 y4 y5 (y6 + (1 : Int32)) y7 s28 k hX199
                            · have k := k.2 c
                              refine Ex.seg hq 2 (j := 176) (L' := [.ref 55, .int y1, .int y2, .int y3, .int y4, .int y5, .int y6, .int y7, pu, pu, .int y10, .int (0 : Int32)]) (S' := []) (h' := hpS s28) rfl ?_
                              obtain ⟨m, k⟩ := k
                              refine Ex.fg (L := [.ref 55, .int y1, .int y2, .int y3, .int y4, .int y5, .int y6, .int y7, pu, pu, pu, .int (0 : Int32)]) ⟨Or.inl rfl, ⟨Or.inl rfl, ⟨Or.inl rfl, ⟨Or.inl rfl, ⟨Or.inl rfl, ⟨Or.inl rfl, ⟨Or.inl rfl, ⟨Or.inl rfl, ⟨Or.inl rfl, ⟨Or.inl rfl, ⟨Or.inr ⟨rfl, rfl⟩, ⟨Or.inl rfl, trivial⟩⟩⟩⟩⟩⟩⟩⟩⟩⟩⟩⟩ ?_
                              refine q_255_L176 (d := d) m y1 y2 y3 y4 y5 y6 y7 (0 : Int32) s28 k ?_
                              · intro y1 y2 y3 y4 y5 y6 y7 s30 k
                                refine Ex.seg hq 2 (j := 191) (L' := [.ref 55, .int y1, .int y2, .int y3, .int y4, .int y5, .int y6, .int y7, pu, pu, pu, pu]) (S' := [.int (100000 : Int32), .int y6]) (h' := hpS s30) rfl ?_
                                refine Ex.i2 hq rfl (fun c => ?_) (fun c => ?_)
                                · have k := k.1 c
                                  refine Ex.seg hq 3 (j := 58) (L' := [.ref 55, .int y1, .int y2, .int y3, .int y4, .int y5, .int y6, .int y7, pu, pu, pu, pu]) (S' := []) (h' := hpS s30) rfl ?_
                                  exact ih y1 y2 y3 y4 y5 y6 y7 s30 k hX199
                                · have k := k.2 c
                                  refine Ex.seg hq 6 (j := 58) (L' := [.ref 55, .int y1, .int y2, .int y3, .int y4, .int y5, .int (y6 + (1 : Int32)), .int y7, pu, pu, pu, pu]) (S' := []) (h' := hpS s30) rfl ?_
                                  exact ih y1 y2 y3 y4 y5 (y6 + (1 : Int32)) y7 s30 k hX199
                        · have k := k.2 c
                          refine Ex.seg hq 1 (j := 58) (L' := [.ref 55, .int y1, .int y2, .int y3, .int y4, .int y5, .int y6, .int y7, pu, pu, .int y10, pu]) (S' := []) (h' := hpS s26) rfl ?_
                          refine Ex.fg (L := [.ref 55, .int y1, .int y2, .int y3, .int y4, .int y5, .int y6, .int y7, pu, pu, pu, pu]) ⟨Or.inl rfl, ⟨Or.inl rfl, ⟨Or.inl rfl, ⟨Or.inl rfl, ⟨Or.inl rfl, ⟨Or.inl rfl, ⟨Or.inl rfl, ⟨Or.inl rfl, ⟨Or.inl rfl, ⟨Or.inl rfl, ⟨Or.inr ⟨rfl, rfl⟩, ⟨Or.inl rfl, trivial⟩⟩⟩⟩⟩⟩⟩⟩⟩⟩⟩⟩ ?_
                          exact ih y1 y2 y3 y4 y5 y6 y7 s26 k hX199
                    · have k := k.2 c
                      refine Ex.seg hq 10 (j := 143) (L' := [.ref 55, .int x1, .int x2, .int x3, .int x4, .int x5, .int x6, .int (x7 + (1 : Int32)), .int ((s.2.1 104) (x7).toNatClampNeg), .int ((s.2.1 72) (((s.2.1 104) (x7).toNatClampNeg)).toNatClampNeg), pu, pu]) (S' := [.int (((s.2.1 104) (x7).toNatClampNeg) + (1 : Int32)), .int (x7 + (1 : Int32)), .ref 104]) (h' := hpS (sA s24 103 (upd (s24.2.1 103) (x7).toNatClampNeg ((s.2.1 72) (((s.2.1 104) (x7).toNatClampNeg)).toNatClampNeg)))) rfl ?_
                      obtain ⟨hin, k⟩ := k
                      refine Ex.ias hq rfl rfl hin (h' := hpS (sA (sA s24 103 (upd (s24.2.1 103) (x7).toNatClampNeg ((s.2.1 72) (((s.2.1 104) (x7).toNatClampNeg)).toNatClampNeg))) 104 (upd (s24.2.1 104) ((x7 + (1 : Int32))).toNatClampNeg (((s.2.1 104) (x7).toNatClampNeg) + (1 : Int32))))) (hset_104 _ _) ?_
                      refine Ex.seg hq 1 (j := 58) (L' := [.ref 55, .int x1, .int x2, .int x3, .int x4, .int x5, .int x6, .int (x7 + (1 : Int32)), .int ((s.2.1 104) (x7).toNatClampNeg), .int ((s.2.1 72) (((s.2.1 104) (x7).toNatClampNeg)).toNatClampNeg), pu, pu]) (S' := []) (h' := hpS (sA (sA s24 103 (upd (s24.2.1 103) (x7).toNatClampNeg ((s.2.1 72) (((s.2.1 104) (x7).toNatClampNeg)).toNatClampNeg))) 104 (upd (s24.2.1 104) ((x7 + (1 : Int32))).toNatClampNeg (((s.2.1 104) (x7).toNatClampNeg) + (1 : Int32))))) rfl ?_
                      refine Ex.fg (L := [.ref 55, .int x1, .int x2, .int x3, .int x4, .int x5, .int x6, .int (x7 + (1 : Int32)), pu, pu, pu, pu]) ⟨Or.inl rfl, ⟨Or.inl rfl, ⟨Or.inl rfl, ⟨Or.inl rfl, ⟨Or.inl rfl, ⟨Or.inl rfl, ⟨Or.inl rfl, ⟨Or.inl rfl, ⟨Or.inr ⟨rfl, rfl⟩, ⟨Or.inr ⟨rfl, rfl⟩, ⟨Or.inl rfl, ⟨Or.inl rfl, trivial⟩⟩⟩⟩⟩⟩⟩⟩⟩⟩⟩⟩ ?_
                      exact ih x1 x2 x3 x4 x5 x6 (x7 + (1 : Int32)) (sA (sA s24 103 (upd (s24.2.1 103) (x7).toNatClampNeg ((s.2.1 72) (((s.2.1 104) (x7).toNatClampNeg)).toNatClampNeg))) 104 (upd (s24.2.1 104) ((x7 + (1 : Int32))).toNatClampNeg (((s.2.1 104) (x7).toNatClampNeg) + (1 : Int32)))) k hX199
                  · have k := k.2 c
                    refine Ex.seg hq 1 (j := 58) (L' := [.ref 55, .int x1, .int x2, .int x3, .int x4, .int x5, .int x6, .int x7, .int ((s.2.1 104) (x7).toNatClampNeg), .int ((s.2.1 72) (((s.2.1 104) (x7).toNatClampNeg)).toNatClampNeg), pu, pu]) (S' := []) (h' := hpS s24) rfl ?_
                    refine Ex.fg (L := [.ref 55, .int x1, .int x2, .int x3, .int x4, .int x5, .int x6, .int x7, pu, pu, pu, pu]) ⟨Or.inl rfl, ⟨Or.inl rfl, ⟨Or.inl rfl, ⟨Or.inl rfl, ⟨Or.inl rfl, ⟨Or.inl rfl, ⟨Or.inl rfl, ⟨Or.inl rfl, ⟨Or.inr ⟨rfl, rfl⟩, ⟨Or.inr ⟨rfl, rfl⟩, ⟨Or.inl rfl, ⟨Or.inl rfl, trivial⟩⟩⟩⟩⟩⟩⟩⟩⟩⟩⟩⟩ ?_
                    exact ih x1 x2 x3 x4 x5 x6 x7 s24 k hX199
          · have k := k.2 c
            refine Ex.seg hq 5 (j := 58) (L' := [.ref 55, .int x1, .int x2, .int x3, .int x4, .int x5, .int x6, .int (x7 - (1 : Int32)), .int ((s.2.1 104) (x7).toNatClampNeg), pu, pu, pu]) (S' := []) (h' := hpS (sA s 104 (upd (s.2.1 104) (x7).toNatClampNeg (((s.2.1 104) (x7).toNatClampNeg) + (1 : Int32))))) rfl ?_
            refine Ex.fg (L := [.ref 55, .int x1, .int x2, .int x3, .int x4, .int x5, .int x6, .int (x7 - (1 : Int32)), pu, pu, pu, pu]) ⟨Or.inl rfl, ⟨Or.inl rfl, ⟨Or.inl rfl, ⟨Or.inl rfl, ⟨Or.inl rfl, ⟨Or.inl rfl, ⟨Or.inl rfl, ⟨Or.inl rfl, ⟨Or.inr ⟨rfl, rfl⟩, ⟨Or.inl rfl, ⟨Or.inl rfl, ⟨Or.inl rfl, trivial⟩⟩⟩⟩⟩⟩⟩⟩⟩⟩⟩⟩ ?_
            exact ih x1 x2 x3 x4 x5 x6 (x7 - (1 : Int32)) (sA s 104 (upd (s.2.1 104) (x7).toNatClampNeg (((s.2.1 104) (x7).toNatClampNeg) + (1 : Int32)))) k hX199
/-- RowAuditorModel.fitsOf(IIIZ)I -/
def w_255 (p1 : Int32) (p2 : Int32) (p3 : Int32) (p4 : Int32) (s : ST) (K : Int32 → ST → Prop) : Prop := w_197 (s.1 5500) s (fun s1 => (pin ((20 : Int32) + p1) 26 = true ∧ (∃ m, w_255_L13 m p1 p2 p3 p4 ((s1.2.1 86) (((20 : Int32) + p1)).toNatClampNeg) (0 : Int32) s1 (fun y1 y2 y3 y4 y5 s6 => (pin (0 : Int32) 6 = true ∧ (∃ m, w_255_L58 m y1 y2 y3 y4 y5 (0 : Int32) (0 : Int32) (sA s6 104 (upd (s6.2.1 104) ((0 : Int32)).toNatClampNeg (0 : Int32))) (fun y6 s31 => K y6 s31) K))) K)))
theorem q_255 {d : Nat} {K : Int32 → ST → Prop} (p1 : Int32) (p2 : Int32) (p3 : Int32) (p4 : Int32) (s : ST) (k : w_255 p1 p2 p3 p4 s K) : Rn sc (d + 2) 255 [.ref 55, .int p1, .int p2, .int p3, .int p4] (hpS s) (kI K) := by
  have hq : prog[255]? = some pm255 := rfl
  refine Rn.of (L := [.ref 55, .int p1, .int p2, .int p3, .int p4, pu, pu, pu, pu, pu, pu, pu]) hq rfl rfl ?_
  unfold w_255 at k
  refine Ex.seg hq 3 (j := 3) (L' := [.ref 55, .int p1, .int p2, .int p3, .int p4, pu, pu, pu, pu, pu, pu, pu]) (S' := [.int (s.1 5500), .ref 55]) (h' := hpS s) rfl ?_
  refine Ex.cl hq rfl rfl ?_
  refine Rn.mono (q_197 (d := d + 0) (s.1 5500) s k) ?_
  rintro _ _ ⟨s1, rfl, rfl, k⟩
  show Ex sc (d + 2) 255 4 [.ref 55, .int p1, .int p2, .int p3, .int p4, pu, pu, pu, pu, pu, pu, pu] [] (hpS s1) _
  refine Ex.seg hq 5 (j := 9) (L' := [.ref 55, .int p1, .int p2, .int p3, .int p4, pu, pu, pu, pu, pu, pu, pu]) (S' := [.int ((20 : Int32) + p1), .ref 86]) (h' := hpS s1) rfl ?_
  obtain ⟨hin, k⟩ := k
  refine Ex.ial hq rfl rfl hin ?_
  refine Ex.seg hq 3 (j := 13) (L' := [.ref 55, .int p1, .int p2, .int p3, .int p4, .int ((s1.2.1 86) (((20 : Int32) + p1)).toNatClampNeg), .int (0 : Int32), pu, pu, pu, pu, pu]) (S' := []) (h' := hpS s1) rfl ?_
  obtain ⟨m, k⟩ := k
  refine q_255_L13 (d := d) m p1 p2 p3 p4 ((s1.2.1 86) (((20 : Int32) + p1)).toNatClampNeg) (0 : Int32) s1 k ?_
  · intro y1 y2 y3 y4 y5 s6 k
    refine Ex.seg hq 8 (j := 57) (L' := [.ref 55, .int y1, .int y2, .int y3, .int y4, .int y5, .int (0 : Int32), .int (0 : Int32), pu, pu, pu, pu]) (S' := [.int (0 : Int32), .int (0 : Int32), .ref 104]) (h' := hpS s6) rfl ?_
    obtain ⟨hin, k⟩ := k
    refine Ex.ias hq rfl rfl hin (h' := hpS (sA s6 104 (upd (s6.2.1 104) ((0 : Int32)).toNatClampNeg (0 : Int32)))) (hset_104 _ _) ?_
    obtain ⟨m, k⟩ := k
    refine q_255_L58 (d := d) m y1 y2 y3 y4 y5 (0 : Int32) (0 : Int32) (sA s6 104 (upd (s6.2.1 104) ((0 : Int32)).toNatClampNeg (0 : Int32))) k ?_
    · intro y6 s31 k
      refine Ex.seg hq 1 (j := 200) (L' := [pu, pu, pu, pu, pu, pu, .int y6, pu, pu, pu, pu, pu]) (S' := [.int y6]) (h' := hpS s31) rfl ?_
      exact Ex.rt hq rfl rfl ⟨y6, s31, rfl, rfl, k⟩
end WP
