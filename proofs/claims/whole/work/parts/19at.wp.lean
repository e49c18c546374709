/-! ===== weakest preconditions, printed by wip/whole/genwp.py ===== -/
section WP
variable {sc : Nat × (Nat → Int32)}
def w_224_L8 : Nat → Int32 → Int32 → ST → (Int32 → ST → Prop) → (ST → Prop) → Prop
  | 0, _, _, _, _, _ => False
  | n + 1, x1, x2, s, X26, K => (((s.1 5530) ≤ x2 → X26 x1 s) ∧ (¬ ((s.1 5530) ≤ x2) → (pin x2 180 = true ∧ (pin (((180 : Int32) * x1) + x2) 4680 = true ∧ w_224_L8 n x1 (x2 + (1 : Int32)) (sA s 83 (upd (s.2.1 83) ((((180 : Int32) * x1) + x2)).toNatClampNeg ((s.2.1 76) (x2).toNatClampNeg))) X26 K))))
theorem q_224_L8 {d : Nat} {X26 : Int32 → ST → Prop} {K : ST → Prop} : ∀ (n : Nat) (x1 : Int32) (x2 : Int32) (s : ST), w_224_L8 n x1 x2 s X26 K → (∀ (y1 : Int32) (s : ST), X26 y1 s → Ex sc (d + 0) 224 26 [.ref 55, .int y1, pu, pu] [] (hpS s) (kV K)) → Ex sc (d + 0) 224 8 [.ref 55, .int x1, .int x2, pu] [] (hpS s) (kV K) := by
  have hq : prog[224]? = some pm224 := rfl
  intro n
  induction n with
  | zero =>
    intro x1 x2 s k
    exact k.elim
  | succ n ih =>
    intro x1 x2 s k hX26
    rw [w_224_L8] at k
    refine Ex.seg hq 3 (j := 11) (L' := [.ref 55, .int x1, .int x2, pu]) (S' := [.int (s.1 5530), .int x2]) (h' := hpS s) rfl ?_
    refine Ex.i2 hq rfl (fun c => ?_) (fun c => ?_)
    · have k := k.1 c
      refine Ex.fg (L := [.ref 55, .int x1, pu, pu]) ⟨Or.inl rfl, ⟨Or.inl rfl, ⟨Or.inr ⟨rfl, rfl⟩, ⟨Or.inl rfl, trivial⟩⟩⟩⟩ ?_
      exact hX26 x1 s k
    · have k := k.2 c
      refine Ex.seg hq 10 (j := 22) (L' := [.ref 55, .int x1, .int x2, pu]) (S' := [.int x2, .ref 76, .int (((180 : Int32) * x1) + x2), .ref 83]) (h' := hpS s) rfl ?_
      obtain ⟨hin, k⟩ := k
      refine Ex.ial hq rfl rfl hin ?_
      obtain ⟨hin, k⟩ := k
      refine Ex.ias hq rfl rfl hin (h' := hpS (sA s 83 (upd (s.2.1 83) ((((180 : Int32) * x1) + x2)).toNatClampNeg ((s.2.1 76) (x2).toNatClampNeg)))) (hset_83 _ _) ?_
      refine Ex.seg hq 2 (j := 8) (L' := [.ref 55, .int x1, .int (x2 + (1 : Int32)), pu]) (S' := []) (h' := hpS (sA s 83 (upd (s.2.1 83) ((((180 : Int32) * x1) + x2)).toNatClampNeg ((s.2.1 76) (x2).toNatClampNeg)))) rfl ?_
      exact ih x1 (x2 + (1 : Int32)) (sA s 83 (upd (s.2.1 83) ((((180 : Int32) * x1) + x2)).toNatClampNeg ((s.2.1 76) (x2).toNatClampNeg))) k hX26
def w_224_L28 : Nat → Int32 → Int32 → ST → (ST → Prop) → (ST → Prop) → Prop
  | 0, _, _, _, _, _ => False
  | n + 1, x1, x2, s, X88, K => (((s.1 5532) ≤ x2 → X88  s) ∧ (¬ ((s.1 5532) ≤ x2) → (pin x2 10 = true ∧ (pin (((10 : Int32) * x1) + x2) 260 = true ∧ (pin x2 10 = true ∧ (pin (((10 : Int32) * x1) + x2) 260 = true ∧ (pin x2 10 = true ∧ (pin (((10 : Int32) * x1) + x2) 260 = true ∧ (pin x2 10 = true ∧ (pin (((10 : Int32) * x1) + x2) 260 = true ∧ (pin x2 10 = true ∧ (pin (((10 : Int32) * x1) + x2) 260 = true ∧ w_224_L28 n x1 (x2 + (1 : Int32)) (sA (sA (sA (sA (sA s 87 (upd (s.2.1 87) ((((10 : Int32) * x1) + x2)).toNatClampNeg ((s.2.1 78) (x2).toNatClampNeg))) 90 (upd (s.2.1 90) ((((10 : Int32) * x1) + x2)).toNatClampNeg ((s.2.1 81) (x2).toNatClampNeg))) 91 (upd (s.2.1 91) ((((10 : Int32) * x1) + x2)).toNatClampNeg ((s.2.1 82) (x2).toNatClampNeg))) 88 (upd (s.2.1 88) ((((10 : Int32) * x1) + x2)).toNatClampNeg (((180 : Int32) * x1) + ((s.2.1 79) (x2).toNatClampNeg)))) 89 (upd (s.2.1 89) ((((10 : Int32) * x1) + x2)).toNatClampNeg (((180 : Int32) * x1) + ((s.2.1 80) (x2).toNatClampNeg)))) X88 K))))))))))))
theorem q_224_L28 {d : Nat} {X88 : ST → Prop} {K : ST → Prop} : ∀ (n : Nat) (x1 : Int32) (x2 : Int32) (s : ST), w_224_L28 n x1 x2 s X88 K → (∀ (s : ST), X88  s → Ex sc (d + 0) 224 88 [pu, pu, pu, pu] [] (hpS s) (kV K)) → Ex sc (d + 0) 224 28 [.ref 55, .int x1, .int x2, pu] [] (hpS s) (kV K) := by
  have hq : prog[224]? = some pm224 := rfl
  intro n
  induction n with
  | zero =>
    intro x1 x2 s k
    exact k.elim
  | succ n ih =>
    intro x1 x2 s k hX88
    rw [w_224_L28] at k
    refine Ex.seg hq 3 (j := 31) (L' := [.ref 55, .int x1, .int x2, pu]) (S' := [.int (s.1 5532), .int x2]) (h' := hpS s) rfl ?_
    refine Ex.i2 hq rfl (fun c => ?_) (fun c => ?_)
    · have k := k.1 c
      refine Ex.fg (L := [pu, pu, pu, pu]) ⟨Or.inr ⟨rfl, rfl⟩, ⟨Or.inr ⟨rfl, rfl⟩, ⟨Or.inr ⟨rfl, rfl⟩, ⟨Or.inl rfl, trivial⟩⟩⟩⟩ ?_
      exact hX88  s k
    · have k := k.2 c
      refine Ex.seg hq 12 (j := 44) (L' := [.ref 55, .int x1, .int x2, .int (((10 : Int32) * x1) + x2)]) (S' := [.int x2, .ref 78, .int (((10 : Int32) * x1) + x2), .ref 87]) (h' := hpS s) rfl ?_
      obtain ⟨hin, k⟩ := k
      refine Ex.ial hq rfl rfl hin ?_
      obtain ⟨hin, k⟩ := k
      refine Ex.ias hq rfl rfl hin (h' := hpS (sA s 87 (upd (s.2.1 87) ((((10 : Int32) * x1) + x2)).toNatClampNeg ((s.2.1 78) (x2).toNatClampNeg)))) (hset_87 _ _) ?_
      refine Ex.seg hq 6 (j := 52) (L' := [.ref 55, .int x1, .int x2, .int (((10 : Int32) * x1) + x2)]) (S' := [.int x2, .ref 81, .int (((10 : Int32) * x1) + x2), .ref 90]) (h' := hpS (sA s 87 (upd (s.2.1 87) ((((10 : Int32) * x1) + x2)).toNatClampNeg ((s.2.1 78) (x2).toNatClampNeg)))) rfl ?_
      obtain ⟨hin, k⟩ := k
      refine Ex.ial hq rfl rfl hin ?_
      obtain ⟨hin, k⟩ := k
      refine Ex.ias hq rfl rfl hin (h' := hpS (sA (sA s 87 (upd (s.2.1 87) ((((10 : Int32) * x1) + x2)).toNatClampNeg ((s.2.1 78) (x2).toNatClampNeg))) 90 (upd (s.2.1 90) ((((10 : Int32) * x1) + x2)).toNatClampNeg ((s.2.1 81) (x2).toNatClampNeg)))) (hset_90 _ _) ?_
      refine Ex.seg hq 6 (j := 60) (L' := [.ref 55, .int x1, .int x2, .int (((10 : Int32) * x1) + x2)]) (S' := [.int x2, .ref 82, .int (((10 : Int32) * x1) + x2), .ref 91]) (h' := hpS (sA (sA s 87 (upd (s.2.1 87) ((((10 : Int32) * x1) + x2)).toNatClampNeg ((s.2.1 78) (x2).toNatClampNeg))) 90 (upd (s.2.1 90) ((((10 : Int32) * x1) + x2)).toNatClampNeg ((s.2.1 81) (x2).toNatClampNeg)))) rfl ?_
      obtain ⟨hin, k⟩ := k
      refine Ex.ial hq rfl rfl hin ?_
      obtain ⟨hin, k⟩ := k
      refine Ex.ias hq rfl rfl hin (h' := hpS (sA (sA (sA s 87 (upd (s.2.1 87) ((((10 : Int32) * x1) + x2)).toNatClampNeg ((s.2.1 78) (x2).toNatClampNeg))) 90 (upd (s.2.1 90) ((((10 : Int32) * x1) + x2)).toNatClampNeg ((s.2.1 81) (x2).toNatClampNeg))) 91 (upd (s.2.1 91) ((((10 : Int32) * x1) + x2)).toNatClampNeg ((s.2.1 82) (x2).toNatClampNeg)))) (hset_91 _ _) ?_
      refine Ex.seg hq 9 (j := 71) (L' := [.ref 55, .int x1, .int x2, .int (((10 : Int32) * x1) + x2)]) (S' := [.int x2, .ref 79, .int ((180 : Int32) * x1), .int (((10 : Int32) * x1) + x2), .ref 88]) (h' := hpS (sA (sA (sA s 87 (upd (s.2.1 87) ((((10 : Int32) * x1) + x2)).toNatClampNeg ((s.2.1 78) (x2).toNatClampNeg))) 90 (upd (s.2.1 90) ((((10 : Int32) * x1) + x2)).toNatClampNeg ((s.2.1 81) (x2).toNatClampNeg))) 91 (upd (s.2.1 91) ((((10 : Int32) * x1) + x2)).toNatClampNeg ((s.2.1 82) (x2).toNatClampNeg)))) rfl ?_
      obtain ⟨hin, k⟩ := k
      refine Ex.ial hq rfl rfl hin ?_
      refine Ex.seg hq 1 (j := 73) (L' := [.ref 55, .int x1, .int x2, .int (((10 : Int32) * x1) + x2)]) (S' := [.int (((180 : Int32) * x1) + ((s.2.1 79) (x2).toNatClampNeg)), .int (((10 : Int32) * x1) + x2), .ref 88]) (h' := hpS (sA (sA (sA s 87 (upd (s.2.1 87) ((((10 : Int32) * x1) + x2)).toNatClampNeg ((s.2.1 78) (x2).toNatClampNeg))) 90 (upd (s.2.1 90) ((((10 : Int32) * x1) + x2)).toNatClampNeg ((s.2.1 81) (x2).toNatClampNeg))) 91 (upd (s.2.1 91) ((((10 : Int32) * x1) + x2)).toNatClampNeg ((s.2.1 82) (x2).toNatClampNeg)))) rfl ?_
      obtain ⟨hin, k⟩ := k
      refine Ex.ias hq rfl rfl hin (h' := hpS (sA (sA (sA (sA s 87 (upd (s.2.1 87) ((((10 : Int32) * x1) + x2)).toNatClampNeg ((s.2.1 78) (x2).toNatClampNeg))) 90 (upd (s.2.1 90) ((((10 : Int32) * x1) + x2)).toNatClampNeg ((s.2.1 81) (x2).toNatClampNeg))) 91 (upd (s.2.1 91) ((((10 : Int32) * x1) + x2)).toNatClampNeg ((s.2.1 82) (x2).toNatClampNeg))) 88 (upd (s.2.1 88) ((((10 : Int32) * x1) + x2)).toNatClampNeg (((180 : Int32) * x1) + ((s.2.1 79) (x2).toNatClampNeg))))) (hset_88 _ _) ?_
      refine Ex.seg hq 9 (j := 83) (L' := [.ref 55, .int x1, .int x2, .int (((10 : Int32) * x1) + x2)]) (S' := [.int x2, .ref 80, .int ((180 : Int32) * x1), .int (((10 : Int32) * x1) + x2), .ref 89]) (h' := hpS (sA (sA (sA (sA s 87 (upd (s.2.1 87) ((((10 : Int32) * x1) + x2)).toNatClampNeg ((s.2.1 78) (x2).toNatClampNeg))) 90 (upd (s.2.1 90) ((((10 : Int32) * x1) + x2)).toNatClampNeg ((s.2.1 81) (x2).toNatClampNeg))) 91 (upd (s.2.1 91) ((((10 : Int32) * x1) + x2)).toNatClampNeg ((s.2.1 82) (x2).toNatClampNeg))) 88 (upd (s.2.1 88) ((((10 : Int32) * x1) + x2)).toNatClampNeg (((180 : Int32) * x1) + ((s.2.1 79) (x2).toNatClampNeg))))) rfl ?_
      obtain ⟨hin, k⟩ := k
      refine Ex.ial hq rfl rfl hin ?_
      refine Ex.seg hq 1 (j := 85) (L' := [.ref 55, .int x1, .int x2, .int (((10 : Int32) * x1) + x2)]) (S' := [.int (((180 : Int32) * x1) + ((s.2.1 80) (x2).toNatClampNeg)), .int (((10 : Int32) * x1) + x2), .ref 89]) (h' := hpS (sA (sA (sA (sA s 87 (upd (s.2.1 87) ((((10 : Int32) * x1) + x2)).toNatClampNeg ((s.2.1 78) (x2).toNatClampNeg))) 90 (upd (s.2.1 90) ((((10 : Int32) * x1) + x2)).toNatClampNeg ((s.2.1 81) (x2).toNatClampNeg))) 91 (upd (s.2.1 91) ((((10 : Int32) * x1) + x2)).toNatClampNeg ((s.2.1 82) (x2).toNatClampNeg))) 88 (upd (s.2.1 88) ((((10 : Int32) * x1) + x2)).toNatClampNeg (((180 : Int32) * x1) + ((s.2.1 79) (x2).toNatClampNeg))))) rfl ?_
      obtain ⟨hin, k⟩ := k
      refine Ex.ias hq rfl rfl hin (h' := hpS (sA (sA (sA (sA (sA s 87 (upd (s.2.1 87) ((((10 : Int32) * x1) + x2)).toNatClampNeg ((s.2.1 78) (x2).toNatClampNeg))) 90 (upd (s.2.1 90) ((((10 : Int32) * x1) + x2)).toNatClampNeg ((s.2.1 81) (x2).toNatClampNeg))) 91 (upd (s.2.1 91) ((((10 : Int32) * x1) + x2)).toNatClampNeg ((s.2.1 82) (x2).toNatClampNeg))) 88 (upd (s.2.1 88) ((((10 : Int32) * x1) + x2)).toNatClampNeg (((180 : Int32) * x1) + ((s.2.1 79) (x2).toNatClampNeg)))) 89 (upd (s.2.1 89) ((((10 : Int32) * x1) + x2)).toNatClampNeg (((180 : Int32) * x1) + ((s.2.1 80) (x2).toNatClampNeg))))) (hset_89 _ _) ?_
      refine Ex.seg hq 2 (j := 28) (L' := [.ref 55, .int x1, .int (x2 + (1 : Int32)), .int (((10 : Int32) * x1) + x2)]) (S' := []) (h' := hpS (sA (sA (sA (sA (sA s 87 (upd (s.2.1 87) ((((10 : Int32) * x1) + x2)).toNatClampNeg ((s.2.1 78) (x2).toNatClampNeg))) 90 (upd (s.2.1 90) ((((10 : Int32) * x1) + x2)).toNatClampNeg ((s.2.1 81) (x2).toNatClampNeg))) 91 (upd (s.2.1 91) ((((10 : Int32) * x1) + x2)).toNatClampNeg ((s.2.1 82) (x2).toNatClampNeg))) 88 (upd (s.2.1 88) ((((10 : Int32) * x1) + x2)).toNatClampNeg (((180 : Int32) * x1) + ((s.2.1 79) (x2).toNatClampNeg)))) 89 (upd (s.2.1 89) ((((10 : Int32) * x1) + x2)).toNatClampNeg (((180 : Int32) * x1) + ((s.2.1 80) (x2).toNatClampNeg))))) rfl ?_
      refine Ex.fg (L := [.ref 55, .int x1, .int (x2 + (1 : Int32)), pu]) ⟨Or.inl rfl, ⟨Or.inl rfl, ⟨Or.inl rfl, ⟨Or.inr ⟨rfl, rfl⟩, trivial⟩⟩⟩⟩ ?_
      exact ih x1 (x2 + (1 : Int32)) (sA (sA (sA (sA (sA s 87 (upd (s.2.1 87) ((((10 : Int32) * x1) + x2)).toNatClampNeg ((s.2.1 78) (x2).toNatClampNeg))) 90 (upd (s.2.1 90) ((((10 : Int32) * x1) + x2)).toNatClampNeg ((s.2.1 81) (x2).toNatClampNeg))) 91 (upd (s.2.1 91) ((((10 : Int32) * x1) + x2)).toNatClampNeg ((s.2.1 82) (x2).toNatClampNeg))) 88 (upd (s.2.1 88) ((((10 : Int32) * x1) + x2)).toNatClampNeg (((180 : Int32) * x1) + ((s.2.1 79) (x2).toNatClampNeg)))) 89 (upd (s.2.1 89) ((((10 : Int32) * x1) + x2)).toNatClampNeg (((180 : Int32) * x1) + ((s.2.1 80) (x2).toNatClampNeg)))) k hX88
/-- RowAuditorModel.keeps(I)V -/
def w_224 (p1 : Int32) (s : ST) (K : ST → Prop) : Prop := (pin p1 26 = true ∧ (∃ m, w_224_L8 m p1 (0 : Int32) (sA s 86 (upd (s.2.1 86) (p1).toNatClampNeg (s.1 5532))) (fun y1 s1 => (∃ m, w_224_L28 m y1 (0 : Int32) s1 (fun s2 => K s2) K)) K))
theorem q_224 {d : Nat} {K : ST → Prop} (p1 : Int32) (s : ST) (k : w_224 p1 s K) : Rn sc (d + 0) 224 [.ref 55, .int p1] (hpS s) (kV K) := by
  have hq : prog[224]? = some pm224 := rfl
  refine Rn.of (L := [.ref 55, .int p1, pu, pu]) hq rfl rfl ?_
  unfold w_224 at k
  refine Ex.seg hq 5 (j := 5) (L' := [.ref 55, .int p1, pu, pu]) (S' := [.int (s.1 5532), .int p1, .ref 86]) (h' := hpS s) rfl ?_
  obtain ⟨hin, k⟩ := k
  refine Ex.ias hq rfl rfl hin (h' := hpS (sA s 86 (upd (s.2.1 86) (p1).toNatClampNeg (s.1 5532)))) (hset_86 _ _) ?_
  refine Ex.seg hq 2 (j := 8) (L' := [.ref 55, .int p1, .int (0 : Int32), pu]) (S' := []) (h' := hpS (sA s 86 (upd (s.2.1 86) (p1).toNatClampNeg (s.1 5532)))) rfl ?_
  obtain ⟨m, k⟩ := k
  refine q_224_L8 (d := d) m p1 (0 : Int32) (sA s 86 (upd (s.2.1 86) (p1).toNatClampNeg (s.1 5532))) k ?_
  · intro y1 s1 k
    refine Ex.seg hq 2 (j := 28) (L' := [.ref 55, .int y1, .int (0 : Int32), pu]) (S' := []) (h' := hpS s1) rfl ?_
    obtain ⟨m, k⟩ := k
    refine q_224_L28 (d := d) m y1 (0 : Int32) s1 k ?_
    · intro s2 k
      exact Ex.rt hq rfl rfl ⟨s2, rfl, rfl, k⟩
/-- RowAuditorModel.begins(I)V -/
def w_225 (p1 : Int32) (s : ST) (K : ST → Prop) : Prop := K (sI (sI (sI (sI s 5526 (0 : Int32)) 5527 p1) 5530 (0 : Int32)) 5532 (0 : Int32))
theorem q_225 {d : Nat} {K : ST → Prop} (p1 : Int32) (s : ST) (k : w_225 p1 s K) : Rn sc (d + 0) 225 [.ref 55, .int p1] (hpS s) (kV K) := by
  have hq : prog[225]? = some pm225 := rfl
  refine Rn.of (L := [.ref 55, .int p1]) hq rfl rfl ?_
  unfold w_225 at k
  refine Ex.seg hq 12 (j := 12) (L' := [.ref 55, .int p1]) (S' := []) (h' := hpS (sI (sI (sI (sI s 5526 (0 : Int32)) 5527 p1) 5530 (0 : Int32)) 5532 (0 : Int32))) rfl ?_
  exact Ex.rt hq rfl rfl ⟨(sI (sI (sI (sI s 5526 (0 : Int32)) 5527 p1) 5530 (0 : Int32)) 5532 (0 : Int32)), rfl, rfl, k⟩
def w_226_L29 : Nat → Int32 → Int32 → Int32 → ST → (Int32 → Int32 → Int32 → ST → Prop) → (Int32 → ST → Prop) → Prop
  | 0, _, _, _, _, _, _ => False
  | n + 1, x1, x2, x4, s, X48, K => ((x4 = 0 → X48 x1 x2 x4 s) ∧ (¬ (x4 = 0) → (((s.1 5527) ≤ (s.1 5526) → X48 x1 x2 x4 s) ∧ (¬ ((s.1 5527) ≤ (s.1 5526)) → w_205 (59 : Int32) s (fun r12 s11 => ((r12 = 0 → w_226_L29 n x1 x2 (0 : Int32) s11 X48 K) ∧ (¬ (r12 = 0) → w_221 s11 (fun r14 s13 => ((r14 = 0 → w_226_L29 n x1 x2 (0 : Int32) s13 X48 K) ∧ (¬ (r14 = 0) → w_226_L29 n x1 x2 (1 : Int32) s13 X48 K))))))))))
theorem q_226_L29 {d : Nat} {X48 : Int32 → Int32 → Int32 → ST → Prop} {K : Int32 → ST → Prop} : ∀ (n : Nat) (x1 : Int32) (x2 : Int32) (x4 : Int32) (s : ST), w_226_L29 n x1 x2 x4 s X48 K → (∀ (y1 : Int32) (y2 : Int32) (y4 : Int32) (s : ST), X48 y1 y2 y4 s → Ex sc (d + 8) 226 48 [.ref 55, .int y1, .int y2, pu, .int y4] [] (hpS s) (kI K)) → Ex sc (d + 8) 226 29 [.ref 55, .int x1, .int x2, pu, .int x4] [] (hpS s) (kI K) := by
  have hq : prog[226]? = some pm226 := rfl
  intro n
  induction n with
  | zero =>
    intro x1 x2 x4 s k
    exact k.elim
  | succ n ih =>
    intro x1 x2 x4 s k hX48
    rw [w_226_L29] at k
    refine Ex.seg hq 1 (j := 30) (L' := [.ref 55, .int x1, .int x2, pu, .int x4]) (S' := [.int x4]) (h' := hpS s) rfl ?_
    refine Ex.i1 hq rfl (fun c => ?_) (fun c => ?_)
    · have k := k.1 c
      exact hX48 x1 x2 x4 s k
    · have k := k.2 c
      refine Ex.seg hq 4 (j := 35) (L' := [.ref 55, .int x1, .int x2, pu, .int x4]) (S' := [.int (s.1 5527), .int (s.1 5526)]) (h' := hpS s) rfl ?_
      refine Ex.i2 hq rfl (fun c => ?_) (fun c => ?_)
      · have k := k.1 c
        exact hX48 x1 x2 x4 s k
      · have k := k.2 c
        refine Ex.seg hq 2 (j := 38) (L' := [.ref 55, .int x1, .int x2, pu, .int x4]) (S' := [.int (59 : Int32), .ref 55]) (h' := hpS s) rfl ?_
        refine Ex.cl hq rfl rfl ?_
        refine Rn.mono (q_205 (d := d + 6) (59 : Int32) s k) ?_
        rintro _ _ ⟨r12, s11, rfl, hzr12, rfl, k⟩
        show Ex sc (d + 8) 226 39 [.ref 55, .int x1, .int x2, pu, .int x4] [.int r12] (hpS s11) _
        refine Ex.i1 hq rfl (fun c => ?_) (fun c => ?_)
        · have k := k.1 c
          refine Ex.seg hq 3 (j := 29) (L' := [.ref 55, .int x1, .int x2, pu, .int (0 : Int32)]) (S' := []) (h' := hpS s11) rfl ?_
          exact ih x1 x2 (0 : Int32) s11 k hX48
        · have k := k.2 c
          refine Ex.seg hq 1 (j := 41) (L' := [.ref 55, .int x1, .int x2, pu, .int x4]) (S' := [.ref 55]) (h' := hpS s11) rfl ?_
          refine Ex.cl hq rfl rfl ?_
          refine Rn.mono (q_221 (d := d + 0) s11 k) ?_
          rintro _ _ ⟨r14, s13, rfl, hzr14, rfl, k⟩
          show Ex sc (d + 8) 226 42 [.ref 55, .int x1, .int x2, pu, .int x4] [.int r14] (hpS s13) _
          refine Ex.i1 hq rfl (fun c => ?_) (fun c => ?_)
          · have k := k.1 c
            refine Ex.seg hq 3 (j := 29) (L' := [.ref 55, .int x1, .int x2, pu, .int (0 : Int32)]) (S' := []) (h' := hpS s13) rfl ?_
            exact ih x1 x2 (0 : Int32) s13 k hX48
          · have k := k.2 c
            refine Ex.seg hq 4 (j := 29) (L' := [.ref 55, .int x1, .int x2, pu, .int (1 : Int32)]) (S' := []) (h' := hpS s13) rfl ?_
            exact ih x1 x2 (1 : Int32) s13 k hX48
/-- RowAuditorModel.rule(III)I -/
def w_226 (p1 : Int32) (p2 : Int32) (p3 : Int32) (s : ST) (K : Int32 → ST → Prop) : Prop := w_187 p1 s (fun r2 s1 => ((r2 = 0 → K (-1 : Int32) s1) ∧ (¬ (r2 = 0) → w_186 p2 p1 (3999 : Int32) s1 (fun r4 s3 => ((r4 = 0 → K (-1 : Int32) s3) ∧ (¬ (r4 = 0) → w_186 p3 (1 : Int32) (160 : Int32) s3 (fun r6 s5 => ((r6 = 0 → K (-1 : Int32) s5) ∧ (¬ (r6 = 0) → (((s5.1 5525) < p3 → K (-1 : Int32) s5) ∧ (¬ ((s5.1 5525) < p3) → ((¬ (s5.1 5541) = (20 : Int32) → w_225 p3 s5 (fun s7 => w_221 s7 (fun r10 s9 => (∃ m, w_226_L29 m p1 p2 r10 s9 (fun y1 y2 y4 s15 => ((¬ y4 = 0 → (pin (s15.1 5541) 20 = true ∧ (pin (s15.1 5541) 20 = true ∧ w_224 (s15.1 5541) (sA (sA (sI s15 5525 (0 : Int32)) 84 (upd (s15.2.1 84) ((s15.1 5541)).toNatClampNeg y1)) 85 (upd (s15.2.1 85) ((s15.1 5541)).toNatClampNeg y2)) (fun s16 => K (((s16.1 5541) + (1 : Int32)) - (1 : Int32)) (sI s16 5541 ((s16.1 5541) + (1 : Int32))))))) ∧ (¬ (¬ y4 = 0) → K (s15.1 5528) (sI s15 5525 (0 : Int32))))) K)))) ∧ (¬ (¬ (s5.1 5541) = (20 : Int32)) → K (-1 : Int32) s5)))))))))))))
theorem q_226 {d : Nat} {K : Int32 → ST → Prop} (p1 : Int32) (p2 : Int32) (p3 : Int32) (s : ST) (k : w_226 p1 p2 p3 s K) : Rn sc (d + 8) 226 [.ref 55, .int p1, .int p2, .int p3] (hpS s) (kI K) := by
  have hq : prog[226]? = some pm226 := rfl
  refine Rn.of (L := [.ref 55, .int p1, .int p2, .int p3, pu]) hq rfl rfl ?_
  unfold w_226 at k
  refine Ex.seg hq 1 (j := 1) (L' := [.ref 55, .int p1, .int p2, .int p3, pu]) (S' := [.int p1]) (h' := hpS s) rfl ?_
  refine Ex.cl hq rfl rfl ?_
  refine Rn.mono (q_187 (d := d + 7) p1 s k) ?_
  rintro _ _ ⟨r2, s1, rfl, hzr2, rfl, k⟩
  show Ex sc (d + 8) 226 2 [.ref 55, .int p1, .int p2, .int p3, pu] [.int r2] (hpS s1) _
  refine Ex.i1 hq rfl (fun c => ?_) (fun c => ?_)
  · have k := k.1 c
    refine Ex.seg hq 1 (j := 22) (L' := [.ref 55, .int p1, .int p2, .int p3, pu]) (S' := [.int (-1 : Int32)]) (h' := hpS s1) rfl ?_
    exact Ex.rt hq rfl rfl ⟨(-1 : Int32), s1, rfl, rfl, k⟩
  · have k := k.2 c
    refine Ex.seg hq 3 (j := 6) (L' := [.ref 55, .int p1, .int p2, .int p3, pu]) (S' := [.int (3999 : Int32), .int p1, .int p2]) (h' := hpS s1) rfl ?_
    refine Ex.cl hq rfl rfl ?_
    refine Rn.mono (q_186 (d := d + 7) p2 p1 (3999 : Int32) s1 k) ?_
    rintro _ _ ⟨r4, s3, rfl, hzr4, rfl, k⟩
    show Ex sc (d + 8) 226 7 [.ref 55, .int p1, .int p2, .int p3, pu] [.int r4] (hpS s3) _
    refine Ex.i1 hq rfl (fun c => ?_) (fun c => ?_)
    · have k := k.1 c
      refine Ex.seg hq 1 (j := 22) (L' := [.ref 55, .int p1, .int p2, .int p3, pu]) (S' := [.int (-1 : Int32)]) (h' := hpS s3) rfl ?_
      exact Ex.rt hq rfl rfl ⟨(-1 : Int32), s3, rfl, rfl, k⟩
    · have k := k.2 c
      refine Ex.seg hq 3 (j := 11) (L' := [.ref 55, .int p1, .int p2, .int p3, pu]) (S' := [.int (160 : Int32), .int (1 : Int32), .int p3]) (h' := hpS s3) rfl ?_
      refine Ex.cl hq rfl rfl ?_
      refine Rn.mono (q_186 (d := d + 7) p3 (1 : Int32) (160 : Int32) s3 k) ?_
      rintro _ _ ⟨r6, s5, rfl, hzr6, rfl, k⟩
      show Ex sc (d + 8) 226 12 [.ref 55, .int p1, .int p2, .int p3, pu] [.int r6] (hpS s5) _
      refine Ex.i1 hq rfl (fun c => ?_) (fun c => ?_)
      · have k := k.1 c
        refine Ex.seg hq 1 (j := 22) (L' := [.ref 55, .int p1, .int p2, .int p3, pu]) (S' := [.int (-1 : Int32)]) (h' := hpS s5) rfl ?_
        exact Ex.rt hq rfl rfl ⟨(-1 : Int32), s5, rfl, rfl, k⟩
      · have k := k.2 c
        refine Ex.seg hq 3 (j := 16) (L' := [.ref 55, .int p1, .int p2, .int p3, pu]) (S' := [.int (s5.1 5525), .int p3]) (h' := hpS s5) rfl ?_
        refine Ex.i2 hq rfl (fun c => ?_) (fun c => ?_)
        · have k := k.1 c
          refine Ex.seg hq 1 (j := 22) (L' := [.ref 55, .int p1, .int p2, .int p3, pu]) (S' := [.int (-1 : Int32)]) (h' := hpS s5) rfl ?_
          exact Ex.rt hq rfl rfl ⟨(-1 : Int32), s5, rfl, rfl, k⟩
        · have k := k.2 c
          refine Ex.seg hq 3 (j := 20) (L' := [.ref 55, .int p1, .int p2, .int p3, pu]) (S' := [.int (20 : Int32), .int (s5.1 5541)]) (h' := hpS s5) rfl ?_
          refine Ex.i2 hq rfl (fun c => ?_) (fun c => ?_)
          · have k := k.1 c
            refine Ex.seg hq 2 (j := 25) (L' := [.ref 55, .int p1, .int p2, .int p3, pu]) (S' := [.int p3, .ref 55]) (h' := hpS s5) rfl ?_
            refine Ex.cl hq rfl rfl ?_
            refine Rn.mono (q_225 (d := d + 7) p3 s5 k) ?_
            rintro _ _ ⟨s7, rfl, rfl, k⟩
            show Ex sc (d + 8) 226 26 [.ref 55, .int p1, .int p2, .int p3, pu] [] (hpS s7) _
            refine Ex.seg hq 1 (j := 27) (L' := [.ref 55, .int p1, .int p2, .int p3, pu]) (S' := [.ref 55]) (h' := hpS s7) rfl ?_
            refine Ex.cl hq rfl rfl ?_
            refine Rn.mono (q_221 (d := d + 0) s7 k) ?_
            rintro _ _ ⟨r10, s9, rfl, hzr10, rfl, k⟩
            show Ex sc (d + 8) 226 28 [.ref 55, .int p1, .int p2, .int p3, pu] [.int r10] (hpS s9) _
            refine Ex.seg hq 1 (j := 29) (L' := [.ref 55, .int p1, .int p2, .int p3, .int r10]) (S' := []) (h' := hpS s9) rfl ?_
            obtain ⟨m, k⟩ := k
            refine Ex.fg (L := [.ref 55, .int p1, .int p2, pu, .int r10]) ⟨Or.inl rfl, ⟨Or.inl rfl, ⟨Or.inl rfl, ⟨Or.inr ⟨rfl, rfl⟩, ⟨Or.inl rfl, trivial⟩⟩⟩⟩⟩ ?_
            refine q_226_L29 (d := d) m p1 p2 r10 s9 k ?_
            · intro y1 y2 y4 s15 k
              refine Ex.seg hq 4 (j := 52) (L' := [.ref 55, .int y1, .int y2, pu, .int y4]) (S' := [.int y4]) (h' := hpS (sI s15 5525 (0 : Int32))) rfl ?_
              refine Ex.i1 hq rfl (fun c => ?_) (fun c => ?_)
              · have k := k.1 c
                refine Ex.seg hq 5 (j := 61) (L' := [.ref 55, .int y1, .int y2, pu, .int y4]) (S' := [.int y1, .int (s15.1 5541), .ref 84]) (h' := hpS (sI s15 5525 (0 : Int32))) rfl ?_
                obtain ⟨hin, k⟩ := k
                refine Ex.ias hq rfl rfl hin (h' := hpS (sA (sI s15 5525 (0 : Int32)) 84 (upd (s15.2.1 84) ((s15.1 5541)).toNatClampNeg y1))) (hset_84 _ _) ?_
                refine Ex.seg hq 5 (j := 67) (L' := [.ref 55, .int y1, .int y2, pu, .int y4]) (S' := [.int y2, .int (s15.1 5541), .ref 85]) (h' := hpS (sA (sI s15 5525 (0 : Int32)) 84 (upd (s15.2.1 84) ((s15.1 5541)).toNatClampNeg y1))) rfl ?_
                obtain ⟨hin, k⟩ := k
                refine Ex.ias hq rfl rfl hin (h' := hpS (sA (sA (sI s15 5525 (0 : Int32)) 84 (upd (s15.2.1 84) ((s15.1 5541)).toNatClampNeg y1)) 85 (upd (s15.2.1 85) ((s15.1 5541)).toNatClampNeg y2))) (hset_85 _ _) ?_
                refine Ex.seg hq 3 (j := 71) (L' := [.ref 55, .int y1, .int y2, pu, .int y4]) (S' := [.int (s15.1 5541), .ref 55]) (h' := hpS (sA (sA (sI s15 5525 (0 : Int32)) 84 (upd (s15.2.1 84) ((s15.1 5541)).toNatClampNeg y1)) 85 (upd (s15.2.1 85) ((s15.1 5541)).toNatClampNeg y2))) rfl ?_
                refine Ex.cl hq rfl rfl ?_
                refine Rn.mono (q_224 (d := d + 7) (s15.1 5541) (sA (sA (sI s15 5525 (0 : Int32)) 84 (upd (s15.2.1 84) ((s15.1 5541)).toNatClampNeg y1)) 85 (upd (s15.2.1 85) ((s15.1 5541)).toNatClampNeg y2)) k) ?_
                rintro _ _ ⟨s16, rfl, rfl, k⟩
                show Ex sc (d + 8) 226 72 [.ref 55, .int y1, .int y2, pu, .int y4] [] (hpS s16) _
                refine Ex.seg hq 10 (j := 82) (L' := [.ref 55, .int y1, .int y2, pu, .int y4]) (S' := [.int (((s16.1 5541) + (1 : Int32)) - (1 : Int32))]) (h' := hpS (sI s16 5541 ((s16.1 5541) + (1 : Int32)))) rfl ?_
                exact Ex.rt hq rfl rfl ⟨(((s16.1 5541) + (1 : Int32)) - (1 : Int32)), (sI s16 5541 ((s16.1 5541) + (1 : Int32))), rfl, rfl, k⟩
              · have k := k.2 c
                refine Ex.seg hq 2 (j := 55) (L' := [.ref 55, .int y1, .int y2, pu, .int y4]) (S' := [.int (s15.1 5528)]) (h' := hpS (sI s15 5525 (0 : Int32))) rfl ?_
                exact Ex.rt hq rfl rfl ⟨(s15.1 5528), (sI s15 5525 (0 : Int32)), rfl, rfl, k⟩
          · have k := k.2 c
            refine Ex.seg hq 1 (j := 22) (L' := [.ref 55, .int p1, .int p2, .int p3, pu]) (S' := [.int (-1 : Int32)]) (h' := hpS s5) rfl ?_
            exact Ex.rt hq rfl rfl ⟨(-1 : Int32), s5, rfl, rfl, k⟩
def w_227_L21 : Nat → Int32 → ST → (Int32 → ST → Prop) → (Int32 → ST → Prop) → Prop
  | 0, _, _, _, _ => False
  | n + 1, x2, s, X40, K => ((x2 = 0 → X40 x2 s) ∧ (¬ (x2 = 0) → (((s.1 5527) ≤ (s.1 5526) → X40 x2 s) ∧ (¬ ((s.1 5527) ≤ (s.1 5526)) → w_205 (59 : Int32) s (fun r8 s7 => ((r8 = 0 → w_227_L21 n (0 : Int32) s7 X40 K) ∧ (¬ (r8 = 0) → w_223 s7 (fun r10 s9 => ((r10 = 0 → w_227_L21 n (0 : Int32) s9 X40 K) ∧ (¬ (r10 = 0) → w_227_L21 n (1 : Int32) s9 X40 K))))))))))
theorem q_227_L21 {d : Nat} {X40 : Int32 → ST → Prop} {K : Int32 → ST → Prop} : ∀ (n : Nat) (x2 : Int32) (s : ST), w_227_L21 n x2 s X40 K → (∀ (y2 : Int32) (s : ST), X40 y2 s → Ex sc (d + 8) 227 40 [.ref 55, pu, .int y2] [] (hpS s) (kI K)) → Ex sc (d + 8) 227 21 [.ref 55, pu, .int x2] [] (hpS s) (kI K) := by
  have hq : prog[227]? = some pm227 := rfl
  intro n
  induction n with
  | zero =>
    intro x2 s k
    exact k.elim
  | succ n ih =>
    intro x2 s k hX40
    rw [w_227_L21] at k
    refine Ex.seg hq 1 (j := 22) (L' := [.ref 55, pu, .int x2]) (S' := [.int x2]) (h' := hpS s) rfl ?_
    refine Ex.i1 hq rfl (fun c => ?_) (fun c => ?_)
    · have k := k.1 c
      exact hX40 x2 s k
    · have k := k.2 c
      refine Ex.seg hq 4 (j := 27) (L' := [.ref 55, pu, .int x2]) (S' := [.int (s.1 5527), .int (s.1 5526)]) (h' := hpS s) rfl ?_
      refine Ex.i2 hq rfl (fun c => ?_) (fun c => ?_)
      · have k := k.1 c
        exact hX40 x2 s k
      · have k := k.2 c
        refine Ex.seg hq 2 (j := 30) (L' := [.ref 55, pu, .int x2]) (S' := [.int (59 : Int32), .ref 55]) (h' := hpS s) rfl ?_
        refine Ex.cl hq rfl rfl ?_
        refine Rn.mono (q_205 (d := d + 6) (59 : Int32) s k) ?_
        rintro _ _ ⟨r8, s7, rfl, hzr8, rfl, k⟩
        show Ex sc (d + 8) 227 31 [.ref 55, pu, .int x2] [.int r8] (hpS s7) _
        refine Ex.i1 hq rfl (fun c => ?_) (fun c => ?_)
        · have k := k.1 c
          refine Ex.seg hq 3 (j := 21) (L' := [.ref 55, pu, .int (0 : Int32)]) (S' := []) (h' := hpS s7) rfl ?_
          exact ih (0 : Int32) s7 k hX40
        · have k := k.2 c
          refine Ex.seg hq 1 (j := 33) (L' := [.ref 55, pu, .int x2]) (S' := [.ref 55]) (h' := hpS s7) rfl ?_
          refine Ex.cl hq rfl rfl ?_
          refine Rn.mono (q_223 (d := d + 0) s7 k) ?_
          rintro _ _ ⟨r10, s9, rfl, hzr10, rfl, k⟩
          show Ex sc (d + 8) 227 34 [.ref 55, pu, .int x2] [.int r10] (hpS s9) _
          refine Ex.i1 hq rfl (fun c => ?_) (fun c => ?_)
          · have k := k.1 c
            refine Ex.seg hq 3 (j := 21) (L' := [.ref 55, pu, .int (0 : Int32)]) (S' := []) (h' := hpS s9) rfl ?_
            exact ih (0 : Int32) s9 k hX40
          · have k := k.2 c
            refine Ex.seg hq 4 (j := 21) (L' := [.ref 55, pu, .int (1 : Int32)]) (S' := []) (h' := hpS s9) rfl ?_
            exact ih (1 : Int32) s9 k hX40
/-- RowAuditorModel.chain(I)I -/
def w_227 (p1 : Int32) (s : ST) (K : Int32 → ST → Prop) : Prop := w_186 p1 (1 : Int32) (100 : Int32) s (fun r2 s1 => ((r2 = 0 → K (-1 : Int32) s1) ∧ (¬ (r2 = 0) → (((s1.1 5525) < p1 → K (-1 : Int32) s1) ∧ (¬ ((s1.1 5525) < p1) → ((¬ (s1.1 5542) = (6 : Int32) → w_225 p1 s1 (fun s3 => w_223 s3 (fun r6 s5 => (∃ m, w_227_L21 m r6 s5 (fun y2 s11 => ((¬ y2 = 0 → w_224 ((20 : Int32) + (s11.1 5542)) (sI s11 5525 (0 : Int32)) (fun s12 => K (((s12.1 5542) + (1 : Int32)) - (1 : Int32)) (sI s12 5542 ((s12.1 5542) + (1 : Int32))))) ∧ (¬ (¬ y2 = 0) → K (s11.1 5528) (sI s11 5525 (0 : Int32))))) K)))) ∧ (¬ (¬ (s1.1 5542) = (6 : Int32)) → K (-1 : Int32) s1)))))))
theorem q_227 {d : Nat} {K : Int32 → ST → Prop} (p1 : Int32) (s : ST) (k : w_227 p1 s K) : Rn sc (d + 8) 227 [.ref 55, .int p1] (hpS s) (kI K) := by
  have hq : prog[227]? = some pm227 := rfl
  refine Rn.of (L := [.ref 55, .int p1, pu]) hq rfl rfl ?_
  unfold w_227 at k
  refine Ex.seg hq 3 (j := 3) (L' := [.ref 55, .int p1, pu]) (S' := [.int (100 : Int32), .int (1 : Int32), .int p1]) (h' := hpS s) rfl ?_
  refine Ex.cl hq rfl rfl ?_
  refine Rn.mono (q_186 (d := d + 7) p1 (1 : Int32) (100 : Int32) s k) ?_
  rintro _ _ ⟨r2, s1, rfl, hzr2, rfl, k⟩
  show Ex sc (d + 8) 227 4 [.ref 55, .int p1, pu] [.int r2] (hpS s1) _
  refine Ex.i1 hq rfl (fun c => ?_) (fun c => ?_)
  · have k := k.1 c
    refine Ex.seg hq 1 (j := 14) (L' := [.ref 55, .int p1, pu]) (S' := [.int (-1 : Int32)]) (h' := hpS s1) rfl ?_
    exact Ex.rt hq rfl rfl ⟨(-1 : Int32), s1, rfl, rfl, k⟩
  · have k := k.2 c
    refine Ex.seg hq 3 (j := 8) (L' := [.ref 55, .int p1, pu]) (S' := [.int (s1.1 5525), .int p1]) (h' := hpS s1) rfl ?_
    refine Ex.i2 hq rfl (fun c => ?_) (fun c => ?_)
    · have k := k.1 c
      refine Ex.seg hq 1 (j := 14) (L' := [.ref 55, .int p1, pu]) (S' := [.int (-1 : Int32)]) (h' := hpS s1) rfl ?_
      exact Ex.rt hq rfl rfl ⟨(-1 : Int32), s1, rfl, rfl, k⟩
    · have k := k.2 c
      refine Ex.seg hq 3 (j := 12) (L' := [.ref 55, .int p1, pu]) (S' := [.int (6 : Int32), .int (s1.1 5542)]) (h' := hpS s1) rfl ?_
      refine Ex.i2 hq rfl (fun c => ?_) (fun c => ?_)
      · have k := k.1 c
        refine Ex.seg hq 2 (j := 17) (L' := [.ref 55, .int p1, pu]) (S' := [.int p1, .ref 55]) (h' := hpS s1) rfl ?_
        refine Ex.cl hq rfl rfl ?_
        refine Rn.mono (q_225 (d := d + 7) p1 s1 k) ?_
        rintro _ _ ⟨s3, rfl, rfl, k⟩
        show Ex sc (d + 8) 227 18 [.ref 55, .int p1, pu] [] (hpS s3) _
        refine Ex.seg hq 1 (j := 19) (L' := [.ref 55, .int p1, pu]) (S' := [.ref 55]) (h' := hpS s3) rfl ?_
        refine Ex.cl hq rfl rfl ?_
        refine Rn.mono (q_223 (d := d + 0) s3 k) ?_
        rintro _ _ ⟨r6, s5, rfl, hzr6, rfl, k⟩
        show Ex sc (d + 8) 227 20 [.ref 55, .int p1, pu] [.int r6] (hpS s5) _
        refine Ex.seg hq 1 (j := 21) (L' := [.ref 55, .int p1, .int r6]) (S' := []) (h' := hpS s5) rfl ?_
        obtain ⟨m, k⟩ := k
        refine Ex.fg (L := [.ref 55, pu, .int r6]) ⟨Or.inl rfl, ⟨Or.inr ⟨rfl, rfl⟩, ⟨Or.inl rfl, trivial⟩⟩⟩ ?_
        refine q_227_L21 (d := d) m r6 s5 k ?_
        · intro y2 s11 k
          refine Ex.seg hq 4 (j := 44) (L' := [.ref 55, pu, .int y2]) (S' := [.int y2]) (h' := hpS (sI s11 5525 (0 : Int32))) rfl ?_
          refine Ex.i1 hq rfl (fun c => ?_) (fun c => ?_)
          · have k := k.1 c
            refine Ex.seg hq 5 (j := 53) (L' := [.ref 55, pu, .int y2]) (S' := [.int ((20 : Int32) + (s11.1 5542)), .ref 55]) (h' := hpS (sI s11 5525 (0 : Int32))) rfl ?_
            refine Ex.cl hq rfl rfl ?_
            refine Rn.mono (q_224 (d := d + 7) ((20 : Int32) + (s11.1 5542)) (sI s11 5525 (0 : Int32)) k) ?_
            rintro _ _ ⟨s12, rfl, rfl, k⟩
            show Ex sc (d + 8) 227 54 [.ref 55, pu, .int y2] [] (hpS s12) _
            refine Ex.seg hq 10 (j := 64) (L' := [.ref 55, pu, .int y2]) (S' := [.int (((s12.1 5542) + (1 : Int32)) - (1 : Int32))]) (h' := hpS (sI s12 5542 ((s12.1 5542) + (1 : Int32)))) rfl ?_
            exact Ex.rt hq rfl rfl ⟨(((s12.1 5542) + (1 : Int32)) - (1 : Int32)), (sI s12 5542 ((s12.1 5542) + (1 : Int32))), rfl, rfl, k⟩
          · have k := k.2 c
            refine Ex.seg hq 2 (j := 47) (L' := [.ref 55, pu, .int y2]) (S' := [.int (s11.1 5528)]) (h' := hpS (sI s11 5525 (0 : Int32))) rfl ?_
            exact Ex.rt hq rfl rfl ⟨(s11.1 5528), (sI s11 5525 (0 : Int32)), rfl, rfl, k⟩
      · have k := k.2 c
        refine Ex.seg hq 1 (j := 14) (L' := [.ref 55, .int p1, pu]) (S' := [.int (-1 : Int32)]) (h' := hpS s1) rfl ?_
        exact Ex.rt hq rfl rfl ⟨(-1 : Int32), s1, rfl, rfl, k⟩
/-- RowAuditorModel.leaveBy(I)I -/
def w_228 (p1 : Int32) (s : ST) (K : Int32 → ST → Prop) : Prop := (pin p1 150 = true ∧ ((¬ ((s.2.1 64) (p1).toNatClampNeg) = (s.1 5552) → (pin p1 150 = true ∧ K ((s.2.1 64) (p1).toNatClampNeg) s)) ∧ (¬ (¬ ((s.2.1 64) (p1).toNatClampNeg) = (s.1 5552)) → K (-1 : Int32) s)))
theorem q_228 {d : Nat} {K : Int32 → ST → Prop} (p1 : Int32) (s : ST) (k : w_228 p1 s K) : Rn sc (d + 0) 228 [.ref 55, .int p1] (hpS s) (kI K) := by
  have hq : prog[228]? = some pm228 := rfl
  refine Rn.of (L := [.ref 55, .int p1]) hq rfl rfl ?_
  unfold w_228 at k
  refine Ex.seg hq 3 (j := 3) (L' := [.ref 55, .int p1]) (S' := [.int p1, .ref 64]) (h' := hpS s) rfl ?_
  obtain ⟨hin, k⟩ := k
  refine Ex.ial hq rfl rfl hin ?_
  refine Ex.seg hq 2 (j := 6) (L' := [.ref 55, .int p1]) (S' := [.int (s.1 5552), .int ((s.2.1 64) (p1).toNatClampNeg)]) (h' := hpS s) rfl ?_
  refine Ex.i2 hq rfl (fun c => ?_) (fun c => ?_)
  · have k := k.1 c
    refine Ex.seg hq 3 (j := 12) (L' := [.ref 55, .int p1]) (S' := [.int p1, .ref 64]) (h' := hpS s) rfl ?_
    obtain ⟨hin, k⟩ := k
    refine Ex.ial hq rfl rfl hin ?_
    exact Ex.rt hq rfl rfl ⟨((s.2.1 64) (p1).toNatClampNeg), s, rfl, rfl, k⟩
  · have k := k.2 c
    refine Ex.seg hq 2 (j := 13) (L' := [.ref 55, .int p1]) (S' := [.int (-1 : Int32)]) (h' := hpS s) rfl ?_
    exact Ex.rt hq rfl rfl ⟨(-1 : Int32), s, rfl, rfl, k⟩
/-- RowAuditorModel.payeeOf(I)I -/
def w_229 (p1 : Int32) (s : ST) (K : Int32 → ST → Prop) : Prop := (pin p1 150 = true ∧ ((((s.2.1 57) (p1).toNatClampNeg) = 0 → (pin p1 150 = true ∧ K ((s.2.1 59) (p1).toNatClampNeg) s)) ∧ (¬ (((s.2.1 57) (p1).toNatClampNeg) = 0) → (pin p1 150 = true ∧ ((¬ ((s.2.1 57) (p1).toNatClampNeg) = (1 : Int32) → K (-1 : Int32) s) ∧ (¬ (¬ ((s.2.1 57) (p1).toNatClampNeg) = (1 : Int32)) → (pin p1 150 = true ∧ K ((s.2.1 59) (p1).toNatClampNeg) s)))))))
theorem q_229 {d : Nat} {K : Int32 → ST → Prop} (p1 : Int32) (s : ST) (k : w_229 p1 s K) : Rn sc (d + 0) 229 [.ref 55, .int p1] (hpS s) (kI K) := by
  have hq : prog[229]? = some pm229 := rfl
  refine Rn.of (L := [.ref 55, .int p1]) hq rfl rfl ?_
  unfold w_229 at k
  refine Ex.seg hq 3 (j := 3) (L' := [.ref 55, .int p1]) (S' := [.int p1, .ref 57]) (h' := hpS s) rfl ?_
  obtain ⟨hin, k⟩ := k
  refine Ex.ial hq rfl rfl hin ?_
  refine Ex.i1 hq rfl (fun c => ?_) (fun c => ?_)
  · have k := k.1 c
    refine Ex.seg hq 3 (j := 14) (L' := [.ref 55, .int p1]) (S' := [.int p1, .ref 59]) (h' := hpS s) rfl ?_
    obtain ⟨hin, k⟩ := k
    refine Ex.ial hq rfl rfl hin ?_
    refine Ex.seg hq 1 (j := 17) (L' := [.ref 55, .int p1]) (S' := [.int ((s.2.1 59) (p1).toNatClampNeg)]) (h' := hpS s) rfl ?_
    exact Ex.rt hq rfl rfl ⟨((s.2.1 59) (p1).toNatClampNeg), s, rfl, rfl, k⟩
  · have k := k.2 c
    refine Ex.seg hq 3 (j := 8) (L' := [.ref 55, .int p1]) (S' := [.int p1, .ref 57]) (h' := hpS s) rfl ?_
    obtain ⟨hin, k⟩ := k
    refine Ex.ial hq rfl rfl hin ?_
    refine Ex.seg hq 1 (j := 10) (L' := [.ref 55, .int p1]) (S' := [.int (1 : Int32), .int ((s.2.1 57) (p1).toNatClampNeg)]) (h' := hpS s) rfl ?_
    refine Ex.i2 hq rfl (fun c => ?_) (fun c => ?_)
    · have k := k.1 c
      refine Ex.seg hq 1 (j := 17) (L' := [.ref 55, .int p1]) (S' := [.int (-1 : Int32)]) (h' := hpS s) rfl ?_
      exact Ex.rt hq rfl rfl ⟨(-1 : Int32), s, rfl, rfl, k⟩
    · have k := k.2 c
      refine Ex.seg hq 3 (j := 14) (L' := [.ref 55, .int p1]) (S' := [.int p1, .ref 59]) (h' := hpS s) rfl ?_
      obtain ⟨hin, k⟩ := k
      refine Ex.ial hq rfl rfl hin ?_
      refine Ex.seg hq 1 (j := 17) (L' := [.ref 55, .int p1]) (S' := [.int ((s.2.1 59) (p1).toNatClampNeg)]) (h' := hpS s) rfl ?_
      exact Ex.rt hq rfl rfl ⟨((s.2.1 59) (p1).toNatClampNeg), s, rfl, rfl, k⟩
def w_230_L6 : Nat → Int32 → Int64 → Int64 → Int32 → ST → (Int32 → Int64 → Int64 → ST → Prop) → (ST → Prop) → Prop
  | 0, _, _, _, _, _, _, _ => False
  | n + 1, x1, x2, x4, x6, s, X75, K => (((s.1 5520) ≤ x6 → X75 x1 x2 x4 s) ∧ (¬ ((s.1 5520) ≤ x6) → (pin x6 150 = true ∧ (pin ((s.2.1 72) (x6).toNatClampNeg) 150 = true ∧ (pin x1 150 = true ∧ ((((s.2.1 60) (((s.2.1 72) (x6).toNatClampNeg)).toNatClampNeg) = ((s.2.1 60) (x1).toNatClampNeg) → (pin ((s.2.1 72) (x6).toNatClampNeg) 150 = true ∧ (pin x1 150 = true ∧ ((¬ ((s.2.1 63) (((s.2.1 72) (x6).toNatClampNeg)).toNatClampNeg) = ((s.2.1 63) (x1).toNatClampNeg) → w_229 x1 s (fun r2 s1 => ((r2 = (-1 : Int32) → w_230_L6 n x1 (x2 + (0 : Int64)) (x4 + (0 : Int64)) (x6 + (1 : Int32)) s1 X75 K) ∧ (¬ (r2 = (-1 : Int32)) → (pin ((s.2.1 72) (x6).toNatClampNeg) 150 = true ∧ (pin x1 150 = true ∧ ((¬ ((s1.2.1 57) (((s.2.1 72) (x6).toNatClampNeg)).toNatClampNeg) = ((s1.2.1 57) (x1).toNatClampNeg) → w_230_L6 n x1 (x2 + (0 : Int64)) (x4 + (0 : Int64)) (x6 + (1 : Int32)) s1 X75 K) ∧ (¬ (¬ ((s1.2.1 57) (((s.2.1 72) (x6).toNatClampNeg)).toNatClampNeg) = ((s1.2.1 57) (x1).toNatClampNeg)) → (pin ((s.2.1 72) (x6).toNatClampNeg) 150 = true ∧ (pin x1 150 = true ∧ ((¬ ((s1.2.1 59) (((s.2.1 72) (x6).toNatClampNeg)).toNatClampNeg) = ((s1.2.1 59) (x1).toNatClampNeg) → w_230_L6 n x1 (x2 + (0 : Int64)) (x4 + (0 : Int64)) (x6 + (1 : Int32)) s1 X75 K) ∧ (¬ (¬ ((s1.2.1 59) (((s.2.1 72) (x6).toNatClampNeg)).toNatClampNeg) = ((s1.2.1 59) (x1).toNatClampNeg)) → (pin ((s.2.1 72) (x6).toNatClampNeg) 150 = true ∧ w_230_L6 n x1 (x2 + (0 : Int64)) (x4 + ((((s1.2.1 73) (((s.2.1 72) (x6).toNatClampNeg)).toNatClampNeg)).toInt64)) (x6 + (1 : Int32)) s1 X75 K))))))))))))) ∧ (¬ (¬ ((s.2.1 63) (((s.2.1 72) (x6).toNatClampNeg)).toNatClampNeg) = ((s.2.1 63) (x1).toNatClampNeg)) → w_229 x1 s (fun r4 s3 => ((r4 = (-1 : Int32) → w_230_L6 n x1 (x2 + (1 : Int64)) (x4 + (0 : Int64)) (x6 + (1 : Int32)) s3 X75 K) ∧ (¬ (r4 = (-1 : Int32)) → (pin ((s.2.1 72) (x6).toNatClampNeg) 150 = true ∧ (pin x1 150 = true ∧ ((¬ ((s3.2.1 57) (((s.2.1 72) (x6).toNatClampNeg)).toNatClampNeg) = ((s3.2.1 57) (x1).toNatClampNeg) → w_230_L6 n x1 (x2 + (1 : Int64)) (x4 + (0 : Int64)) (x6 + (1 : Int32)) s3 X75 K) ∧ (¬ (¬ ((s3.2.1 57) (((s.2.1 72) (x6).toNatClampNeg)).toNatClampNeg) = ((s3.2.1 57) (x1).toNatClampNeg)) → (pin ((s.2.1 72) (x6).toNatClampNeg) 150 = true ∧ (pin x1 150 = true ∧ ((¬ ((s3.2.1 59) (((s.2.1 72) (x6).toNatClampNeg)).toNatClampNeg) = ((s3.2.1 59) (x1).toNatClampNeg) → w_230_L6 n x1 (x2 + (1 : Int64)) (x4 + (0 : Int64)) (x6 + (1 : Int32)) s3 X75 K) ∧ (¬ (¬ ((s3.2.1 59) (((s.2.1 72) (x6).toNatClampNeg)).toNatClampNeg) = ((s3.2.1 59) (x1).toNatClampNeg)) → (pin ((s.2.1 72) (x6).toNatClampNeg) 150 = true ∧ w_230_L6 n x1 (x2 + (1 : Int64)) (x4 + ((((s3.2.1 73) (((s.2.1 72) (x6).toNatClampNeg)).toNatClampNeg)).toInt64)) (x6 + (1 : Int32)) s3 X75 K))))))))))))))))) ∧ (¬ (((s.2.1 60) (((s.2.1 72) (x6).toNatClampNeg)).toNatClampNeg) = ((s.2.1 60) (x1).toNatClampNeg)) → w_230_L6 n x1 x2 x4 (x6 + (1 : Int32)) s X75 K)))))))
theorem q_230_L6 {d : Nat} {X75 : Int32 → Int64 → Int64 → ST → Prop} {K : ST → Prop} : ∀ (n : Nat) (x1 : Int32) (x2 : Int64) (x4 : Int64) (x6 : Int32) (s : ST), w_230_L6 n x1 x2 x4 x6 s X75 K → (∀ (y1 : Int32) (y2 : Int64) (y4 : Int64) (s : ST), X75 y1 y2 y4 s → Ex sc (d + 1) 230 75 [.ref 55, .int y1, .long y2, pu, .long y4, pu, pu, pu] [] (hpS s) (kV K)) → Ex sc (d + 1) 230 6 [.ref 55, .int x1, .long x2, pu, .long x4, pu, .int x6, pu] [] (hpS s) (kV K) := by
  have hq : prog[230]? = some pm230 := rfl
  intro n
  induction n with
  | zero =>
    intro x1 x2 x4 x6 s k
    exact k.elim
  | succ n ih =>
    intro x1 x2 x4 x6 s k hX75
    rw [w_230_L6] at k
    refine Ex.seg hq 3 (j := 9) (L' := [.ref 55, .int x1, .long x2, pu, .long x4, pu, .int x6, pu]) (S' := [.int (s.1 5520), .int x6]) (h' := hpS s) rfl ?_
    refine Ex.i2 hq rfl (fun c => ?_) (fun c => ?_)
    · have k := k.1 c
      refine Ex.fg (L := [.ref 55, .int x1, .long x2, pu, .long x4, pu, pu, pu]) ⟨Or.inl rfl, ⟨Or.inl rfl, ⟨Or.inl rfl, ⟨Or.inl rfl, ⟨Or.inl rfl, ⟨Or.inl rfl, ⟨Or.inr ⟨rfl, rfl⟩, ⟨Or.inl rfl, trivial⟩⟩⟩⟩⟩⟩⟩⟩ ?_
      exact hX75 x1 x2 x4 s k
    · have k := k.2 c
      refine Ex.seg hq 3 (j := 13) (L' := [.ref 55, .int x1, .long x2, pu, .long x4, pu, .int x6, pu]) (S' := [.int x6, .ref 72]) (h' := hpS s) rfl ?_
      obtain ⟨hin, k⟩ := k
      refine Ex.ial hq rfl rfl hin ?_
      refine Ex.seg hq 4 (j := 18) (L' := [.ref 55, .int x1, .long x2, pu, .long x4, pu, .int x6, .int ((s.2.1 72) (x6).toNatClampNeg)]) (S' := [.int ((s.2.1 72) (x6).toNatClampNeg), .ref 60]) (h' := hpS s) rfl ?_
      obtain ⟨hin, k⟩ := k
      refine Ex.ial hq rfl rfl hin ?_
      refine Ex.seg hq 3 (j := 22) (L' := [.ref 55, .int x1, .long x2, pu, .long x4, pu, .int x6, .int ((s.2.1 72) (x6).toNatClampNeg)]) (S' := [.int x1, .ref 60, .int ((s.2.1 60) (((s.2.1 72) (x6).toNatClampNeg)).toNatClampNeg)]) (h' := hpS s) rfl ?_
      obtain ⟨hin, k⟩ := k
      refine Ex.ial hq rfl rfl hin ?_
      refine Ex.i2 hq rfl (fun c => ?_) (fun c => ?_)
      · have k := k.1 c
        refine Ex.seg hq 4 (j := 29) (L' := [.ref 55, .int x1, .long x2, pu, .long x4, pu, .int x6, .int ((s.2.1 72) (x6).toNatClampNeg)]) (S' := [.int ((s.2.1 72) (x6).toNatClampNeg), .ref 63, .long x2]) (h' := hpS s) rfl ?_
        obtain ⟨hin, k⟩ := k
        refine Ex.ial hq rfl rfl hin ?_
        refine Ex.seg hq 3 (j := 33) (L' := [.ref 55, .int x1, .long x2, pu, .long x4, pu, .int x6, .int ((s.2.1 72) (x6).toNatClampNeg)]) (S' := [.int x1, .ref 63, .int ((s.2.1 63) (((s.2.1 72) (x6).toNatClampNeg)).toNatClampNeg), .long x2]) (h' := hpS s) rfl ?_
        obtain ⟨hin, k⟩ := k
        refine Ex.ial hq rfl rfl hin ?_
        refine Ex.i2 hq rfl (fun c => ?_) (fun c => ?_)
        · have k := k.1 c
          refine Ex.seg hq 6 (j := 43) (L' := [.ref 55, .int x1, .long (x2 + (0 : Int64)), pu, .long x4, pu, .int x6, .int ((s.2.1 72) (x6).toNatClampNeg)]) (S' := [.int x1, .ref 55, .long x4]) (h' := hpS s) rfl ?_
          refine Ex.cl hq rfl rfl ?_
          refine Rn.mono (q_229 (d := d + 0) x1 s k) ?_
          rintro _ _ ⟨r2, s1, rfl, rfl, k⟩
          show Ex sc (d + 1) 230 44 [.ref 55, .int x1, .long (x2 + (0 : Int64)), pu, .long x4, pu, .int x6, .int ((s.2.1 72) (x6).toNatClampNeg)] [.int r2, .long x4] (hpS s1) _
          refine Ex.seg hq 1 (j := 45) (L' := [.ref 55, .int x1, .long (x2 + (0 : Int64)), pu, .long x4, pu, .int x6, .int ((s.2.1 72) (x6).toNatClampNeg)]) (S' := [.int (-1 : Int32), .int r2, .long x4]) (h' := hpS s1) rfl ?_
          refine Ex.i2 hq rfl (fun c => ?_) (fun c => ?_)
          · have k := k.1 c
            refine Ex.seg hq 5 (j := 6) (L' := [.ref 55, .int x1, .long (x2 + (0 : Int64)), pu, .long (x4 + (0 : Int64)), pu, .int (x6 + (1 : Int32)), .int ((s.2.1 72) (x6).toNatClampNeg)]) (S' := []) (h' := hpS s1) rfl ?_
            refine Ex.fg (L := [.ref 55, .int x1, .long (x2 + (0 : Int64)), pu, .long (x4 + (0 : Int64)), pu, .int (x6 + (1 : Int32)), pu]) ⟨Or.inl rfl, ⟨Or.inl rfl, ⟨Or.inl rfl, ⟨Or.inl rfl, ⟨Or.inl rfl, ⟨Or.inl rfl, ⟨Or.inl rfl, ⟨Or.inr ⟨rfl, rfl⟩, trivial⟩⟩⟩⟩⟩⟩⟩⟩ ?_
            exact ih x1 (x2 + (0 : Int64)) (x4 + (0 : Int64)) (x6 + (1 : Int32)) s1 k hX75
          · have k := k.2 c
            refine Ex.seg hq 3 (j := 49) (L' := [.ref 55, .int x1, .long (x2 + (0 : Int64)), pu, .long x4, pu, .int x6, .int ((s.2.1 72) (x6).toNatClampNeg)]) (S' := [.int ((s.2.1 72) (x6).toNatClampNeg), .ref 57, .long x4]) (h' := hpS s1) rfl ?_
            obtain ⟨hin, k⟩ := k
            refine Ex.ial hq rfl rfl hin ?_
            refine Ex.seg hq 3 (j := 53) (L' := [.ref 55, .int x1, .long (x2 + (0 : Int64)), pu, .long x4, pu, .int x6, .int ((s.2.1 72) (x6).toNatClampNeg)]) (S' := [.int x1, .ref 57, .int ((s1.2.1 57) (((s.2.1 72) (x6).toNatClampNeg)).toNatClampNeg), .long x4]) (h' := hpS s1) rfl ?_
            obtain ⟨hin, k⟩ := k
            refine Ex.ial hq rfl rfl hin ?_
            refine Ex.i2 hq rfl (fun c => ?_) (fun c => ?_)
            · have k := k.1 c
              refine Ex.seg hq 5 (j := 6) (L' := [.ref 55, .int x1, .long (x2 + (0 : Int64)), pu, .long (x4 + (0 : Int64)), pu, .int (x6 + (1 : Int32)), .int ((s.2.1 72) (x6).toNatClampNeg)]) (S' := []) (h' := hpS s1) rfl ?_
              refine Ex.fg (L := [.ref 55, .int x1, .long (x2 + (0 : Int64)), pu, .long (x4 + (0 : Int64)), pu, .int (x6 + (1 : Int32)), pu]) ⟨Or.inl rfl, ⟨Or.inl rfl, ⟨Or.inl rfl, ⟨Or.inl rfl, ⟨Or.inl rfl, ⟨Or.inl rfl, ⟨Or.inl rfl, ⟨Or.inr ⟨rfl, rfl⟩, trivial⟩⟩⟩⟩⟩⟩⟩⟩ ?_
              exact ih x1 (x2 + (0 : Int64)) (x4 + (0 : Int64)) (x6 + (1 : Int32)) s1 k hX75
            · have k := k.2 c
              refine Ex.seg hq 3 (j := 58) (L' := [.ref 55, .int x1, .long (x2 + (0 : Int64)), pu, .long x4, pu, .int x6, .int ((s.2.1 72) (x6).toNatClampNeg)]) (S' := [.int ((s.2.1 72) (x6).toNatClampNeg), .ref 59, .long x4]) (h' := hpS s1) rfl ?_
              obtain ⟨hin, k⟩ := k
              refine Ex.ial hq rfl rfl hin ?_
              refine Ex.seg hq 3 (j := 62) (L' := [.ref 55, .int x1, .long (x2 + (0 : Int64)), pu, .long x4, pu, .int x6, .int ((s.2.1 72) (x6).toNatClampNeg)]) (S' := [.int x1, .ref 59, .int ((s1.2.1 59) (((s.2.1 72) (x6).toNatClampNeg)).toNatClampNeg), .long x4]) (h' := hpS s1) rfl ?_
              obtain ⟨hin, k⟩ := k
              refine Ex.ial hq rfl rfl hin ?_
              refine Ex.i2 hq rfl (fun c => ?_) (fun c => ?_)
              · have k := k.1 c
                refine Ex.seg hq 5 (j := 6) (L' := [.ref 55, .int x1, .long (x2 + (0 : Int64)), pu, .long (x4 + (0 : Int64)), pu, .int (x6 + (1 : Int32)), .int ((s.2.1 72) (x6).toNatClampNeg)]) (S' := []) (h' := hpS s1) rfl ?_
                refine Ex.fg (L := [.ref 55, .int x1, .long (x2 + (0 : Int64)), pu, .long (x4 + (0 : Int64)), pu, .int (x6 + (1 : Int32)), pu]) ⟨Or.inl rfl, ⟨Or.inl rfl, ⟨Or.inl rfl, ⟨Or.inl rfl, ⟨Or.inl rfl, ⟨Or.inl rfl, ⟨Or.inl rfl, ⟨Or.inr ⟨rfl, rfl⟩, trivial⟩⟩⟩⟩⟩⟩⟩⟩ ?_
                exact ih x1 (x2 + (0 : Int64)) (x4 + (0 : Int64)) (x6 + (1 : Int32)) s1 k hX75
              · have k := k.2 c
                refine Ex.seg hq 3 (j := 67) (L' := [.ref 55, .int x1, .long (x2 + (0 : Int64)), pu, .long x4, pu, .int x6, .int ((s.2.1 72) (x6).toNatClampNeg)]) (S' := [.int ((s.2.1 72) (x6).toNatClampNeg), .ref 73, .long x4]) (h' := hpS s1) rfl ?_
                obtain ⟨hin, k⟩ := k
                refine Ex.ial hq rfl rfl hin ?_
                refine Ex.seg hq 6 (j := 6) (L' := [.ref 55, .int x1, .long (x2 + (0 : Int64)), pu, .long (x4 + ((((s1.2.1 73) (((s.2.1 72) (x6).toNatClampNeg)).toNatClampNeg)).toInt64)), pu, .int (x6 + (1 : Int32)), .int ((s.2.1 72) (x6).toNatClampNeg)]) (S' := []) (h' := hpS s1) rfl ?_
                refine Ex.fg (L := [.ref 55, .int x1, .long (x2 + (0 : Int64)), pu, .long (x4 + ((((s1.2.1 73) (((s.2.1 72) (x6).toNatClampNeg)).toNatClampNeg)).toInt64)), pu, .int (x6 + (1 : Int32)), pu]) ⟨Or.inl rfl, ⟨Or.inl rfl, ⟨Or.inl rfl, ⟨Or.inl rfl, ⟨Or.inl rfl, ⟨Or.inl rfl, ⟨Or.inl rfl, ⟨Or.inr ⟨rfl, rfl⟩, trivial⟩⟩⟩⟩⟩⟩⟩⟩ ?_
                exact ih x1 (x2 + (0 : Int64)) (x4 + ((((s1.2.1 73) (((s.2.1 72) (x6).toNatClampNeg)).toNatClampNeg)).toInt64)) (x6 + (1 : Int32)) s1 k hX75
        · have k := k.2 c
          refine Ex.seg hq 7 (j := 43) (L' := [.ref 55, .int x1, .long (x2 + (1 : Int64)), pu, .long x4, pu, .int x6, .int ((s.2.1 72) (x6).toNatClampNeg)]) (S' := [.int x1, .ref 55, .long x4]) (h' := hpS s) rfl ?_
          refine Ex.cl hq rfl rfl ?_
          refine Rn.mono (q_229 (d := d + 0) x1 s k) ?_
          rintro _ _ ⟨r4, s3, rfl, rfl, k⟩
          show Ex sc (d + 1) 230 44 [.ref 55, .int x1, .long (x2 + (1 : Int64)), pu, .long x4, pu, .int x6, .int ((s.2.1 72) (x6).toNatClampNeg)] [.int r4, .long x4] (hpS s3) _
          refine Ex.seg hq 1 (j := 45) (L' := [.ref 55, .int x1, .long (x2 + (1 : Int64)), pu, .long x4, pu, .int x6, .int ((s.2.1 72) (x6).toNatClampNeg)]) (S' := [.int (-1 : Int32), .int r4, .long x4]) (h' := hpS s3) rfl ?_
          refine Ex.i2 hq rfl (fun c => ?_) (fun c => ?_)
          · have k := k.1 c
            refine Ex.seg hq 5 (j := 6) (L' := [.ref 55, .int x1, .long (x2 + (1 : Int64)), pu, .long (x4 + (0 : Int64)), pu, .int (x6 + (1 : Int32)), .int ((s.2.1 72) (x6).toNatClampNeg)]) (S' := []) (h' := hpS s3) rfl ?_
            refine Ex.fg (L := [.ref 55, .int x1, .long (x2 + (1 : Int64)), pu, .long (x4 + (0 : Int64)), pu, .int (x6 + (1 : Int32)), pu]) ⟨Or.inl rfl, ⟨Or.inl rfl, ⟨Or.inl rfl, ⟨Or.inl rfl, ⟨Or.inl rfl, ⟨Or.inl rfl, ⟨Or.inl rfl, ⟨Or.inr ⟨rfl, rfl⟩, trivial⟩⟩⟩⟩⟩⟩⟩⟩ ?_
            exact ih x1 (x2 + (1 : Int64)) (x4 + (0 : Int64)) (x6 + (1 : Int32)) s3 k hX75
          · have k := k.2 c
            refine Ex.seg hq 3 (j := 49) (L' := [.ref 55, .int x1, .long (x2 + (1 : Int64)), pu, .long x4, pu, .int x6, .int ((s.2.1 72) (x6).toNatClampNeg)]) (S' := [.int ((s.2.1 72) (x6).toNatClampNeg), .ref 57, .long x4]) (h' := hpS s3) rfl ?_
            obtain ⟨hin, k⟩ := k
            refine Ex.ial hq rfl rfl hin ?_
            refine Ex.seg hq 3 (j := 53) (L' := [.ref 55, .int x1, .long (x2 + (1 : Int64)), pu, .long x4, pu, .int x6, .int ((s.2.1 72) (x6).toNatClampNeg)]) (S' := [.int x1, .ref 57, .int ((s3.2.1 57) (((s.2.1 72) (x6).toNatClampNeg)).toNatClampNeg), .long x4]) (h' := hpS s3) rfl ?_
            obtain ⟨hin, k⟩ := k
            refine Ex.ial hq rfl rfl hin ?_
            refine Ex.i2 hq rfl (fun c => ?_) (fun c => ?_)
            · have k := k.1 c
              refine Ex.seg hq 5 (j := 6) (L' := [.ref 55, .int x1, .long (x2 + (1 : Int64)), pu, .long (x4 + (0 : Int64)), pu, .int (x6 + (1 : Int32)), .int ((s.2.1 72) (x6).toNatClampNeg)]) (S' := []) (h' := hpS s3) rfl ?_
              refine Ex.fg (L := [.ref 55, .int x1, .long (x2 + (1 : Int64)), pu, .long (x4 + (0 : Int64)), pu, .int (x6 + (1 : Int32)), pu]) ⟨Or.inl rfl, ⟨Or.inl rfl, ⟨Or.inl rfl, ⟨Or.inl rfl, ⟨Or.inl rfl, ⟨Or.inl rfl, ⟨Or.inl rfl, ⟨Or.inr ⟨rfl, rfl⟩, trivial⟩⟩⟩⟩⟩⟩⟩⟩ ?_
              exact ih x1 (x2 + (1 : Int64)) (x4 + (0 : Int64)) (x6 + (1 : Int32)) s3 k hX75
            · have k := k.2 c
              refine Ex.seg hq 3 (j := 58) (L' := [.ref 55, .int x1, .long (x2 + (1 : Int64)), pu, .long x4, pu, .int x6, .int ((s.2.1 72) (x6).toNatClampNeg)]) (S' := [.int ((s.2.1 72) (x6).toNatClampNeg), .ref 59, .long x4]) (h' := hpS s3) rfl ?_
              obtain ⟨hin, k⟩ := k
              refine Ex.ial hq rfl rfl hin ?_
              refine Ex.seg hq 3 (j := 62) (L' := [.ref 55, .int x1, .long (x2 + (1 : Int64)), pu, .long x4, pu, .int x6, .int ((s.2.1 72) (x6).toNatClampNeg)]) (S' := [.int x1, .ref 59, .int ((s3.2.1 59) (((s.2.1 72) (x6).toNatClampNeg)).toNatClampNeg), .long x4]) (h' := hpS s3) rfl ?_
              obtain ⟨hin, k⟩ := k
              refine Ex.ial hq rfl rfl hin ?_
              refine Ex.i2 hq rfl (fun c => ?_) (fun c => ?_)
              · have k := k.1 c
                refine Ex.seg hq 5 (j := 6) (L' := [.ref 55, .int x1, .long (x2 + (1 : Int64)), pu, .long (x4 + (0 : Int64)), pu, .int (x6 + (1 : Int32)), .int ((s.2.1 72) (x6).toNatClampNeg)]) (S' := []) (h' := hpS s3) rfl ?_
                refine Ex.fg (L := [.ref 55, .int x1, .long (x2 + (1 : Int64)), pu, .long (x4 + (0 : Int64)), pu, .int (x6 + (1 : Int32)), pu]) ⟨Or.inl rfl, ⟨Or.inl rfl, ⟨Or.inl rfl, ⟨Or.inl rfl, ⟨Or.inl rfl, ⟨Or.inl rfl, ⟨Or.inl rfl, ⟨Or.inr ⟨rfl, rfl⟩, trivial⟩⟩⟩⟩⟩⟩⟩⟩ ?_
                exact ih x1 (x2 + (1 : Int64)) (x4 + (0 : Int64)) (x6 + (1 : Int32)) s3 k hX75
              · have k := k.2 c
                refine Ex.seg hq 3 (j := 67) (L' := [.ref 55, .int x1, .long (x2 + (1 : Int64)), pu, .long x4, pu, .int x6, .int ((s.2.1 72) (x6).toNatClampNeg)]) (S' := [.int ((s.2.1 72) (x6).toNatClampNeg), .ref 73, .long x4]) (h' := hpS s3) rfl ?_
                obtain ⟨hin, k⟩ := k
                refine Ex.ial hq rfl rfl hin ?_
                refine Ex.seg hq 6 (j := 6) (L' := [.ref 55, .int x1, .long (x2 + (1 : Int64)), pu, .long (x4 + ((((s3.2.1 73) (((s.2.1 72) (x6).toNatClampNeg)).toNatClampNeg)).toInt64)), pu, .int (x6 + (1 : Int32)), .int ((s.2.1 72) (x6).toNatClampNeg)]) (S' := []) (h' := hpS s3) rfl ?_
                refine Ex.fg (L := [.ref 55, .int x1, .long (x2 + (1 : Int64)), pu, .long (x4 + ((((s3.2.1 73) (((s.2.1 72) (x6).toNatClampNeg)).toNatClampNeg)).toInt64)), pu, .int (x6 + (1 : Int32)), pu]) ⟨Or.inl rfl, ⟨Or.inl rfl, ⟨Or.inl rfl, ⟨Or.inl rfl, ⟨Or.inl rfl, ⟨Or.inl rfl, ⟨Or.inl rfl, ⟨Or.inr ⟨rfl, rfl⟩, trivial⟩⟩⟩⟩⟩⟩⟩⟩ ?_
                exact ih x1 (x2 + (1 : Int64)) (x4 + ((((s3.2.1 73) (((s.2.1 72) (x6).toNatClampNeg)).toNatClampNeg)).toInt64)) (x6 + (1 : Int32)) s3 k hX75
      · have k := k.2 c
        refine Ex.seg hq 3 (j := 6) (L' := [.ref 55, .int x1, .long x2, pu, .long x4, pu, .int (x6 + (1 : Int32)), .int ((s.2.1 72) (x6).toNatClampNeg)]) (S' := []) (h' := hpS s) rfl ?_
        refine Ex.fg (L := [.ref 55, .int x1, .long x2, pu, .long x4, pu, .int (x6 + (1 : Int32)), pu]) ⟨Or.inl rfl, ⟨Or.inl rfl, ⟨Or.inl rfl, ⟨Or.inl rfl, ⟨Or.inl rfl, ⟨Or.inl rfl, ⟨Or.inl rfl, ⟨Or.inr ⟨rfl, rfl⟩, trivial⟩⟩⟩⟩⟩⟩⟩⟩ ?_
        exact ih x1 x2 x4 (x6 + (1 : Int32)) s k hX75
/-- RowAuditorModel.setsFacts(I)V -/
def w_230 (p1 : Int32) (s : ST) (K : ST → Prop) : Prop := (∃ m, w_230_L6 m p1 (0 : Int64) (0 : Int64) (0 : Int32) s (fun y1 y2 y4 s5 => (pin y1 150 = true ∧ (pin (0 : Int32) 13 = true ∧ (pin y1 150 = true ∧ (pin (1 : Int32) 13 = true ∧ (pin y1 150 = true ∧ (pin (2 : Int32) 13 = true ∧ (pin y1 150 = true ∧ (pin (3 : Int32) 13 = true ∧ (pin y1 150 = true ∧ (pin (4 : Int32) 13 = true ∧ w_228 y1 (sL s5 93 (vp_updL (vp_updL (vp_updL (vp_updL (vp_updL (s5.2.2.1 93) ((0 : Int32)).toNatClampNeg ((((s5.2.1 57) (y1).toNatClampNeg)).toInt64)) ((1 : Int32)).toNatClampNeg ((((s5.2.1 73) (y1).toNatClampNeg)).toInt64)) ((2 : Int32)).toNatClampNeg ((((s5.2.1 60) (y1).toNatClampNeg)).toInt64)) ((3 : Int32)).toNatClampNeg ((((s5.2.1 61) (y1).toNatClampNeg)).toInt64)) ((4 : Int32)).toNatClampNeg ((((s5.2.1 63) (y1).toNatClampNeg)).toInt64))) (fun r7 s6 => (pin (5 : Int32) 13 = true ∧ (pin y1 150 = true ∧ (pin (6 : Int32) 13 = true ∧ (pin y1 150 = true ∧ ((¬ ((s6.2.1 57) (y1).toNatClampNeg) = (2 : Int32) → (pin (7 : Int32) 13 = true ∧ w_229 y1 (sL s6 93 (vp_updL (vp_updL (vp_updL (s6.2.2.1 93) ((5 : Int32)).toNatClampNeg ((r7).toInt64)) ((6 : Int32)).toNatClampNeg ((((s6.2.1 58) (y1).toNatClampNeg)).toInt64)) ((7 : Int32)).toNatClampNeg (-1 : Int64))) (fun r9 s8 => (pin (8 : Int32) 13 = true ∧ (pin y1 150 = true ∧ (pin (9 : Int32) 13 = true ∧ (pin y1 150 = true ∧ (pin y1 150 = true ∧ (pin (10 : Int32) 13 = true ∧ (pin (11 : Int32) 13 = true ∧ (pin (12 : Int32) 13 = true ∧ K (sL s8 93 (vp_updL (vp_updL (vp_updL (vp_updL (vp_updL (s8.2.2.1 93) ((8 : Int32)).toNatClampNeg ((r9).toInt64)) ((9 : Int32)).toNatClampNeg ((((s8.2.1 65) (y1).toNatClampNeg)).toInt64)) ((10 : Int32)).toNatClampNeg (((((s8.2.1 66) (y1).toNatClampNeg) - ((s8.2.1 60) (y1).toNatClampNeg))).toInt64)) ((11 : Int32)).toNatClampNeg y2) ((12 : Int32)).toNatClampNeg y4))))))))))))) ∧ (¬ (¬ ((s6.2.1 57) (y1).toNatClampNeg) = (2 : Int32)) → (pin y1 150 = true ∧ (pin (7 : Int32) 13 = true ∧ w_229 y1 (sL s6 93 (vp_updL (vp_updL (vp_updL (s6.2.2.1 93) ((5 : Int32)).toNatClampNeg ((r7).toInt64)) ((6 : Int32)).toNatClampNeg ((((s6.2.1 58) (y1).toNatClampNeg)).toInt64)) ((7 : Int32)).toNatClampNeg ((((s6.2.1 59) (y1).toNatClampNeg)).toInt64))) (fun r11 s10 => (pin (8 : Int32) 13 = true ∧ (pin y1 150 = true ∧ (pin (9 : Int32) 13 = true ∧ (pin y1 150 = true ∧ (pin y1 150 = true ∧ (pin (10 : Int32) 13 = true ∧ (pin (11 : Int32) 13 = true ∧ (pin (12 : Int32) 13 = true ∧ K (sL s10 93 (vp_updL (vp_updL (vp_updL (vp_updL (vp_updL (s10.2.2.1 93) ((8 : Int32)).toNatClampNeg ((r11).toInt64)) ((9 : Int32)).toNatClampNeg ((((s10.2.1 65) (y1).toNatClampNeg)).toInt64)) ((10 : Int32)).toNatClampNeg (((((s10.2.1 66) (y1).toNatClampNeg) - ((s10.2.1 60) (y1).toNatClampNeg))).toInt64)) ((11 : Int32)).toNatClampNeg y2) ((12 : Int32)).toNatClampNeg y4))))))))))))))))))))))))))))))) K)
theorem q_230 {d : Nat} {K : ST → Prop} (p1 : Int32) (s : ST) (k : w_230 p1 s K) : Rn sc (d + 1) 230 [.ref 55, .int p1] (hpS s) (kV K) := by
  have hq : prog[230]? = some pm230 := rfl
  refine Rn.of (L := [.ref 55, .int p1, pu, pu, pu, pu, pu, pu]) hq rfl rfl ?_
  unfold w_230 at k
  refine Ex.seg hq 6 (j := 6) (L' := [.ref 55, .int p1, .long (0 : Int64), pu, .long (0 : Int64), pu, .int (0 : Int32), pu]) (S' := []) (h' := hpS s) rfl ?_
  obtain ⟨m, k⟩ := k
  refine q_230_L6 (d := d) m p1 (0 : Int64) (0 : Int64) (0 : Int32) s k ?_
  · intro y1 y2 y4 s5 k
    refine Ex.seg hq 6 (j := 81) (L' := [.ref 55, .int y1, .long y2, pu, .long y4, pu, pu, pu]) (S' := [.int y1, .ref 57, .int (0 : Int32), .ref 93]) (h' := hpS s5) rfl ?_
    obtain ⟨hin, k⟩ := k
    refine Ex.ial hq rfl rfl hin ?_
    refine Ex.seg hq 1 (j := 83) (L' := [.ref 55, .int y1, .long y2, pu, .long y4, pu, pu, pu]) (S' := [.long ((((s5.2.1 57) (y1).toNatClampNeg)).toInt64), .int (0 : Int32), .ref 93]) (h' := hpS s5) rfl ?_
    obtain ⟨hin, k⟩ := k
    refine Ex.las hq rfl rfl hin (h' := hpS (sL s5 93 (vp_updL (s5.2.2.1 93) ((0 : Int32)).toNatClampNeg ((((s5.2.1 57) (y1).toNatClampNeg)).toInt64)))) (hset_93 _ _) ?_
    refine Ex.seg hq 6 (j := 90) (L' := [.ref 55, .int y1, .long y2, pu, .long y4, pu, pu, pu]) (S' := [.int y1, .ref 73, .int (1 : Int32), .ref 93]) (h' := hpS (sL s5 93 (vp_updL (s5.2.2.1 93) ((0 : Int32)).toNatClampNeg ((((s5.2.1 57) (y1).toNatClampNeg)).toInt64)))) rfl ?_
    obtain ⟨hin, k⟩ := k
    refine Ex.ial hq rfl rfl hin ?_
    refine Ex.seg hq 1 (j := 92) (L' := [.ref 55, .int y1, .long y2, pu, .long y4, pu, pu, pu]) (S' := [.long ((((s5.2.1 73) (y1).toNatClampNeg)).toInt64), .int (1 : Int32), .ref 93]) (h' := hpS (sL s5 93 (vp_updL (s5.2.2.1 93) ((0 : Int32)).toNatClampNeg ((((s5.2.1 57) (y1).toNatClampNeg)).toInt64)))) rfl ?_
    obtain ⟨hin, k⟩ := k
    refine Ex.las hq rfl rfl hin (h' := hpS (sL s5 93 (vp_updL (vp_updL (s5.2.2.1 93) ((0 : Int32)).toNatClampNeg ((((s5.2.1 57) (y1).toNatClampNeg)).toInt64)) ((1 : Int32)).toNatClampNeg ((((s5.2.1 73) (y1).toNatClampNeg)).toInt64)))) (hset_93 _ _) ?_
    refine Ex.seg hq 6 (j := 99) (L' := [.ref 55, .int y1, .long y2, pu, .long y4, pu, pu, pu]) (S' := [.int y1, .ref 60, .int (2 : Int32), .ref 93]) (h' := hpS (sL s5 93 (vp_updL (vp_updL (s5.2.2.1 93) ((0 : Int32)).toNatClampNeg ((((s5.2.1 57) (y1).toNatClampNeg)).toInt64)) ((1 : Int32)).toNatClampNeg ((((s5.2.1 73) (y1).toNatClampNeg)).toInt64)))) rfl ?_
    obtain ⟨hin, k⟩ := k
    refine Ex.ial hq rfl rfl hin ?_
    refine Ex.seg hq 1 (j := 101) (L' := [.ref 55, .int y1, .long y2, pu, .long y4, pu, pu, pu]) (S' := [.long ((((s5.2.1 60) (y1).toNatClampNeg)).toInt64), .int (2 : Int32), .ref 93]) (h' := hpS (sL s5 93 (vp_updL (vp_updL (s5.2.2.1 93) ((0 : Int32)).toNatClampNeg ((((s5.2.1 57) (y1).toNatClampNeg)).toInt64)) ((1 : Int32)).toNatClampNeg ((((s5.2.1 73) (y1).toNatClampNeg)).toInt64)))) rfl ?_
    obtain ⟨hin, k⟩ := k
    refine Ex.las hq rfl rfl hin (h' := hpS (sL s5 93 (vp_updL (vp_updL (vp_updL (s5.2.2.1 93) ((0 : Int32)).toNatClampNeg ((((s5.2.1 57) (y1).toNatClampNeg)).toInt64)) ((1 : Int32)).toNatClampNeg ((((s5.2.1 73) (y1).toNatClampNeg)).toInt64)) ((2 : Int32)).toNatClampNeg ((((s5.2.1 60) (y1).toNatClampNeg)).toInt64)))) (hset_93 _ _) ?_
    refine Ex.seg hq 6 (j := 108) (L' := [.ref 55, .int y1, .long y2, pu, .long y4, pu, pu, pu]) (S' := [.int y1, .ref 61, .int (3 : Int32), .ref 93]) (h' := hpS (sL s5 93 (vp_updL (vp_updL (vp_updL (s5.2.2.1 93) ((0 : Int32)).toNatClampNeg ((((s5.2.1 57) (y1).toNatClampNeg)).toInt64)) ((1 : Int32)).toNatClampNeg ((((s5.2.1 73) (y1).toNatClampNeg)).toInt64)) ((2 : Int32)).toNatClampNeg ((((s5.2.1 60) (y1).toNatClampNeg)).toInt64)))) rfl ?_
    obtain ⟨hin, k⟩ := k
    refine Ex.ial hq rfl rfl hin ?_
    refine Ex.seg hq 1 (j := 110) (L' := [.ref 55, .int y1, .long y2, pu, .long y4, pu, pu, pu]) (S' := [.long ((((s5.2.1 61) (y1).toNatClampNeg)).toInt64), .int (3 : Int32), .ref 93]) (h' := hpS (sL s5 93 (vp_updL (vp_updL (vp_updL (s5.2.2.1 93) ((0 : Int32)).toNatClampNeg ((((s5.2.1 57) (y1).toNatClampNeg)).toInt64)) ((1 : Int32)).toNatClampNeg ((((s5.2.1 73) (y1).toNatClampNeg)).toInt64)) ((2 : Int32)).toNatClampNeg ((((s5.2.1 60) (y1).toNatClampNeg)).toInt64)))) rfl ?_
    obtain ⟨hin, k⟩ := k
    refine Ex.las hq rfl rfl hin (h' := hpS (sL s5 93 (vp_updL (vp_updL (vp_updL (vp_updL (s5.2.2.1 93) ((0 : Int32)).toNatClampNeg ((((s5.2.1 57) (y1).toNatClampNeg)).toInt64)) ((1 : Int32)).toNatClampNeg ((((s5.2.1 73) (y1).toNatClampNeg)).toInt64)) ((2 : Int32)).toNatClampNeg ((((s5.2.1 60) (y1).toNatClampNeg)).toInt64)) ((3 : Int32)).toNatClampNeg ((((s5.2.1 61) (y1).toNatClampNeg)).toInt64)))) (hset_93 _ _) ?_
    refine Ex.seg hq 6 (j := 117) (L' := [.ref 55, .int y1, .long y2, pu, .long y4, pu, pu, pu]) (S' := [.int y1, .ref 63, .int (4 : Int32), .ref 93]) (h' := hpS (sL s5 93 (vp_updL (vp_updL (vp_updL (vp_updL (s5.2.2.1 93) ((0 : Int32)).toNatClampNeg ((((s5.2.1 57) (y1).toNatClampNeg)).toInt64)) ((1 : Int32)).toNatClampNeg ((((s5.2.1 73) (y1).toNatClampNeg)).toInt64)) ((2 : Int32)).toNatClampNeg ((((s5.2.1 60) (y1).toNatClampNeg)).toInt64)) ((3 : Int32)).toNatClampNeg ((((s5.2.1 61) (y1).toNatClampNeg)).toInt64)))) rfl ?_
    obtain ⟨hin, k⟩ := k
    refine Ex.ial hq rfl rfl hin ?_
    refine Ex.seg hq 1 (j := 119) (L' := [.ref 55, .int y1, .long y2, pu, .long y4, pu, pu, pu]) (S' := [.long ((((s5.2.1 63) (y1).toNatClampNeg)).toInt64), .int (4 : Int32), .ref 93]) (h' := hpS (sL s5 93 (vp_updL (vp_updL (vp_updL (vp_updL (s5.2.2.1 93) ((0 : Int32)).toNatClampNeg ((((s5.2.1 57) (y1).toNatClampNeg)).toInt64)) ((1 : Int32)).toNatClampNeg ((((s5.2.1 73) (y1).toNatClampNeg)).toInt64)) ((2 : Int32)).toNatClampNeg ((((s5.2.1 60) (y1).toNatClampNeg)).toInt64)) ((3 : Int32)).toNatClampNeg ((((s5.2.1 61) (y1).toNatClampNeg)).toInt64)))) rfl ?_
    obtain ⟨hin, k⟩ := k
    refine Ex.las hq rfl rfl hin (h' := hpS (sL s5 93 (vp_updL (vp_updL (vp_updL (vp_updL (vp_updL (s5.2.2.1 93) ((0 : Int32)).toNatClampNeg ((((s5.2.1 57) (y1).toNatClampNeg)).toInt64)) ((1 : Int32)).toNatClampNeg ((((s5.2.1 73) (y1).toNatClampNeg)).toInt64)) ((2 : Int32)).toNatClampNeg ((((s5.2.1 60) (y1).toNatClampNeg)).toInt64)) ((3 : Int32)).toNatClampNeg ((((s5.2.1 61) (y1).toNatClampNeg)).toInt64)) ((4 : Int32)).toNatClampNeg ((((s5.2.1 63) (y1).toNatClampNeg)).toInt64)))) (hset_93 _ _) ?_
    refine Ex.seg hq 5 (j := 125) (L' := [.ref 55, .int y1, .long y2, pu, .long y4, pu, pu, pu]) (S' := [.int y1, .ref 55, .int (5 : Int32), .ref 93]) (h' := hpS (sL s5 93 (vp_updL (vp_updL (vp_updL (vp_updL (vp_updL (s5.2.2.1 93) ((0 : Int32)).toNatClampNeg ((((s5.2.1 57) (y1).toNatClampNeg)).toInt64)) ((1 : Int32)).toNatClampNeg ((((s5.2.1 73) (y1).toNatClampNeg)).toInt64)) ((2 : Int32)).toNatClampNeg ((((s5.2.1 60) (y1).toNatClampNeg)).toInt64)) ((3 : Int32)).toNatClampNeg ((((s5.2.1 61) (y1).toNatClampNeg)).toInt64)) ((4 : Int32)).toNatClampNeg ((((s5.2.1 63) (y1).toNatClampNeg)).toInt64)))) rfl ?_
    refine Ex.cl hq rfl rfl ?_
    refine Rn.mono (q_228 (d := d + 0) y1 (sL s5 93 (vp_updL (vp_updL (vp_updL (vp_updL (vp_updL (s5.2.2.1 93) ((0 : Int32)).toNatClampNeg ((((s5.2.1 57) (y1).toNatClampNeg)).toInt64)) ((1 : Int32)).toNatClampNeg ((((s5.2.1 73) (y1).toNatClampNeg)).toInt64)) ((2 : Int32)).toNatClampNeg ((((s5.2.1 60) (y1).toNatClampNeg)).toInt64)) ((3 : Int32)).toNatClampNeg ((((s5.2.1 61) (y1).toNatClampNeg)).toInt64)) ((4 : Int32)).toNatClampNeg ((((s5.2.1 63) (y1).toNatClampNeg)).toInt64))) k) ?_
    rintro _ _ ⟨r7, s6, rfl, rfl, k⟩
    show Ex sc (d + 1) 230 126 [.ref 55, .int y1, .long y2, pu, .long y4, pu, pu, pu] [.int r7, .int (5 : Int32), .ref 93] (hpS s6) _
    refine Ex.seg hq 1 (j := 127) (L' := [.ref 55, .int y1, .long y2, pu, .long y4, pu, pu, pu]) (S' := [.long ((r7).toInt64), .int (5 : Int32), .ref 93]) (h' := hpS s6) rfl ?_
    obtain ⟨hin, k⟩ := k
    refine Ex.las hq rfl rfl hin (h' := hpS (sL s6 93 (vp_updL (s6.2.2.1 93) ((5 : Int32)).toNatClampNeg ((r7).toInt64)))) (hset_93 _ _) ?_
    refine Ex.seg hq 6 (j := 134) (L' := [.ref 55, .int y1, .long y2, pu, .long y4, pu, pu, pu]) (S' := [.int y1, .ref 58, .int (6 : Int32), .ref 93]) (h' := hpS (sL s6 93 (vp_updL (s6.2.2.1 93) ((5 : Int32)).toNatClampNeg ((r7).toInt64)))) rfl ?_
    obtain ⟨hin, k⟩ := k
    refine Ex.ial hq rfl rfl hin ?_
    refine Ex.seg hq 1 (j := 136) (L' := [.ref 55, .int y1, .long y2, pu, .long y4, pu, pu, pu]) (S' := [.long ((((s6.2.1 58) (y1).toNatClampNeg)).toInt64), .int (6 : Int32), .ref 93]) (h' := hpS (sL s6 93 (vp_updL (s6.2.2.1 93) ((5 : Int32)).toNatClampNeg ((r7).toInt64)))) rfl ?_
    obtain ⟨hin, k⟩ := k
    refine Ex.las hq rfl rfl hin (h' := hpS (sL s6 93 (vp_updL (vp_updL (s6.2.2.1 93) ((5 : Int32)).toNatClampNeg ((r7).toInt64)) ((6 : Int32)).toNatClampNeg ((((s6.2.1 58) (y1).toNatClampNeg)).toInt64)))) (hset_93 _ _) ?_
    refine Ex.seg hq 6 (j := 143) (L' := [.ref 55, .int y1, .long y2, pu, .long y4, pu, pu, pu]) (S' := [.int y1, .ref 57, .int (7 : Int32), .ref 93]) (h' := hpS (sL s6 93 (vp_updL (vp_updL (s6.2.2.1 93) ((5 : Int32)).toNatClampNeg ((r7).toInt64)) ((6 : Int32)).toNatClampNeg ((((s6.2.1 58) (y1).toNatClampNeg)).toInt64)))) rfl ?_
    obtain ⟨hin, k⟩ := k
    refine Ex.ial hq rfl rfl hin ?_
    refine Ex.seg hq 1 (j := 145) (L' := [.ref 55, .int y1, .long y2, pu, .long y4, pu, pu, pu]) (S' := [.int (2 : Int32), .int ((s6.2.1 57) (y1).toNatClampNeg), .int (7 : Int32), .ref 93]) (h' := hpS (sL s6 93 (vp_updL (vp_updL (s6.2.2.1 93) ((5 : Int32)).toNatClampNeg ((r7).toInt64)) ((6 : Int32)).toNatClampNeg ((((s6.2.1 58) (y1).toNatClampNeg)).toInt64)))) rfl ?_
    refine Ex.i2 hq rfl (fun c => ?_) (fun c => ?_)
    · have k := k.1 c
      refine Ex.seg hq 1 (j := 153) (L' := [.ref 55, .int y1, .long y2, pu, .long y4, pu, pu, pu]) (S' := [.long (-1 : Int64), .int (7 : Int32), .ref 93]) (h' := hpS (sL s6 93 (vp_updL (vp_updL (s6.2.2.1 93) ((5 : Int32)).toNatClampNeg ((r7).toInt64)) ((6 : Int32)).toNatClampNeg ((((s6.2.1 58) (y1).toNatClampNeg)).toInt64)))) rfl ?_
      obtain ⟨hin, k⟩ := k
      refine Ex.las hq rfl rfl hin (h' := hpS (sL s6 93 (vp_updL (vp_updL (vp_updL (s6.2.2.1 93) ((5 : Int32)).toNatClampNeg ((r7).toInt64)) ((6 : Int32)).toNatClampNeg ((((s6.2.1 58) (y1).toNatClampNeg)).toInt64)) ((7 : Int32)).toNatClampNeg (-1 : Int64)))) (hset_93 _ _) ?_
      refine Ex.seg hq 5 (j := 159) (L' := [.ref 55, .int y1, .long y2, pu, .long y4, pu, pu, pu]) (S' := [.int y1, .ref 55, .int (8 : Int32), .ref 93]) (h' := hpS (sL s6 93 (vp_updL (vp_updL (vp_updL (s6.2.2.1 93) ((5 : Int32)).toNatClampNeg ((r7).toInt64)) ((6 : Int32)).toNatClampNeg ((((s6.2.1 58) (y1).toNatClampNeg)).toInt64)) ((7 : Int32)).toNatClampNeg (-1 : Int64)))) rfl ?_
      refine Ex.cl hq rfl rfl ?_
      refine Rn.mono (q_229 (d := d + 0) y1 (sL s6 93 (vp_updL (vp_updL (vp_updL (s6.2.2.1 93) ((5 : Int32)).toNatClampNeg ((r7).toInt64)) ((6 : Int32)).toNatClampNeg ((((s6.2.1 58) (y1).toNatClampNeg)).toInt64)) ((7 : Int32)).toNatClampNeg (-1 : Int64))) k) ?_
      rintro _ _ ⟨r9, s8, rfl, rfl, k⟩
      show Ex sc (d + 1) 230 160 [.ref 55, .int y1, .long y2, pu, .long y4, pu, pu, pu] [.int r9, .int (8 : Int32), .ref 93] (hpS s8) _
      refine Ex.seg hq 1 (j := 161) (L' := [.ref 55, .int y1, .long y2, pu, .long y4, pu, pu, pu]) (S' := [.long ((r9).toInt64), .int (8 : Int32), .ref 93]) (h' := hpS s8) rfl ?_
      obtain ⟨hin, k⟩ := k
      refine Ex.las hq rfl rfl hin (h' := hpS (sL s8 93 (vp_updL (s8.2.2.1 93) ((8 : Int32)).toNatClampNeg ((r9).toInt64)))) (hset_93 _ _) ?_
      refine Ex.seg hq 6 (j := 168) (L' := [.ref 55, .int y1, .long y2, pu, .long y4, pu, pu, pu]) (S' := [.int y1, .ref 65, .int (9 : Int32), .ref 93]) (h' := hpS (sL s8 93 (vp_updL (s8.2.2.1 93) ((8 : Int32)).toNatClampNeg ((r9).toInt64)))) rfl ?_
      obtain ⟨hin, k⟩ := k
      refine Ex.ial hq rfl rfl hin ?_
      refine Ex.seg hq 1 (j := 170) (L' := [.ref 55, .int y1, .long y2, pu, .long y4, pu, pu, pu]) (S' := [.long ((((s8.2.1 65) (y1).toNatClampNeg)).toInt64), .int (9 : Int32), .ref 93]) (h' := hpS (sL s8 93 (vp_updL (s8.2.2.1 93) ((8 : Int32)).toNatClampNeg ((r9).toInt64)))) rfl ?_
      obtain ⟨hin, k⟩ := k
      refine Ex.las hq rfl rfl hin (h' := hpS (sL s8 93 (vp_updL (vp_updL (s8.2.2.1 93) ((8 : Int32)).toNatClampNeg ((r9).toInt64)) ((9 : Int32)).toNatClampNeg ((((s8.2.1 65) (y1).toNatClampNeg)).toInt64)))) (hset_93 _ _) ?_
      refine Ex.seg hq 6 (j := 177) (L' := [.ref 55, .int y1, .long y2, pu, .long y4, pu, pu, pu]) (S' := [.int y1, .ref 66, .int (10 : Int32), .ref 93]) (h' := hpS (sL s8 93 (vp_updL (vp_updL (s8.2.2.1 93) ((8 : Int32)).toNatClampNeg ((r9).toInt64)) ((9 : Int32)).toNatClampNeg ((((s8.2.1 65) (y1).toNatClampNeg)).toInt64)))) rfl ?_
      obtain ⟨hin, k⟩ := k
      refine Ex.ial hq rfl rfl hin ?_
      refine Ex.seg hq 3 (j := 181) (L' := [.ref 55, .int y1, .long y2, pu, .long y4, pu, pu, pu]) (S' := [.int y1, .ref 60, .int ((s8.2.1 66) (y1).toNatClampNeg), .int (10 : Int32), .ref 93]) (h' := hpS (sL s8 93 (vp_updL (vp_updL (s8.2.2.1 93) ((8 : Int32)).toNatClampNeg ((r9).toInt64)) ((9 : Int32)).toNatClampNeg ((((s8.2.1 65) (y1).toNatClampNeg)).toInt64)))) rfl ?_
      obtain ⟨hin, k⟩ := k
      refine Ex.ial hq rfl rfl hin ?_
      refine Ex.seg hq 2 (j := 184) (L' := [.ref 55, .int y1, .long y2, pu, .long y4, pu, pu, pu]) (S' := [.long (((((s8.2.1 66) (y1).toNatClampNeg) - ((s8.2.1 60) (y1).toNatClampNeg))).toInt64), .int (10 : Int32), .ref 93]) (h' := hpS (sL s8 93 (vp_updL (vp_updL (s8.2.2.1 93) ((8 : Int32)).toNatClampNeg ((r9).toInt64)) ((9 : Int32)).toNatClampNeg ((((s8.2.1 65) (y1).toNatClampNeg)).toInt64)))) rfl ?_
      obtain ⟨hin, k⟩ := k
      refine Ex.las hq rfl rfl hin (h' := hpS (sL s8 93 (vp_updL (vp_updL (vp_updL (s8.2.2.1 93) ((8 : Int32)).toNatClampNeg ((r9).toInt64)) ((9 : Int32)).toNatClampNeg ((((s8.2.1 65) (y1).toNatClampNeg)).toInt64)) ((10 : Int32)).toNatClampNeg (((((s8.2.1 66) (y1).toNatClampNeg) - ((s8.2.1 60) (y1).toNatClampNeg))).toInt64)))) (hset_93 _ _) ?_
      refine Ex.seg hq 4 (j := 189) (L' := [.ref 55, .int y1, .long y2, pu, .long y4, pu, pu, pu]) (S' := [.long y2, .int (11 : Int32), .ref 93]) (h' := hpS (sL s8 93 (vp_updL (vp_updL (vp_updL (s8.2.2.1 93) ((8 : Int32)).toNatClampNeg ((r9).toInt64)) ((9 : Int32)).toNatClampNeg ((((s8.2.1 65) (y1).toNatClampNeg)).toInt64)) ((10 : Int32)).toNatClampNeg (((((s8.2.1 66) (y1).toNatClampNeg) - ((s8.2.1 60) (y1).toNatClampNeg))).toInt64)))) rfl ?_
      obtain ⟨hin, k⟩ := k
      refine Ex.las hq rfl rfl hin (h' := hpS (sL s8 93 (vp_updL (vp_updL (vp_updL (vp_updL (s8.2.2.1 93) ((8 : Int32)).toNatClampNeg ((r9).toInt64)) ((9 : Int32)).toNatClampNeg ((((s8.2.1 65) (y1).toNatClampNeg)).toInt64)) ((10 : Int32)).toNatClampNeg (((((s8.2.1 66) (y1).toNatClampNeg) - ((s8.2.1 60) (y1).toNatClampNeg))).toInt64)) ((11 : Int32)).toNatClampNeg y2))) (hset_93 _ _) ?_
      refine Ex.seg hq 4 (j := 194) (L' := [.ref 55, .int y1, .long y2, pu, .long y4, pu, pu, pu]) (S' := [.long y4, .int (12 : Int32), .ref 93]) (h' := hpS (sL s8 93 (vp_updL (vp_updL (vp_updL (vp_updL (s8.2.2.1 93) ((8 : Int32)).toNatClampNeg ((r9).toInt64)) ((9 : Int32)).toNatClampNeg ((((s8.2.1 65) (y1).toNatClampNeg)).toInt64)) ((10 : Int32)).toNatClampNeg (((((s8.2.1 66) (y1).toNatClampNeg) - ((s8.2.1 60) (y1).toNatClampNeg))).toInt64)) ((11 : Int32)).toNatClampNeg y2))) rfl ?_
      obtain ⟨hin, k⟩ := k
      refine Ex.las hq rfl rfl hin (h' := hpS (sL s8 93 (vp_updL (vp_updL (vp_updL (vp_updL (vp_updL (s8.2.2.1 93) ((8 : Int32)).toNatClampNeg ((r9).toInt64)) ((9 : Int32)).toNatClampNeg ((((s8.2.1 65) (y1).toNatClampNeg)).toInt64)) ((10 : Int32)).toNatClampNeg (((((s8.2.1 66) (y1).toNatClampNeg) - ((s8.2.1 60) (y1).toNatClampNeg))).toInt64)) ((11 : Int32)).toNatClampNeg y2) ((12 : Int32)).toNatClampNeg y4))) (hset_93 _ _) ?_
      exact Ex.rt hq rfl rfl ⟨(sL s8 93 (vp_updL (vp_updL (vp_updL (vp_updL (vp_updL (s8.2.2.1 93) ((8 : Int32)).toNatClampNeg ((r9).toInt64)) ((9 : Int32)).toNatClampNeg ((((s8.2.1 65) (y1).toNatClampNeg)).toInt64)) ((10 : Int32)).toNatClampNeg (((((s8.2.1 66) (y1).toNatClampNeg) - ((s8.2.1 60) (y1).toNatClampNeg))).toInt64)) ((11 : Int32)).toNatClampNeg y2) ((12 : Int32)).toNatClampNeg y4)), rfl, rfl, k⟩
    · have k := k.2 c
      refine Ex.seg hq 3 (j := 149) (L' := [.ref 55, .int y1, .long y2, pu, .long y4, pu, pu, pu]) (S' := [.int y1, .ref 59, .int (7 : Int32), .ref 93]) (h' := hpS (sL s6 93 (vp_updL (vp_updL (s6.2.2.1 93) ((5 : Int32)).toNatClampNeg ((r7).toInt64)) ((6 : Int32)).toNatClampNeg ((((s6.2.1 58) (y1).toNatClampNeg)).toInt64)))) rfl ?_
      obtain ⟨hin, k⟩ := k
      refine Ex.ial hq rfl rfl hin ?_
      refine Ex.seg hq 2 (j := 153) (L' := [.ref 55, .int y1, .long y2, pu, .long y4, pu, pu, pu]) (S' := [.long ((((s6.2.1 59) (y1).toNatClampNeg)).toInt64), .int (7 : Int32), .ref 93]) (h' := hpS (sL s6 93 (vp_updL (vp_updL (s6.2.2.1 93) ((5 : Int32)).toNatClampNeg ((r7).toInt64)) ((6 : Int32)).toNatClampNeg ((((s6.2.1 58) (y1).toNatClampNeg)).toInt64)))) rfl ?_
      obtain ⟨hin, k⟩ := k
      refine Ex.las hq rfl rfl hin (h' := hpS (sL s6 93 (vp_updL (vp_updL (vp_updL (s6.2.2.1 93) ((5 : Int32)).toNatClampNeg ((r7).toInt64)) ((6 : Int32)).toNatClampNeg ((((s6.2.1 58) (y1).toNatClampNeg)).toInt64)) ((7 : Int32)).toNatClampNeg ((((s6.2.1 59) (y1).toNatClampNeg)).toInt64)))) (hset_93 _ _) ?_
      refine Ex.seg hq 5 (j := 159) (L' := [.ref 55, .int y1, .long y2, pu, .long y4, pu, pu, pu]) (S' := [.int y1, .ref 55, .int (8 : Int32), .ref 93]) (h' := hpS (sL s6 93 (vp_updL (vp_updL (vp_updL (s6.2.2.1 93) ((5 : Int32)).toNatClampNeg ((r7).toInt64)) ((6 : Int32)).toNatClampNeg ((((s6.2.1 58) (y1).toNatClampNeg)).toInt64)) ((7 : Int32)).toNatClampNeg ((((s6.2.1 59) (y1).toNatClampNeg)).toInt64)))) rfl ?_
      refine Ex.cl hq rfl rfl ?_
      refine Rn.mono (q_229 (d := d + 0) y1 (sL s6 93 (vp_updL (vp_updL (vp_updL (s6.2.2.1 93) ((5 : Int32)).toNatClampNeg ((r7).toInt64)) ((6 : Int32)).toNatClampNeg ((((s6.2.1 58) (y1).toNatClampNeg)).toInt64)) ((7 : Int32)).toNatClampNeg ((((s6.2.1 59) (y1).toNatClampNeg)).toInt64))) k) ?_
      rintro _ _ ⟨r11, s10, rfl, rfl, k⟩
      show Ex sc (d + 1) 230 160 [.ref 55, .int y1, .long y2, pu, .long y4, pu, pu, pu] [.int r11, .int (8 : Int32), .ref 93] (hpS s10) _
      refine Ex.seg hq 1 (j := 161) (L' := [.ref 55, .int y1, .long y2, pu, .long y4, pu, pu, pu]) (S' := [.long ((r11).toInt64), .int (8 : Int32), .ref 93]) (h' := hpS s10) rfl ?_
      obtain ⟨hin, k⟩ := k
      refine Ex.las hq rfl rfl hin (h' := hpS (sL s10 93 (vp_updL (s10.2.2.1 93) ((8 : Int32)).toNatClampNeg ((r11).toInt64)))) (hset_93 _ _) ?_
      refine Ex.seg hq 6 (j := 168) (L' := [.ref 55, .int y1, .long y2, pu, .long y4, pu, pu, pu]) (S' := [.int y1, .ref 65, .int (9 : Int32), .ref 93]) (h' := hpS (sL s10 93 (vp_updL (s10.2.2.1 93) ((8 : Int32)).toNatClampNeg ((r11).toInt64)))) rfl ?_
      obtain ⟨hin, k⟩ := k
      refine Ex.ial hq rfl rfl hin ?_
      refine Ex.seg hq 1 (j := 170) (L' := [.ref 55, .int y1, .long y2, pu, .long y4, pu, pu, pu]) (S' := [.long ((((s10.2.1 65) (y1).toNatClampNeg)).toInt64), .int (9 : Int32), .ref 93]) (h' := hpS (sL s10 93 (vp_updL (s10.2.2.1 93) ((8 : Int32)).toNatClampNeg ((r11).toInt64)))) rfl ?_
      obtain ⟨hin, k⟩ := k
      refine Ex.las hq rfl rfl hin (h' := hpS (sL s10 93 (vp_updL (vp_updL (s10.2.2.1 93) ((8 : Int32)).toNatClampNeg ((r11).toInt64)) ((9 : Int32)).toNatClampNeg ((((s10.2.1 65) (y1).toNatClampNeg)).toInt64)))) (hset_93 _ _) ?_
      refine Ex.seg hq 6 (j := 177) (L' := [.ref 55, .int y1, .long y2, pu, .long y4, pu, pu, pu]) (S' := [.int y1, .ref 66, .int (10 : Int32), .ref 93]) (h' := hpS (sL s10 93 (vp_updL (vp_updL (s10.2.2.1 93) ((8 : Int32)).toNatClampNeg ((r11).toInt64)) ((9 : Int32)).toNatClampNeg ((((s10.2.1 65) (y1).toNatClampNeg)).toInt64)))) rfl ?_
      obtain ⟨hin, k⟩ := k
      refine Ex.ial hq rfl rfl hin ?_
      refine Ex.seg hq 3 (j := 181) (L' := [.ref 55, .int y1, .long y2, pu, .long y4, pu, pu, pu]) (S' := [.int y1, .ref 60, .int ((s10.2.1 66) (y1).toNatClampNeg), .int (10 : Int32), .ref 93]) (h' := hpS (sL s10 93 (vp_updL (vp_updL (s10.2.2.1 93) ((8 : Int32)).toNatClampNeg ((r11).toInt64)) ((9 : Int32)).toNatClampNeg ((((s10.2.1 65) (y1).toNatClampNeg)).toInt64)))) rfl ?_
      obtain ⟨hin, k⟩ := k
      refine Ex.ial hq rfl rfl hin ?_
      refine Ex.seg hq 2 (j := 184) (L' := [.ref 55, .int y1, .long y2, pu, .long y4, pu, pu, pu]) (S' := [.long (((((s10.2.1 66) (y1).toNatClampNeg) - ((s10.2.1 60) (y1).toNatClampNeg))).toInt64), .int (10 : Int32), .ref 93]) (h' := hpS (sL s10 93 (vp_updL (vp_updL (s10.2.2.1 93) ((8 : Int32)).toNatClampNeg ((r11).toInt64)) ((9 : Int32)).toNatClampNeg ((((s10.2.1 65) (y1).toNatClampNeg)).toInt64)))) rfl ?_
      obtain ⟨hin, k⟩ := k
      refine Ex.las hq rfl rfl hin (h' := hpS (sL s10 93 (vp_updL (vp_updL (vp_updL (s10.2.2.1 93) ((8 : Int32)).toNatClampNeg ((r11).toInt64)) ((9 : Int32)).toNatClampNeg ((((s10.2.1 65) (y1).toNatClampNeg)).toInt64)) ((10 : Int32)).toNatClampNeg (((((s10.2.1 66) (y1).toNatClampNeg) - ((s10.2.1 60) (y1).toNatClampNeg))).toInt64)))) (hset_93 _ _) ?_
      refine Ex.seg hq 4 (j := 189) (L' := [.ref 55, .int y1, .long y2, pu, .long y4, pu, pu, pu]) (S' := [.long y2, .int (11 : Int32), .ref 93]) (h' := hpS (sL s10 93 (vp_updL (vp_updL (vp_updL (s10.2.2.1 93) ((8 : Int32)).toNatClampNeg ((r11).toInt64)) ((9 : Int32)).toNatClampNeg ((((s10.2.1 65) (y1).toNatClampNeg)).toInt64)) ((10 : Int32)).toNatClampNeg (((((s10.2.1 66) (y1).toNatClampNeg) - ((s10.2.1 60) (y1).toNatClampNeg))).toInt64)))) rfl ?_
      obtain ⟨hin, k⟩ := k
      refine Ex.las hq rfl rfl hin (h' := hpS (sL s10 93 (vp_updL (vp_updL (vp_updL (vp_updL (s10.2.2.1 93) ((8 : Int32)).toNatClampNeg ((r11).toInt64)) ((9 : Int32)).toNatClampNeg ((((s10.2.1 65) (y1).toNatClampNeg)).toInt64)) ((10 : Int32)).toNatClampNeg (((((s10.2.1 66) (y1).toNatClampNeg) - ((s10.2.1 60) (y1).toNatClampNeg))).toInt64)) ((11 : Int32)).toNatClampNeg y2))) (hset_93 _ _) ?_
      refine Ex.seg hq 4 (j := 194) (L' := [.ref 55, .int y1, .long y2, pu, .long y4, pu, pu, pu]) (S' := [.long y4, .int (12 : Int32), .ref 93]) (h' := hpS (sL s10 93 (vp_updL (vp_updL (vp_updL (vp_updL (s10.2.2.1 93) ((8 : Int32)).toNatClampNeg ((r11).toInt64)) ((9 : Int32)).toNatClampNeg ((((s10.2.1 65) (y1).toNatClampNeg)).toInt64)) ((10 : Int32)).toNatClampNeg (((((s10.2.1 66) (y1).toNatClampNeg) - ((s10.2.1 60) (y1).toNatClampNeg))).toInt64)) ((11 : Int32)).toNatClampNeg y2))) rfl ?_
      obtain ⟨hin, k⟩ := k
      refine Ex.las hq rfl rfl hin (h' := hpS (sL s10 93 (vp_updL (vp_updL (vp_updL (vp_updL (vp_updL (s10.2.2.1 93) ((8 : Int32)).toNatClampNeg ((r11).toInt64)) ((9 : Int32)).toNatClampNeg ((((s10.2.1 65) (y1).toNatClampNeg)).toInt64)) ((10 : Int32)).toNatClampNeg (((((s10.2.1 66) (y1).toNatClampNeg) - ((s10.2.1 60) (y1).toNatClampNeg))).toInt64)) ((11 : Int32)).toNatClampNeg y2) ((12 : Int32)).toNatClampNeg y4))) (hset_93 _ _) ?_
      exact Ex.rt hq rfl rfl ⟨(sL s10 93 (vp_updL (vp_updL (vp_updL (vp_updL (vp_updL (s10.2.2.1 93) ((8 : Int32)).toNatClampNeg ((r11).toInt64)) ((9 : Int32)).toNatClampNeg ((((s10.2.1 65) (y1).toNatClampNeg)).toInt64)) ((10 : Int32)).toNatClampNeg (((((s10.2.1 66) (y1).toNatClampNeg) - ((s10.2.1 60) (y1).toNatClampNeg))).toInt64)) ((11 : Int32)).toNatClampNeg y2) ((12 : Int32)).toNatClampNeg y4)), rfl, rfl, k⟩
end WP
