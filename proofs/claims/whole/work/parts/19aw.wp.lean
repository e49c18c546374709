/-! ===== weakest preconditions, printed by wip/whole/genwp.py ===== -/
section WP
variable {sc : Nat × (Nat → Int32)}
def w_249_L2 : Nat → Int32 → Int32 → Int32 → Int32 → ST → (Int32 → Int32 → Int32 → ST → Prop) → (Int32 → ST → Prop) → Prop
  | 0, _, _, _, _, _, _, _ => False
  | n + 1, x1, x2, x3, x4, s, X13, K => (((s.1 5557) ≤ x4 → X13 x1 x2 x3 s) ∧ (¬ ((s.1 5557) ≤ x4) → (pin x4 400 = true ∧ w_249_L2 n x1 x2 x3 (x4 + (1 : Int32)) (sA s 100 (upd (s.2.1 100) (x4).toNatClampNeg (-1 : Int32))) X13 K)))
theorem q_249_L2 {d : Nat} {X13 : Int32 → Int32 → Int32 → ST → Prop} {K : Int32 → ST → Prop} : ∀ (n : Nat) (x1 : Int32) (x2 : Int32) (x3 : Int32) (x4 : Int32) (s : ST), w_249_L2 n x1 x2 x3 x4 s X13 K → (∀ (y1 : Int32) (y2 : Int32) (y3 : Int32) (s : ST), X13 y1 y2 y3 s → Ex sc (d + 0) 249 13 [.ref 55, .int y1, .int y2, .int y3, pu, pu, pu, pu, pu] [] (hpS s) (kI K)) → Ex sc (d + 0) 249 2 [.ref 55, .int x1, .int x2, .int x3, .int x4, pu, pu, pu, pu] [] (hpS s) (kI K) := by
  have hq : prog[249]? = some pm249 := rfl
  intro n
  induction n with
  | zero =>
    intro x1 x2 x3 x4 s k
    exact k.elim
  | succ n ih =>
    intro x1 x2 x3 x4 s k hX13
    rw [w_249_L2] at k
    refine Ex.seg hq 3 (j := 5) (L' := [.ref 55, .int x1, .int x2, .int x3, .int x4, pu, pu, pu, pu]) (S' := [.int (s.1 5557), .int x4]) (h' := hpS s) rfl ?_
    refine Ex.i2 hq rfl (fun c => ?_) (fun c => ?_)
    · have k := k.1 c
      refine Ex.fg (L := [.ref 55, .int x1, .int x2, .int x3, pu, pu, pu, pu, pu]) ⟨Or.inl rfl, ⟨Or.inl rfl, ⟨Or.inl rfl, ⟨Or.inl rfl, ⟨Or.inr ⟨rfl, rfl⟩, ⟨Or.inl rfl, ⟨Or.inl rfl, ⟨Or.inl rfl, ⟨Or.inl rfl, trivial⟩⟩⟩⟩⟩⟩⟩⟩⟩ ?_
      exact hX13 x1 x2 x3 s k
    · have k := k.2 c
      refine Ex.seg hq 4 (j := 10) (L' := [.ref 55, .int x1, .int x2, .int x3, .int x4, pu, pu, pu, pu]) (S' := [.int (-1 : Int32), .int x4, .ref 100]) (h' := hpS s) rfl ?_
      obtain ⟨hin, k⟩ := k
      refine Ex.ias hq rfl rfl hin (h' := hpS (sA s 100 (upd (s.2.1 100) (x4).toNatClampNeg (-1 : Int32)))) (hset_100 _ _) ?_
      refine Ex.seg hq 2 (j := 2) (L' := [.ref 55, .int x1, .int x2, .int x3, .int (x4 + (1 : Int32)), pu, pu, pu, pu]) (S' := []) (h' := hpS (sA s 100 (upd (s.2.1 100) (x4).toNatClampNeg (-1 : Int32)))) rfl ?_
      exact ih x1 x2 x3 (x4 + (1 : Int32)) (sA s 100 (upd (s.2.1 100) (x4).toNatClampNeg (-1 : Int32))) k hX13
def w_249_L33 : Nat → Int32 → Int32 → Int32 → Int32 → Int32 → ST → (Int32 → Int32 → Int32 → Int32 → ST → Prop) → (Int32 → ST → Prop) → Prop
  | 0, _, _, _, _, _, _, _, _ => False
  | n + 1, x1, x2, x3, x4, x5, s, X109, K => (((s.1 5558) ≤ x5 → X109 x1 x2 x3 x4 s) ∧ (¬ ((s.1 5558) ≤ x5) → (pin x5 700 = true ∧ (pin ((s.2.1 96) (x5).toNatClampNeg) 400 = true ∧ ((((s.2.1 100) (((s.2.1 96) (x5).toNatClampNeg)).toNatClampNeg) = (-1 : Int32) → (pin x5 700 = true ∧ (pin ((s.2.1 97) (x5).toNatClampNeg) 400 = true ∧ ((((s.2.1 100) (((s.2.1 97) (x5).toNatClampNeg)).toNatClampNeg) = (-1 : Int32) → w_249_L33 n x1 x2 x3 x4 (x5 + (1 : Int32)) s X109 K) ∧ (¬ (((s.2.1 100) (((s.2.1 97) (x5).toNatClampNeg)).toNatClampNeg) = (-1 : Int32)) → (pin x5 700 = true ∧ (pin ((s.2.1 96) (x5).toNatClampNeg) 400 = true ∧ ((¬ ((s.2.1 100) (((s.2.1 96) (x5).toNatClampNeg)).toNatClampNeg) = (-1 : Int32) → w_249_L33 n x1 x2 x3 x4 (x5 + (1 : Int32)) s X109 K) ∧ (¬ (¬ ((s.2.1 100) (((s.2.1 96) (x5).toNatClampNeg)).toNatClampNeg) = (-1 : Int32)) → (pin x5 700 = true ∧ ((((s.2.1 99) (x5).toNatClampNeg) ≤ 0 → w_249_L33 n x1 x2 x3 x4 (x5 + (1 : Int32)) s X109 K) ∧ (¬ (((s.2.1 99) (x5).toNatClampNeg) ≤ 0) → (pin x5 700 = true ∧ (pin ((s.2.1 96) (x5).toNatClampNeg) 400 = true ∧ w_249_L33 n x1 x2 x3 (1 : Int32) (x5 + (1 : Int32)) (sA s 100 (upd (s.2.1 100) (((s.2.1 96) (x5).toNatClampNeg)).toNatClampNeg x5)) X109 K)))))))))))))) ∧ (¬ (((s.2.1 100) (((s.2.1 96) (x5).toNatClampNeg)).toNatClampNeg) = (-1 : Int32)) → (pin x5 700 = true ∧ (pin ((s.2.1 97) (x5).toNatClampNeg) 400 = true ∧ ((¬ ((s.2.1 100) (((s.2.1 97) (x5).toNatClampNeg)).toNatClampNeg) = (-1 : Int32) → (pin x5 700 = true ∧ (pin ((s.2.1 97) (x5).toNatClampNeg) 400 = true ∧ ((((s.2.1 100) (((s.2.1 97) (x5).toNatClampNeg)).toNatClampNeg) = (-1 : Int32) → w_249_L33 n x1 x2 x3 x4 (x5 + (1 : Int32)) s X109 K) ∧ (¬ (((s.2.1 100) (((s.2.1 97) (x5).toNatClampNeg)).toNatClampNeg) = (-1 : Int32)) → (pin x5 700 = true ∧ (pin ((s.2.1 96) (x5).toNatClampNeg) 400 = true ∧ ((¬ ((s.2.1 100) (((s.2.1 96) (x5).toNatClampNeg)).toNatClampNeg) = (-1 : Int32) → w_249_L33 n x1 x2 x3 x4 (x5 + (1 : Int32)) s X109 K) ∧ (¬ (¬ ((s.2.1 100) (((s.2.1 96) (x5).toNatClampNeg)).toNatClampNeg) = (-1 : Int32)) → (pin x5 700 = true ∧ ((((s.2.1 99) (x5).toNatClampNeg) ≤ 0 → w_249_L33 n x1 x2 x3 x4 (x5 + (1 : Int32)) s X109 K) ∧ (¬ (((s.2.1 99) (x5).toNatClampNeg) ≤ 0) → (pin x5 700 = true ∧ (pin ((s.2.1 96) (x5).toNatClampNeg) 400 = true ∧ w_249_L33 n x1 x2 x3 (1 : Int32) (x5 + (1 : Int32)) (sA s 100 (upd (s.2.1 100) (((s.2.1 96) (x5).toNatClampNeg)).toNatClampNeg x5)) X109 K)))))))))))))) ∧ (¬ (¬ ((s.2.1 100) (((s.2.1 97) (x5).toNatClampNeg)).toNatClampNeg) = (-1 : Int32)) → (pin x5 700 = true ∧ (pin x5 700 = true ∧ ((((s.2.1 98) (x5).toNatClampNeg) ≤ ((s.2.1 99) (x5).toNatClampNeg) → (pin x5 700 = true ∧ (pin ((s.2.1 97) (x5).toNatClampNeg) 400 = true ∧ ((((s.2.1 100) (((s.2.1 97) (x5).toNatClampNeg)).toNatClampNeg) = (-1 : Int32) → w_249_L33 n x1 x2 x3 x4 (x5 + (1 : Int32)) s X109 K) ∧ (¬ (((s.2.1 100) (((s.2.1 97) (x5).toNatClampNeg)).toNatClampNeg) = (-1 : Int32)) → (pin x5 700 = true ∧ (pin ((s.2.1 96) (x5).toNatClampNeg) 400 = true ∧ ((¬ ((s.2.1 100) (((s.2.1 96) (x5).toNatClampNeg)).toNatClampNeg) = (-1 : Int32) → w_249_L33 n x1 x2 x3 x4 (x5 + (1 : Int32)) s X109 K) ∧ (¬ (¬ ((s.2.1 100) (((s.2.1 96) (x5).toNatClampNeg)).toNatClampNeg) = (-1 : Int32)) → (pin x5 700 = true ∧ ((((s.2.1 99) (x5).toNatClampNeg) ≤ 0 → w_249_L33 n x1 x2 x3 x4 (x5 + (1 : Int32)) s X109 K) ∧ (¬ (((s.2.1 99) (x5).toNatClampNeg) ≤ 0) → (pin x5 700 = true ∧ (pin ((s.2.1 96) (x5).toNatClampNeg) 400 = true ∧ w_249_L33 n x1 x2 x3 (1 : Int32) (x5 + (1 : Int32)) (sA s 100 (upd (s.2.1 100) (((s.2.1 96) (x5).toNatClampNeg)).toNatClampNeg x5)) X109 K)))))))))))))) ∧ (¬ (((s.2.1 98) (x5).toNatClampNeg) ≤ ((s.2.1 99) (x5).toNatClampNeg)) → (pin x5 700 = true ∧ (pin ((s.2.1 97) (x5).toNatClampNeg) 400 = true ∧ (pin x5 700 = true ∧ (pin ((s.2.1 97) (x5).toNatClampNeg) 400 = true ∧ ((((upd (s.2.1 100) (((s.2.1 97) (x5).toNatClampNeg)).toNatClampNeg x5) (((s.2.1 97) (x5).toNatClampNeg)).toNatClampNeg) = (-1 : Int32) → w_249_L33 n x1 x2 x3 (1 : Int32) (x5 + (1 : Int32)) (sA s 100 (upd (s.2.1 100) (((s.2.1 97) (x5).toNatClampNeg)).toNatClampNeg x5)) X109 K) ∧ (¬ (((upd (s.2.1 100) (((s.2.1 97) (x5).toNatClampNeg)).toNatClampNeg x5) (((s.2.1 97) (x5).toNatClampNeg)).toNatClampNeg) = (-1 : Int32)) → (pin x5 700 = true ∧ (pin ((s.2.1 96) (x5).toNatClampNeg) 400 = true ∧ ((¬ ((upd (s.2.1 100) (((s.2.1 97) (x5).toNatClampNeg)).toNatClampNeg x5) (((s.2.1 96) (x5).toNatClampNeg)).toNatClampNeg) = (-1 : Int32) → w_249_L33 n x1 x2 x3 (1 : Int32) (x5 + (1 : Int32)) (sA s 100 (upd (s.2.1 100) (((s.2.1 97) (x5).toNatClampNeg)).toNatClampNeg x5)) X109 K) ∧ (¬ (¬ ((upd (s.2.1 100) (((s.2.1 97) (x5).toNatClampNeg)).toNatClampNeg x5) (((s.2.1 96) (x5).toNatClampNeg)).toNatClampNeg) = (-1 : Int32)) → (pin x5 700 = true ∧ ((((s.2.1 99) (x5).toNatClampNeg) ≤ 0 → w_249_L33 n x1 x2 x3 (1 : Int32) (x5 + (1 : Int32)) (sA s 100 (upd (s.2.1 100) (((s.2.1 97) (x5).toNatClampNeg)).toNatClampNeg x5)) X109 K) ∧ (¬ (((s.2.1 99) (x5).toNatClampNeg) ≤ 0) → (pin x5 700 = true ∧ (pin ((s.2.1 96) (x5).toNatClampNeg) 400 = true ∧ w_249_L33 n x1 x2 x3 (1 : Int32) (x5 + (1 : Int32)) (sA s 100 (upd (upd (s.2.1 100) (((s.2.1 97) (x5).toNatClampNeg)).toNatClampNeg x5) (((s.2.1 96) (x5).toNatClampNeg)).toNatClampNeg x5)) X109 K)))))))))))))))))))))))))))))
theorem q_249_L33 {d : Nat} {X109 : Int32 → Int32 → Int32 → Int32 → ST → Prop} {K : Int32 → ST → Prop} : ∀ (n : Nat) (x1 : Int32) (x2 : Int32) (x3 : Int32) (x4 : Int32) (x5 : Int32) (s : ST), w_249_L33 n x1 x2 x3 x4 x5 s X109 K → (∀ (y1 : Int32) (y2 : Int32) (y3 : Int32) (y4 : Int32) (s : ST), X109 y1 y2 y3 y4 s → Ex sc (d + 0) 249 109 [.ref 55, .int y1, .int y2, .int y3, .int y4, pu, pu, pu, pu] [] (hpS s) (kI K)) → Ex sc (d + 0) 249 33 [.ref 55, .int x1, .int x2, .int x3, .int x4, .int x5, pu, pu, pu] [] (hpS s) (kI K) := by
  have hq : prog[249]? = some pm249 := rfl
  intro n
  induction n with
  | zero =>
    intro x1 x2 x3 x4 x5 s k
    exact k.elim
  | succ n ih =>
    intro x1 x2 x3 x4 x5 s k hX109
    rw [w_249_L33] at k
    refine Ex.seg hq 3 (j := 36) (L' := [.ref 55, .int x1, .int x2, .int x3, .int x4, .int x5, pu, pu, pu]) (S' := [.int (s.1 5558), .int x5]) (h' := hpS s) rfl ?_
    refine Ex.i2 hq rfl (fun c => ?_) (fun c => ?_)
    · have k := k.1 c
      refine Ex.fg (L := [.ref 55, .int x1, .int x2, .int x3, .int x4, pu, pu, pu, pu]) ⟨Or.inl rfl, ⟨Or.inl rfl, ⟨Or.inl rfl, ⟨Or.inl rfl, ⟨Or.inl rfl, ⟨Or.inr ⟨rfl, rfl⟩, ⟨Or.inl rfl, ⟨Or.inl rfl, ⟨Or.inl rfl, trivial⟩⟩⟩⟩⟩⟩⟩⟩⟩ ?_
      exact hX109 x1 x2 x3 x4 s k
    · have k := k.2 c
      refine Ex.seg hq 5 (j := 42) (L' := [.ref 55, .int x1, .int x2, .int x3, .int x4, .int x5, pu, pu, pu]) (S' := [.int x5, .ref 96, .ref 100]) (h' := hpS s) rfl ?_
      obtain ⟨hin, k⟩ := k
      refine Ex.ial hq rfl rfl hin ?_
      obtain ⟨hin, k⟩ := k
      refine Ex.ial hq rfl rfl hin ?_
      refine Ex.seg hq 1 (j := 45) (L' := [.ref 55, .int x1, .int x2, .int x3, .int x4, .int x5, pu, pu, pu]) (S' := [.int (-1 : Int32), .int ((s.2.1 100) (((s.2.1 96) (x5).toNatClampNeg)).toNatClampNeg)]) (h' := hpS s) rfl ?_
      refine Ex.i2 hq rfl (fun c => ?_) (fun c => ?_)
      · have k := k.1 c
        refine Ex.seg hq 5 (j := 79) (L' := [.ref 55, .int x1, .int x2, .int x3, .int x4, .int x5, pu, pu, pu]) (S' := [.int x5, .ref 97, .ref 100]) (h' := hpS s) rfl ?_
        obtain ⟨hin, k⟩ := k
        refine Ex.ial hq rfl rfl hin ?_
        obtain ⟨hin, k⟩ := k
        refine Ex.ial hq rfl rfl hin ?_
        refine Ex.seg hq 1 (j := 82) (L' := [.ref 55, .int x1, .int x2, .int x3, .int x4, .int x5, pu, pu, pu]) (S' := [.int (-1 : Int32), .int ((s.2.1 100) (((s.2.1 97) (x5).toNatClampNeg)).toNatClampNeg)]) (h' := hpS s) rfl ?_
        refine Ex.i2 hq rfl (fun c => ?_) (fun c => ?_)
        · have k := k.1 c
          refine Ex.seg hq 2 (j := 33) (L' := [.ref 55, .int x1, .int x2, .int x3, .int x4, .int (x5 + (1 : Int32)), pu, pu, pu]) (S' := []) (h' := hpS s) rfl ?_
          exact ih x1 x2 x3 x4 (x5 + (1 : Int32)) s k hX109
        · have k := k.2 c
          refine Ex.seg hq 5 (j := 88) (L' := [.ref 55, .int x1, .int x2, .int x3, .int x4, .int x5, pu, pu, pu]) (S' := [.int x5, .ref 96, .ref 100]) (h' := hpS s) rfl ?_
          obtain ⟨hin, k⟩ := k
          refine Ex.ial hq rfl rfl hin ?_
          obtain ⟨hin, k⟩ := k
          refine Ex.ial hq rfl rfl hin ?_
          refine Ex.seg hq 1 (j := 91) (L' := [.ref 55, .int x1, .int x2, .int x3, .int x4, .int x5, pu, pu, pu]) (S' := [.int (-1 : Int32), .int ((s.2.1 100) (((s.2.1 96) (x5).toNatClampNeg)).toNatClampNeg)]) (h' := hpS s) rfl ?_
          refine Ex.i2 hq rfl (fun c => ?_) (fun c => ?_)
          · have k := k.1 c
            refine Ex.seg hq 2 (j := 33) (L' := [.ref 55, .int x1, .int x2, .int x3, .int x4, .int (x5 + (1 : Int32)), pu, pu, pu]) (S' := []) (h' := hpS s) rfl ?_
            exact ih x1 x2 x3 x4 (x5 + (1 : Int32)) s k hX109
          · have k := k.2 c
            refine Ex.seg hq 3 (j := 95) (L' := [.ref 55, .int x1, .int x2, .int x3, .int x4, .int x5, pu, pu, pu]) (S' := [.int x5, .ref 99]) (h' := hpS s) rfl ?_
            obtain ⟨hin, k⟩ := k
            refine Ex.ial hq rfl rfl hin ?_
            refine Ex.i1 hq rfl (fun c => ?_) (fun c => ?_)
            · have k := k.1 c
              refine Ex.seg hq 2 (j := 33) (L' := [.ref 55, .int x1, .int x2, .int x3, .int x4, .int (x5 + (1 : Int32)), pu, pu, pu]) (S' := []) (h' := hpS s) rfl ?_
              exact ih x1 x2 x3 x4 (x5 + (1 : Int32)) s k hX109
            · have k := k.2 c
              refine Ex.seg hq 5 (j := 102) (L' := [.ref 55, .int x1, .int x2, .int x3, .int x4, .int x5, pu, pu, pu]) (S' := [.int x5, .ref 96, .ref 100]) (h' := hpS s) rfl ?_
              obtain ⟨hin, k⟩ := k
              refine Ex.ial hq rfl rfl hin ?_
              refine Ex.seg hq 1 (j := 104) (L' := [.ref 55, .int x1, .int x2, .int x3, .int x4, .int x5, pu, pu, pu]) (S' := [.int x5, .int ((s.2.1 96) (x5).toNatClampNeg), .ref 100]) (h' := hpS s) rfl ?_
              obtain ⟨hin, k⟩ := k
              refine Ex.ias hq rfl rfl hin (h' := hpS (sA s 100 (upd (s.2.1 100) (((s.2.1 96) (x5).toNatClampNeg)).toNatClampNeg x5))) (hset_100 _ _) ?_
              refine Ex.seg hq 4 (j := 33) (L' := [.ref 55, .int x1, .int x2, .int x3, .int (1 : Int32), .int (x5 + (1 : Int32)), pu, pu, pu]) (S' := []) (h' := hpS (sA s 100 (upd (s.2.1 100) (((s.2.1 96) (x5).toNatClampNeg)).toNatClampNeg x5))) rfl ?_
              exact ih x1 x2 x3 (1 : Int32) (x5 + (1 : Int32)) (sA s 100 (upd (s.2.1 100) (((s.2.1 96) (x5).toNatClampNeg)).toNatClampNeg x5)) k hX109
      · have k := k.2 c
        refine Ex.seg hq 5 (j := 51) (L' := [.ref 55, .int x1, .int x2, .int x3, .int x4, .int x5, pu, pu, pu]) (S' := [.int x5, .ref 97, .ref 100]) (h' := hpS s) rfl ?_
        obtain ⟨hin, k⟩ := k
        refine Ex.ial hq rfl rfl hin ?_
        obtain ⟨hin, k⟩ := k
        refine Ex.ial hq rfl rfl hin ?_
        refine Ex.seg hq 1 (j := 54) (L' := [.ref 55, .int x1, .int x2, .int x3, .int x4, .int x5, pu, pu, pu]) (S' := [.int (-1 : Int32), .int ((s.2.1 100) (((s.2.1 97) (x5).toNatClampNeg)).toNatClampNeg)]) (h' := hpS s) rfl ?_
        refine Ex.i2 hq rfl (fun c => ?_) (fun c => ?_)
        · have k := k.1 c
          refine Ex.seg hq 5 (j := 79) (L' := [.ref 55, .int x1, .int x2, .int x3, .int x4, .int x5, pu, pu, pu]) (S' := [.int x5, .ref 97, .ref 100]) (h' := hpS s) rfl ?_
          obtain ⟨hin, k⟩ := k
          refine Ex.ial hq rfl rfl hin ?_
          obtain ⟨hin, k⟩ := k
          refine Ex.ial hq rfl rfl hin ?_
          refine Ex.seg hq 1 (j := 82) (L' := [.ref 55, .int x1, .int x2, .int x3, .int x4, .int x5, pu, pu, pu]) (S' := [.int (-1 : Int32), .int ((s.2.1 100) (((s.2.1 97) (x5).toNatClampNeg)).toNatClampNeg)]) (h' := hpS s) rfl ?_
          refine Ex.i2 hq rfl (fun c => ?_) (fun c => ?_)
          · have k := k.1 c
            refine Ex.seg hq 2 (j := 33) (L' := [.ref 55, .int x1, .int x2, .int x3, .int x4, .int (x5 + (1 : Int32)), pu, pu, pu]) (S' := []) (h' := hpS s) rfl ?_
            exact ih x1 x2 x3 x4 (x5 + (1 : Int32)) s k hX109
          · have k := k.2 c
            refine Ex.seg hq 5 (j := 88) (L' := [.ref 55, .int x1, .int x2, .int x3, .int x4, .int x5, pu, pu, pu]) (S' := [.int x5, .ref 96, .ref 100]) (h' := hpS s) rfl ?_
            obtain ⟨hin, k⟩ := k
            refine Ex.ial hq rfl rfl hin ?_
            obtain ⟨hin, k⟩ := k
            refine Ex.ial hq rfl rfl hin ?_
            refine Ex.seg hq 1 (j := 91) (L' := [.ref 55, .int x1, .int x2, .int x3, .int x4, .int x5, pu, pu, pu]) (S' := [.int (-1 : Int32), .int ((s.2.1 100) (((s.2.1 96) (x5).toNatClampNeg)).toNatClampNeg)]) (h' := hpS s) rfl ?_
            refine Ex.i2 hq rfl (fun c => ?_) (fun c => ?_)
            · have k := k.1 c
              refine Ex.seg hq 2 (j := 33) (L' := [.ref 55, .int x1, .int x2, .int x3, .int x4, .int (x5 + (1 : Int32)), pu, pu, pu]) (S' := []) (h' := hpS s) rfl ?_
              exact ih x1 x2 x3 x4 (x5 + (1 : Int32)) s k hX109
            · have k := k.2 c
              refine Ex.seg hq 3 (j := 95) (L' := [.ref 55, .int x1, .int x2, .int x3, .int x4, .int x5, pu, pu, pu]) (S' := [.int x5, .ref 99]) (h' := hpS s) rfl ?_
              obtain ⟨hin, k⟩ := k
              refine Ex.ial hq rfl rfl hin ?_
              refine Ex.i1 hq rfl (fun c => ?_) (fun c => ?_)
              · have k := k.1 c
                refine Ex.seg hq 2 (j := 33) (L' := [.ref 55, .int x1, .int x2, .int x3, .int x4, .int (x5 + (1 : Int32)), pu, pu, pu]) (S' := []) (h' := hpS s) rfl ?_
                exact ih x1 x2 x3 x4 (x5 + (1 : Int32)) s k hX109
              · have k := k.2 c
                refine Ex.seg hq 5 (j := 102) (L' := [.ref 55, .int x1, .int x2, .int x3, .int x4, .int x5, pu, pu, pu]) (S' := [.int x5, .ref 96, .ref 100]) (h' := hpS s) rfl ?_
                obtain ⟨hin, k⟩ := k
                refine Ex.ial hq rfl rfl hin ?_
                refine Ex.seg hq 1 (j := 104) (L' := [.ref 55, .int x1, .int x2, .int x3, .int x4, .int x5, pu, pu, pu]) (S' := [.int x5, .int ((s.2.1 96) (x5).toNatClampNeg), .ref 100]) (h' := hpS s) rfl ?_
                obtain ⟨hin, k⟩ := k
                refine Ex.ias hq rfl rfl hin (h' := hpS (sA s 100 (upd (s.2.1 100) (((s.2.1 96) (x5).toNatClampNeg)).toNatClampNeg x5))) (hset_100 _ _) ?_
                refine Ex.seg hq 4 (j := 33) (L' := [.ref 55, .int x1, .int x2, .int x3, .int (1 : Int32), .int (x5 + (1 : Int32)), pu, pu, pu]) (S' := []) (h' := hpS (sA s 100 (upd (s.2.1 100) (((s.2.1 96) (x5).toNatClampNeg)).toNatClampNeg x5))) rfl ?_
                exact ih x1 x2 x3 (1 : Int32) (x5 + (1 : Int32)) (sA s 100 (upd (s.2.1 100) (((s.2.1 96) (x5).toNatClampNeg)).toNatClampNeg x5)) k hX109
        · have k := k.2 c
          refine Ex.seg hq 3 (j := 58) (L' := [.ref 55, .int x1, .int x2, .int x3, .int x4, .int x5, pu, pu, pu]) (S' := [.int x5, .ref 99]) (h' := hpS s) rfl ?_
          obtain ⟨hin, k⟩ := k
          refine Ex.ial hq rfl rfl hin ?_
          refine Ex.seg hq 3 (j := 62) (L' := [.ref 55, .int x1, .int x2, .int x3, .int x4, .int x5, pu, pu, pu]) (S' := [.int x5, .ref 98, .int ((s.2.1 99) (x5).toNatClampNeg)]) (h' := hpS s) rfl ?_
          obtain ⟨hin, k⟩ := k
          refine Ex.ial hq rfl rfl hin ?_
          refine Ex.i2 hq rfl (fun c => ?_) (fun c => ?_)
          · have k := k.1 c
            refine Ex.seg hq 5 (j := 79) (L' := [.ref 55, .int x1, .int x2, .int x3, .int x4, .int x5, pu, pu, pu]) (S' := [.int x5, .ref 97, .ref 100]) (h' := hpS s) rfl ?_
            obtain ⟨hin, k⟩ := k
            refine Ex.ial hq rfl rfl hin ?_
            obtain ⟨hin, k⟩ := k
            refine Ex.ial hq rfl rfl hin ?_
            refine Ex.seg hq 1 (j := 82) (L' := [.ref 55, .int x1, .int x2, .int x3, .int x4, .int x5, pu, pu, pu]) (S' := [.int (-1 : Int32), .int ((s.2.1 100) (((s.2.1 97) (x5).toNatClampNeg)).toNatClampNeg)]) (h' := hpS s) rfl ?_
            refine Ex.i2 hq rfl (fun c => ?_) (fun c => ?_)
            · have k := k.1 c
              refine Ex.seg hq 2 (j := 33) (L' := [.ref 55, .int x1, .int x2, .int x3, .int x4, .int (x5 + (1 : Int32)), pu, pu, pu]) (S' := []) (h' := hpS s) rfl ?_
              exact ih x1 x2 x3 x4 (x5 + (1 : Int32)) s k hX109
            · have k := k.2 c
              refine Ex.seg hq 5 (j := 88) (L' := [.ref 55, .int x1, .int x2, .int x3, .int x4, .int x5, pu, pu, pu]) (S' := [.int x5, .ref 96, .ref 100]) (h' := hpS s) rfl ?_
              obtain ⟨hin, k⟩ := k
              refine Ex.ial hq rfl rfl hin ?_
              obtain ⟨hin, k⟩ := k
              refine Ex.ial hq rfl rfl hin ?_
              refine Ex.seg hq 1 (j := 91) (L' := [.ref 55, .int x1, .int x2, .int x3, .int x4, .int x5, pu, pu, pu]) (S' := [.int (-1 : Int32), .int ((s.2.1 100) (((s.2.1 96) (x5).toNatClampNeg)).toNatClampNeg)]) (h' := hpS s) rfl ?_
              refine Ex.i2 hq rfl (fun c => ?_) (fun c => ?_)
              · have k := k.1 c
                refine Ex.seg hq 2 (j := 33) (L' := [.ref 55, .int x1, .int x2, .int x3, .int x4, .int (x5 + (1 : Int32)), pu, pu, pu]) (S' := []) (h' := hpS s) rfl ?_
                exact ih x1 x2 x3 x4 (x5 + (1 : Int32)) s k hX109
              · have k := k.2 c
                refine Ex.seg hq 3 (j := 95) (L' := [.ref 55, .int x1, .int x2, .int x3, .int x4, .int x5, pu, pu, pu]) (S' := [.int x5, .ref 99]) (h' := hpS s) rfl ?_
                obtain ⟨hin, k⟩ := k
                refine Ex.ial hq rfl rfl hin ?_
                refine Ex.i1 hq rfl (fun c => ?_) (fun c => ?_)
                · have k := k.1 c
                  refine Ex.seg hq 2 (j := 33) (L' := [.ref 55, .int x1, .int x2, .int x3, .int x4, .int (x5 + (1 : Int32)), pu, pu, pu]) (S' := []) (h' := hpS s) rfl ?_
                  exact ih x1 x2 x3 x4 (x5 + (1 : Int32)) s k hX109
                · have k := k.2 c
                  refine Ex.seg hq 5 (j := 102) (L' := [.ref 55, .int x1, .int x2, .int x3, .int x4, .int x5, pu, pu, pu]) (S' := [.int x5, .ref 96, .ref 100]) (h' := hpS s) rfl ?_
                  obtain ⟨hin, k⟩ := k
                  refine Ex.ial hq rfl rfl hin ?_
                  refine Ex.seg hq 1 (j := 104) (L' := [.ref 55, .int x1, .int x2, .int x3, .int x4, .int x5, pu, pu, pu]) (S' := [.int x5, .int ((s.2.1 96) (x5).toNatClampNeg), .ref 100]) (h' := hpS s) rfl ?_
                  obtain ⟨hin, k⟩ := k
                  refine Ex.ias hq rfl rfl hin (h' := hpS (sA s 100 (upd (s.2.1 100) (((s.2.1 96) (x5).toNatClampNeg)).toNatClampNeg x5))) (hset_100 _ _) ?_
                  refine Ex.seg hq 4 (j := 33) (L' := [.ref 55, .int x1, .int x2, .int x3, .int (1 : Int32), .int (x5 + (1 : Int32)), pu, pu, pu]) (S' := []) (h' := hpS (sA s 100 (upd (s.2.1 100) (((s.2.1 96) (x5).toNatClampNeg)).toNatClampNeg x5))) rfl ?_
                  exact ih x1 x2 x3 (1 : Int32) (x5 + (1 : Int32)) (sA s 100 (upd (s.2.1 100) (((s.2.1 96) (x5).toNatClampNeg)).toNatClampNeg x5)) k hX109
          · have k := k.2 c
            refine Ex.seg hq 5 (j := 69) (L' := [.ref 55, .int x1, .int x2, .int x3, .int x4, .int x5, pu, pu, pu]) (S' := [.int x5, .ref 97, .ref 100]) (h' := hpS s) rfl ?_
            obtain ⟨hin, k⟩ := k
            refine Ex.ial hq rfl rfl hin ?_
            refine Ex.seg hq 1 (j := 71) (L' := [.ref 55, .int x1, .int x2, .int x3, .int x4, .int x5, pu, pu, pu]) (S' := [.int x5, .int ((s.2.1 97) (x5).toNatClampNeg), .ref 100]) (h' := hpS s) rfl ?_
            obtain ⟨hin, k⟩ := k
            refine Ex.ias hq rfl rfl hin (h' := hpS (sA s 100 (upd (s.2.1 100) (((s.2.1 97) (x5).toNatClampNeg)).toNatClampNeg x5))) (hset_100 _ _) ?_
            refine Ex.seg hq 7 (j := 79) (L' := [.ref 55, .int x1, .int x2, .int x3, .int (1 : Int32), .int x5, pu, pu, pu]) (S' := [.int x5, .ref 97, .ref 100]) (h' := hpS (sA s 100 (upd (s.2.1 100) (((s.2.1 97) (x5).toNatClampNeg)).toNatClampNeg x5))) rfl ?_
            obtain ⟨hin, k⟩ := k
            refine Ex.ial hq rfl rfl hin ?_
            obtain ⟨hin, k⟩ := k
            refine Ex.ial hq rfl rfl hin ?_
            refine Ex.seg hq 1 (j := 82) (L' := [.ref 55, .int x1, .int x2, .int x3, .int (1 : Int32), .int x5, pu, pu, pu]) (S' := [.int (-1 : Int32), .int ((upd (s.2.1 100) (((s.2.1 97) (x5).toNatClampNeg)).toNatClampNeg x5) (((s.2.1 97) (x5).toNatClampNeg)).toNatClampNeg)]) (h' := hpS (sA s 100 (upd (s.2.1 100) (((s.2.1 97) (x5).toNatClampNeg)).toNatClampNeg x5))) rfl ?_
            refine Ex.i2 hq rfl (fun c => ?_) (fun c => ?_)
            · have k := k.1 c
              refine Ex.seg hq 2 (j := 33) (L' := [.ref 55, .int x1, .int x2, .int x3, .int (1 : Int32), .int (x5 + (1 : Int32)), pu, pu, pu]) (S' := []) (h' := hpS (sA s 100 (upd (s.2.1 100) (((s.2.1 97) (x5).toNatClampNeg)).toNatClampNeg x5))) rfl ?_
              exact ih x1 x2 x3 (1 : Int32) (x5 + (1 : Int32)) (sA s 100 (upd (s.2.1 100) (((s.2.1 97) (x5).toNatClampNeg)).toNatClampNeg x5)) k hX109
            · have k := k.2 c
              refine Ex.seg hq 5 (j := 88) (L' := [.ref 55, .int x1, .int x2, .int x3, .int (1 : Int32), .int x5, pu, pu, pu]) (S' := [.int x5, .ref 96, .ref 100]) (h' := hpS (sA s 100 (upd (s.2.1 100) (((s.2.1 97) (x5).toNatClampNeg)).toNatClampNeg x5))) rfl ?_
              obtain ⟨hin, k⟩ := k
              refine Ex.ial hq rfl rfl hin ?_
              obtain ⟨hin, k⟩ := k
              refine Ex.ial hq rfl rfl hin ?_
              refine Ex.seg hq 1 (j := 91) (L' := [.ref 55, .int x1, .int x2, .int x3, .int (1 : Int32), .int x5, pu, pu, pu]) (S' := [.int (-1 : Int32), .int ((upd (s.2.1 100) (((s.2.1 97) (x5).toNatClampNeg)).toNatClampNeg x5) (((s.2.1 96) (x5).toNatClampNeg)).toNatClampNeg)]) (h' := hpS (sA s 100 (upd (s.2.1 100) (((s.2.1 97) (x5).toNatClampNeg)).toNatClampNeg x5))) rfl ?_
              refine Ex.i2 hq rfl (fun c => ?_) (fun c => ?_)
              · have k := k.1 c
                refine Ex.seg hq 2 (j := 33) (L' := [.ref 55, .int x1, .int x2, .int x3, .int (1 : Int32), .int (x5 + (1 : Int32)), pu, pu, pu]) (S' := []) (h' := hpS (sA s 100 (upd (s.2.1 100) (((s.2.1 97) (x5).toNatClampNeg)).toNatClampNeg x5))) rfl ?_
                exact ih x1 x2 x3 (1 : Int32) (x5 + (1 : Int32)) (sA s 100 (upd (s.2.1 100) (((s.2.1 97) (x5).toNatClampNeg)).toNatClampNeg x5)) k hX109
              · have k := k.2 c
                refine Ex.seg hq 3 (j := 95) (L' := [.ref 55, .int x1, .int x2, .int x3, .int (1 : Int32), .int x5, pu, pu, pu]) (S' := [.int x5, .ref 99]) (h' := hpS (sA s 100 (upd (s.2.1 100) (((s.2.1 97) (x5).toNatClampNeg)).toNatClampNeg x5))) rfl ?_
                obtain ⟨hin, k⟩ := k
                refine Ex.ial hq rfl rfl hin ?_
                refine Ex.i1 hq rfl (fun c => ?_) (fun c => ?_)
                · have k := k.1 c
                  refine Ex.seg hq 2 (j := 33) (L' := [.ref 55, .int x1, .int x2, .int x3, .int (1 : Int32), .int (x5 + (1 : Int32)), pu, pu, pu]) (S' := []) (h' := hpS (sA s 100 (upd (s.2.1 100) (((s.2.1 97) (x5).toNatClampNeg)).toNatClampNeg x5))) rfl ?_
                  exact ih x1 x2 x3 (1 : Int32) (x5 + (1 : Int32)) (sA s 100 (upd (s.2.1 100) (((s.2.1 97) (x5).toNatClampNeg)).toNatClampNeg x5)) k hX109
                · have k := k.2 c
                  refine Ex.seg hq 5 (j := 102) (L' := [.ref 55, .int x1, .int x2, .int x3, .int (1 : Int32), .int x5, pu, pu, pu]) (S' := [.int x5, .ref 96, .ref 100]) (h' := hpS (sA s 100 (upd (s.2.1 100) (((s.2.1 97) (x5).toNatClampNeg)).toNatClampNeg x5))) rfl ?_
                  obtain ⟨hin, k⟩ := k
                  refine Ex.ial hq rfl rfl hin ?_
                  refine Ex.seg hq 1 (j := 104) (L' := [.ref 55, .int x1, .int x2, .int x3, .int (1 : Int32), .int x5, pu, pu, pu]) (S' := [.int x5, .int ((s.2.1 96) (x5).toNatClampNeg), .ref 100]) (h' := hpS (sA s 100 (upd (s.2.1 100) (((s.2.1 97) (x5).toNatClampNeg)).toNatClampNeg x5))) rfl ?_
                  obtain ⟨hin, k⟩ := k
                  refine Ex.ias hq rfl rfl hin (h' := hpS (sA s 100 (upd (upd (s.2.1 100) (((s.2.1 97) (x5).toNatClampNeg)).toNatClampNeg x5) (((s.2.1 96) (x5).toNatClampNeg)).toNatClampNeg x5))) (hset_100 _ _) ?_
                  refine Ex.seg hq 4 (j := 33) (L' := [.ref 55, .int x1, .int x2, .int x3, .int (1 : Int32), .int (x5 + (1 : Int32)), pu, pu, pu]) (S' := []) (h' := hpS (sA s 100 (upd (upd (s.2.1 100) (((s.2.1 97) (x5).toNatClampNeg)).toNatClampNeg x5) (((s.2.1 96) (x5).toNatClampNeg)).toNatClampNeg x5))) rfl ?_
                  exact ih x1 x2 x3 (1 : Int32) (x5 + (1 : Int32)) (sA s 100 (upd (upd (s.2.1 100) (((s.2.1 97) (x5).toNatClampNeg)).toNatClampNeg x5) (((s.2.1 96) (x5).toNatClampNeg)).toNatClampNeg x5)) k hX109
def w_249_L21 : Nat → Int32 → Int32 → Int32 → Int32 → ST → (Int32 → Int32 → Int32 → ST → Prop) → (Int32 → ST → Prop) → Prop
  | 0, _, _, _, _, _, _, _ => False
  | n + 1, x1, x2, x3, x4, s, X110, K => ((x4 = 0 → X110 x1 x2 x3 s) ∧ (¬ (x4 = 0) → (pin x2 400 = true ∧ ((¬ ((s.2.1 100) (x2).toNatClampNeg) = (-1 : Int32) → X110 x1 x2 x3 s) ∧ (¬ (¬ ((s.2.1 100) (x2).toNatClampNeg) = (-1 : Int32)) → (∃ m, w_249_L33 m x1 x2 x3 (0 : Int32) (0 : Int32) s (fun y1 y2 y3 y4 s2 => w_249_L21 n y1 y2 y3 y4 s2 X110 K) K))))))
theorem q_249_L21 {d : Nat} {X110 : Int32 → Int32 → Int32 → ST → Prop} {K : Int32 → ST → Prop} : ∀ (n : Nat) (x1 : Int32) (x2 : Int32) (x3 : Int32) (x4 : Int32) (s : ST), w_249_L21 n x1 x2 x3 x4 s X110 K → (∀ (y1 : Int32) (y2 : Int32) (y3 : Int32) (s : ST), X110 y1 y2 y3 s → Ex sc (d + 0) 249 110 [.ref 55, .int y1, .int y2, .int y3, pu, pu, pu, pu, pu] [] (hpS s) (kI K)) → Ex sc (d + 0) 249 21 [.ref 55, .int x1, .int x2, .int x3, .int x4, pu, pu, pu, pu] [] (hpS s) (kI K) := by
  have hq : prog[249]? = some pm249 := rfl
  intro n
  induction n with
  | zero =>
    intro x1 x2 x3 x4 s k
    exact k.elim
  | succ n ih =>
    intro x1 x2 x3 x4 s k hX110
    rw [w_249_L21] at k
    refine Ex.seg hq 1 (j := 22) (L' := [.ref 55, .int x1, .int x2, .int x3, .int x4, pu, pu, pu, pu]) (S' := [.int x4]) (h' := hpS s) rfl ?_
    refine Ex.i1 hq rfl (fun c => ?_) (fun c => ?_)
    · have k := k.1 c
      refine Ex.fg (L := [.ref 55, .int x1, .int x2, .int x3, pu, pu, pu, pu, pu]) ⟨Or.inl rfl, ⟨Or.inl rfl, ⟨Or.inl rfl, ⟨Or.inl rfl, ⟨Or.inr ⟨rfl, rfl⟩, ⟨Or.inl rfl, ⟨Or.inl rfl, ⟨Or.inl rfl, ⟨Or.inl rfl, trivial⟩⟩⟩⟩⟩⟩⟩⟩⟩ ?_
      exact hX110 x1 x2 x3 s k
    · have k := k.2 c
      refine Ex.seg hq 3 (j := 26) (L' := [.ref 55, .int x1, .int x2, .int x3, .int x4, pu, pu, pu, pu]) (S' := [.int x2, .ref 100]) (h' := hpS s) rfl ?_
      obtain ⟨hin, k⟩ := k
      refine Ex.ial hq rfl rfl hin ?_
      refine Ex.seg hq 1 (j := 28) (L' := [.ref 55, .int x1, .int x2, .int x3, .int x4, pu, pu, pu, pu]) (S' := [.int (-1 : Int32), .int ((s.2.1 100) (x2).toNatClampNeg)]) (h' := hpS s) rfl ?_
      refine Ex.i2 hq rfl (fun c => ?_) (fun c => ?_)
      · have k := k.1 c
        refine Ex.fg (L := [.ref 55, .int x1, .int x2, .int x3, pu, pu, pu, pu, pu]) ⟨Or.inl rfl, ⟨Or.inl rfl, ⟨Or.inl rfl, ⟨Or.inl rfl, ⟨Or.inr ⟨rfl, rfl⟩, ⟨Or.inl rfl, ⟨Or.inl rfl, ⟨Or.inl rfl, ⟨Or.inl rfl, trivial⟩⟩⟩⟩⟩⟩⟩⟩⟩ ?_
        exact hX110 x1 x2 x3 s k
      · have k := k.2 c
        refine Ex.seg hq 4 (j := 33) (L' := [.ref 55, .int x1, .int x2, .int x3, .int (0 : Int32), .int (0 : Int32), pu, pu, pu]) (S' := []) (h' := hpS s) rfl ?_
        obtain ⟨m, k⟩ := k
        refine q_249_L33 (d := d) m x1 x2 x3 (0 : Int32) (0 : Int32) s k ?_
        · intro y1 y2 y3 y4 s2 k
          refine Ex.seg hq 1 (j := 21) (L' := [.ref 55, .int y1, .int y2, .int y3, .int y4, pu, pu, pu, pu]) (S' := []) (h' := hpS s2) rfl ?_
          exact ih y1 y2 y3 y4 s2 k hX110
def w_249_L122 : Nat → Int32 → Int32 → Int32 → Int32 → ST → (Int32 → Int32 → Int32 → ST → Prop) → (Int32 → ST → Prop) → Prop
  | 0, _, _, _, _, _, _, _ => False
  | n + 1, x1, x2, x5, x6, s, X175, K => ((x6 = x1 → X175 x1 x2 x5 s) ∧ (¬ (x6 = x1) → (pin x6 400 = true ∧ (pin ((s.2.1 100) (x6).toNatClampNeg) 700 = true ∧ ((¬ ((s.2.1 97) (((s.2.1 100) (x6).toNatClampNeg)).toNatClampNeg) = x6 → (pin ((s.2.1 100) (x6).toNatClampNeg) 700 = true ∧ ((x5 ≤ ((s.2.1 99) (((s.2.1 100) (x6).toNatClampNeg)).toNatClampNeg) → (pin ((s.2.1 100) (x6).toNatClampNeg) 700 = true ∧ ((¬ ((s.2.1 97) (((s.2.1 100) (x6).toNatClampNeg)).toNatClampNeg) = x6 → (pin ((s.2.1 100) (x6).toNatClampNeg) 700 = true ∧ w_249_L122 n x1 x2 x5 ((s.2.1 97) (((s.2.1 100) (x6).toNatClampNeg)).toNatClampNeg) s X175 K)) ∧ (¬ (¬ ((s.2.1 97) (((s.2.1 100) (x6).toNatClampNeg)).toNatClampNeg) = x6) → (pin ((s.2.1 100) (x6).toNatClampNeg) 700 = true ∧ w_249_L122 n x1 x2 x5 ((s.2.1 96) (((s.2.1 100) (x6).toNatClampNeg)).toNatClampNeg) s X175 K))))) ∧ (¬ (x5 ≤ ((s.2.1 99) (((s.2.1 100) (x6).toNatClampNeg)).toNatClampNeg)) → (pin ((s.2.1 100) (x6).toNatClampNeg) 700 = true ∧ ((¬ ((s.2.1 97) (((s.2.1 100) (x6).toNatClampNeg)).toNatClampNeg) = x6 → (pin ((s.2.1 100) (x6).toNatClampNeg) 700 = true ∧ w_249_L122 n x1 x2 ((s.2.1 99) (((s.2.1 100) (x6).toNatClampNeg)).toNatClampNeg) ((s.2.1 97) (((s.2.1 100) (x6).toNatClampNeg)).toNatClampNeg) s X175 K)) ∧ (¬ (¬ ((s.2.1 97) (((s.2.1 100) (x6).toNatClampNeg)).toNatClampNeg) = x6) → (pin ((s.2.1 100) (x6).toNatClampNeg) 700 = true ∧ w_249_L122 n x1 x2 ((s.2.1 99) (((s.2.1 100) (x6).toNatClampNeg)).toNatClampNeg) ((s.2.1 96) (((s.2.1 100) (x6).toNatClampNeg)).toNatClampNeg) s X175 K)))))))) ∧ (¬ (¬ ((s.2.1 97) (((s.2.1 100) (x6).toNatClampNeg)).toNatClampNeg) = x6) → (pin ((s.2.1 100) (x6).toNatClampNeg) 700 = true ∧ (pin ((s.2.1 100) (x6).toNatClampNeg) 700 = true ∧ ((x5 ≤ (((s.2.1 98) (((s.2.1 100) (x6).toNatClampNeg)).toNatClampNeg) - ((s.2.1 99) (((s.2.1 100) (x6).toNatClampNeg)).toNatClampNeg)) → (pin ((s.2.1 100) (x6).toNatClampNeg) 700 = true ∧ ((¬ ((s.2.1 97) (((s.2.1 100) (x6).toNatClampNeg)).toNatClampNeg) = x6 → (pin ((s.2.1 100) (x6).toNatClampNeg) 700 = true ∧ w_249_L122 n x1 x2 x5 ((s.2.1 97) (((s.2.1 100) (x6).toNatClampNeg)).toNatClampNeg) s X175 K)) ∧ (¬ (¬ ((s.2.1 97) (((s.2.1 100) (x6).toNatClampNeg)).toNatClampNeg) = x6) → (pin ((s.2.1 100) (x6).toNatClampNeg) 700 = true ∧ w_249_L122 n x1 x2 x5 ((s.2.1 96) (((s.2.1 100) (x6).toNatClampNeg)).toNatClampNeg) s X175 K))))) ∧ (¬ (x5 ≤ (((s.2.1 98) (((s.2.1 100) (x6).toNatClampNeg)).toNatClampNeg) - ((s.2.1 99) (((s.2.1 100) (x6).toNatClampNeg)).toNatClampNeg))) → (pin ((s.2.1 100) (x6).toNatClampNeg) 700 = true ∧ ((¬ ((s.2.1 97) (((s.2.1 100) (x6).toNatClampNeg)).toNatClampNeg) = x6 → (pin ((s.2.1 100) (x6).toNatClampNeg) 700 = true ∧ w_249_L122 n x1 x2 (((s.2.1 98) (((s.2.1 100) (x6).toNatClampNeg)).toNatClampNeg) - ((s.2.1 99) (((s.2.1 100) (x6).toNatClampNeg)).toNatClampNeg)) ((s.2.1 97) (((s.2.1 100) (x6).toNatClampNeg)).toNatClampNeg) s X175 K)) ∧ (¬ (¬ ((s.2.1 97) (((s.2.1 100) (x6).toNatClampNeg)).toNatClampNeg) = x6) → (pin ((s.2.1 100) (x6).toNatClampNeg) 700 = true ∧ w_249_L122 n x1 x2 (((s.2.1 98) (((s.2.1 100) (x6).toNatClampNeg)).toNatClampNeg) - ((s.2.1 99) (((s.2.1 100) (x6).toNatClampNeg)).toNatClampNeg)) ((s.2.1 96) (((s.2.1 100) (x6).toNatClampNeg)).toNatClampNeg) s X175 K))))))))))))))
theorem q_249_L122 {d : Nat} {X175 : Int32 → Int32 → Int32 → ST → Prop} {K : Int32 → ST → Prop} : ∀ (n : Nat) (x1 : Int32) (x2 : Int32) (x5 : Int32) (x6 : Int32) (s : ST), w_249_L122 n x1 x2 x5 x6 s X175 K → (∀ (y1 : Int32) (y2 : Int32) (y5 : Int32) (s : ST), X175 y1 y2 y5 s → Ex sc (d + 0) 249 175 [.ref 55, .int y1, .int y2, pu, pu, .int y5, pu, pu, pu] [] (hpS s) (kI K)) → Ex sc (d + 0) 249 122 [.ref 55, .int x1, .int x2, pu, pu, .int x5, .int x6, pu, pu] [] (hpS s) (kI K) := by
  have hq : prog[249]? = some pm249 := rfl
  intro n
  induction n with
  | zero =>
    intro x1 x2 x5 x6 s k
    exact k.elim
  | succ n ih =>
    intro x1 x2 x5 x6 s k hX175
    rw [w_249_L122] at k
    refine Ex.seg hq 2 (j := 124) (L' := [.ref 55, .int x1, .int x2, pu, pu, .int x5, .int x6, pu, pu]) (S' := [.int x1, .int x6]) (h' := hpS s) rfl ?_
    refine Ex.i2 hq rfl (fun c => ?_) (fun c => ?_)
    · have k := k.1 c
      refine Ex.fg (L := [.ref 55, .int x1, .int x2, pu, pu, .int x5, pu, pu, pu]) ⟨Or.inl rfl, ⟨Or.inl rfl, ⟨Or.inl rfl, ⟨Or.inl rfl, ⟨Or.inl rfl, ⟨Or.inl rfl, ⟨Or.inr ⟨rfl, rfl⟩, ⟨Or.inl rfl, ⟨Or.inl rfl, trivial⟩⟩⟩⟩⟩⟩⟩⟩⟩ ?_
      exact hX175 x1 x2 x5 s k
    · have k := k.2 c
      refine Ex.seg hq 3 (j := 128) (L' := [.ref 55, .int x1, .int x2, pu, pu, .int x5, .int x6, pu, pu]) (S' := [.int x6, .ref 100]) (h' := hpS s) rfl ?_
      obtain ⟨hin, k⟩ := k
      refine Ex.ial hq rfl rfl hin ?_
      refine Ex.seg hq 4 (j := 133) (L' := [.ref 55, .int x1, .int x2, pu, pu, .int x5, .int x6, .int ((s.2.1 100) (x6).toNatClampNeg), pu]) (S' := [.int ((s.2.1 100) (x6).toNatClampNeg), .ref 97]) (h' := hpS s) rfl ?_
      obtain ⟨hin, k⟩ := k
      refine Ex.ial hq rfl rfl hin ?_
      refine Ex.seg hq 1 (j := 135) (L' := [.ref 55, .int x1, .int x2, pu, pu, .int x5, .int x6, .int ((s.2.1 100) (x6).toNatClampNeg), pu]) (S' := [.int x6, .int ((s.2.1 97) (((s.2.1 100) (x6).toNatClampNeg)).toNatClampNeg)]) (h' := hpS s) rfl ?_
      refine Ex.i2 hq rfl (fun c => ?_) (fun c => ?_)
      · have k := k.1 c
        refine Ex.seg hq 3 (j := 149) (L' := [.ref 55, .int x1, .int x2, pu, pu, .int x5, .int x6, .int ((s.2.1 100) (x6).toNatClampNeg), pu]) (S' := [.int ((s.2.1 100) (x6).toNatClampNeg), .ref 99]) (h' := hpS s) rfl ?_
        obtain ⟨hin, k⟩ := k
        refine Ex.ial hq rfl rfl hin ?_
        refine Ex.seg hq 3 (j := 153) (L' := [.ref 55, .int x1, .int x2, pu, pu, .int x5, .int x6, .int ((s.2.1 100) (x6).toNatClampNeg), .int ((s.2.1 99) (((s.2.1 100) (x6).toNatClampNeg)).toNatClampNeg)]) (S' := [.int x5, .int ((s.2.1 99) (((s.2.1 100) (x6).toNatClampNeg)).toNatClampNeg)]) (h' := hpS s) rfl ?_
        refine Ex.i2 hq rfl (fun c => ?_) (fun c => ?_)
        · have k := k.1 c
          refine Ex.seg hq 5 (j := 161) (L' := [.ref 55, .int x1, .int x2, pu, pu, .int x5, .int x6, .int ((s.2.1 100) (x6).toNatClampNeg), .int ((s.2.1 99) (((s.2.1 100) (x6).toNatClampNeg)).toNatClampNeg)]) (S' := [.int ((s.2.1 100) (x6).toNatClampNeg), .ref 97]) (h' := hpS s) rfl ?_
          obtain ⟨hin, k⟩ := k
          refine Ex.ial hq rfl rfl hin ?_
          refine Ex.seg hq 1 (j := 163) (L' := [.ref 55, .int x1, .int x2, pu, pu, .int x5, .int x6, .int ((s.2.1 100) (x6).toNatClampNeg), .int ((s.2.1 99) (((s.2.1 100) (x6).toNatClampNeg)).toNatClampNeg)]) (S' := [.int x6, .int ((s.2.1 97) (((s.2.1 100) (x6).toNatClampNeg)).toNatClampNeg)]) (h' := hpS s) rfl ?_
          refine Ex.i2 hq rfl (fun c => ?_) (fun c => ?_)
          · have k := k.1 c
            refine Ex.seg hq 3 (j := 172) (L' := [.ref 55, .int x1, .int x2, pu, pu, .int x5, .int x6, .int ((s.2.1 100) (x6).toNatClampNeg), .int ((s.2.1 99) (((s.2.1 100) (x6).toNatClampNeg)).toNatClampNeg)]) (S' := [.int ((s.2.1 100) (x6).toNatClampNeg), .ref 97]) (h' := hpS s) rfl ?_
            obtain ⟨hin, k⟩ := k
            refine Ex.ial hq rfl rfl hin ?_
            refine Ex.seg hq 2 (j := 122) (L' := [.ref 55, .int x1, .int x2, pu, pu, .int x5, .int ((s.2.1 97) (((s.2.1 100) (x6).toNatClampNeg)).toNatClampNeg), .int ((s.2.1 100) (x6).toNatClampNeg), .int ((s.2.1 99) (((s.2.1 100) (x6).toNatClampNeg)).toNatClampNeg)]) (S' := []) (h' := hpS s) rfl ?_
            refine Ex.fg (L := [.ref 55, .int x1, .int x2, pu, pu, .int x5, .int ((s.2.1 97) (((s.2.1 100) (x6).toNatClampNeg)).toNatClampNeg), pu, pu]) ⟨Or.inl rfl, ⟨Or.inl rfl, ⟨Or.inl rfl, ⟨Or.inl rfl, ⟨Or.inl rfl, ⟨Or.inl rfl, ⟨Or.inl rfl, ⟨Or.inr ⟨rfl, rfl⟩, ⟨Or.inr ⟨rfl, rfl⟩, trivial⟩⟩⟩⟩⟩⟩⟩⟩⟩ ?_
            exact ih x1 x2 x5 ((s.2.1 97) (((s.2.1 100) (x6).toNatClampNeg)).toNatClampNeg) s k hX175
          · have k := k.2 c
            refine Ex.seg hq 3 (j := 167) (L' := [.ref 55, .int x1, .int x2, pu, pu, .int x5, .int x6, .int ((s.2.1 100) (x6).toNatClampNeg), .int ((s.2.1 99) (((s.2.1 100) (x6).toNatClampNeg)).toNatClampNeg)]) (S' := [.int ((s.2.1 100) (x6).toNatClampNeg), .ref 96]) (h' := hpS s) rfl ?_
            obtain ⟨hin, k⟩ := k
            refine Ex.ial hq rfl rfl hin ?_
            refine Ex.seg hq 3 (j := 122) (L' := [.ref 55, .int x1, .int x2, pu, pu, .int x5, .int ((s.2.1 96) (((s.2.1 100) (x6).toNatClampNeg)).toNatClampNeg), .int ((s.2.1 100) (x6).toNatClampNeg), .int ((s.2.1 99) (((s.2.1 100) (x6).toNatClampNeg)).toNatClampNeg)]) (S' := []) (h' := hpS s) rfl ?_
            refine Ex.fg (L := [.ref 55, .int x1, .int x2, pu, pu, .int x5, .int ((s.2.1 96) (((s.2.1 100) (x6).toNatClampNeg)).toNatClampNeg), pu, pu]) ⟨Or.inl rfl, ⟨Or.inl rfl, ⟨Or.inl rfl, ⟨Or.inl rfl, ⟨Or.inl rfl, ⟨Or.inl rfl, ⟨Or.inl rfl, ⟨Or.inr ⟨rfl, rfl⟩, ⟨Or.inr ⟨rfl, rfl⟩, trivial⟩⟩⟩⟩⟩⟩⟩⟩⟩ ?_
            exact ih x1 x2 x5 ((s.2.1 96) (((s.2.1 100) (x6).toNatClampNeg)).toNatClampNeg) s k hX175
        · have k := k.2 c
          refine Ex.seg hq 6 (j := 161) (L' := [.ref 55, .int x1, .int x2, pu, pu, .int ((s.2.1 99) (((s.2.1 100) (x6).toNatClampNeg)).toNatClampNeg), .int x6, .int ((s.2.1 100) (x6).toNatClampNeg), .int ((s.2.1 99) (((s.2.1 100) (x6).toNatClampNeg)).toNatClampNeg)]) (S' := [.int ((s.2.1 100) (x6).toNatClampNeg), .ref 97]) (h' := hpS s) rfl ?_
          obtain ⟨hin, k⟩ := k
          refine Ex.ial hq rfl rfl hin ?_
          refine Ex.seg hq 1 (j := 163) (L' := [.ref 55, .int x1, .int x2, pu, pu, .int ((s.2.1 99) (((s.2.1 100) (x6).toNatClampNeg)).toNatClampNeg), .int x6, .int ((s.2.1 100) (x6).toNatClampNeg), .int ((s.2.1 99) (((s.2.1 100) (x6).toNatClampNeg)).toNatClampNeg)]) (S' := [.int x6, .int ((s.2.1 97) (((s.2.1 100) (x6).toNatClampNeg)).toNatClampNeg)]) (h' := hpS s) rfl ?_
          refine Ex.i2 hq rfl (fun c => ?_) (fun c => ?_)
          · have k := k.1 c
            refine Ex.seg hq 3 (j := 172) (L' := [.ref 55, .int x1, .int x2, pu, pu, .int ((s.2.1 99) (((s.2.1 100) (x6).toNatClampNeg)).toNatClampNeg), .int x6, .int ((s.2.1 100) (x6).toNatClampNeg), .int ((s.2.1 99) (((s.2.1 100) (x6).toNatClampNeg)).toNatClampNeg)]) (S' := [.int ((s.2.1 100) (x6).toNatClampNeg), .ref 97]) (h' := hpS s) rfl ?_
            obtain ⟨hin, k⟩ := k
            refine Ex.ial hq rfl rfl hin ?_
            refine Ex.seg hq 2 (j := 122) (L' := [.ref 55, .int x1, .int x2, pu, pu, .int ((s.2.1 99) (((s.2.1 100) (x6).toNatClampNeg)).toNatClampNeg), .int ((s.2.1 97) (((s.2.1 100) (x6).toNatClampNeg)).toNatClampNeg), .int ((s.2.1 100) (x6).toNatClampNeg), .int ((s.2.1 99) (((s.2.1 100) (x6).toNatClampNeg)).toNatClampNeg)]) (S' := []) (h' := hpS s) rfl ?_
            refine Ex.fg (L := [.ref 55, .int x1, .int x2, pu, pu, .int ((s.2.1 99) (((s.2.1 100) (x6).toNatClampNeg)).toNatClampNeg), .int ((s.2.1 97) (((s.2.1 100) (x6).toNatClampNeg)).toNatClampNeg), pu, pu]) ⟨Or.inl rfl, ⟨Or.inl rfl, ⟨Or.inl rfl, ⟨Or.inl rfl, ⟨Or.inl rfl, ⟨Or.inl rfl, ⟨Or.inl rfl, ⟨Or.inr ⟨rfl, rfl⟩, ⟨Or.inr ⟨rfl, rfl⟩, trivial⟩⟩⟩⟩⟩⟩⟩⟩⟩ ?_
            exact ih x1 x2 ((s.2.1 99) (((s.2.1 100) (x6).toNatClampNeg)).toNatClampNeg) ((s.2.1 97) (((s.2.1 100) (x6).toNatClampNeg)).toNatClampNeg) s k hX175
          · have k := k.2 c
            refine Ex.seg hq 3 (j := 167) (L' := [.ref 55, .int x1, .int x2, pu, pu, .int ((s.2.1 99) (((s.2.1 100) (x6).toNatClampNeg)).toNatClampNeg), .int x6, .int ((s.2.1 100) (x6).toNatClampNeg), .int ((s.2.1 99) (((s.2.1 100) (x6).toNatClampNeg)).toNatClampNeg)]) (S' := [.int ((s.2.1 100) (x6).toNatClampNeg), .ref 96]) (h' := hpS s) rfl ?_
            obtain ⟨hin, k⟩ := k
            refine Ex.ial hq rfl rfl hin ?_
            refine Ex.seg hq 3 (j := 122) (L' := [.ref 55, .int x1, .int x2, pu, pu, .int ((s.2.1 99) (((s.2.1 100) (x6).toNatClampNeg)).toNatClampNeg), .int ((s.2.1 96) (((s.2.1 100) (x6).toNatClampNeg)).toNatClampNeg), .int ((s.2.1 100) (x6).toNatClampNeg), .int ((s.2.1 99) (((s.2.1 100) (x6).toNatClampNeg)).toNatClampNeg)]) (S' := []) (h' := hpS s) rfl ?_
            refine Ex.fg (L := [.ref 55, .int x1, .int x2, pu, pu, .int ((s.2.1 99) (((s.2.1 100) (x6).toNatClampNeg)).toNatClampNeg), .int ((s.2.1 96) (((s.2.1 100) (x6).toNatClampNeg)).toNatClampNeg), pu, pu]) ⟨Or.inl rfl, ⟨Or.inl rfl, ⟨Or.inl rfl, ⟨Or.inl rfl, ⟨Or.inl rfl, ⟨Or.inl rfl, ⟨Or.inl rfl, ⟨Or.inr ⟨rfl, rfl⟩, ⟨Or.inr ⟨rfl, rfl⟩, trivial⟩⟩⟩⟩⟩⟩⟩⟩⟩ ?_
            exact ih x1 x2 ((s.2.1 99) (((s.2.1 100) (x6).toNatClampNeg)).toNatClampNeg) ((s.2.1 96) (((s.2.1 100) (x6).toNatClampNeg)).toNatClampNeg) s k hX175
      · have k := k.2 c
        refine Ex.seg hq 3 (j := 139) (L' := [.ref 55, .int x1, .int x2, pu, pu, .int x5, .int x6, .int ((s.2.1 100) (x6).toNatClampNeg), pu]) (S' := [.int ((s.2.1 100) (x6).toNatClampNeg), .ref 98]) (h' := hpS s) rfl ?_
        obtain ⟨hin, k⟩ := k
        refine Ex.ial hq rfl rfl hin ?_
        refine Ex.seg hq 3 (j := 143) (L' := [.ref 55, .int x1, .int x2, pu, pu, .int x5, .int x6, .int ((s.2.1 100) (x6).toNatClampNeg), pu]) (S' := [.int ((s.2.1 100) (x6).toNatClampNeg), .ref 99, .int ((s.2.1 98) (((s.2.1 100) (x6).toNatClampNeg)).toNatClampNeg)]) (h' := hpS s) rfl ?_
        obtain ⟨hin, k⟩ := k
        refine Ex.ial hq rfl rfl hin ?_
        refine Ex.seg hq 5 (j := 153) (L' := [.ref 55, .int x1, .int x2, pu, pu, .int x5, .int x6, .int ((s.2.1 100) (x6).toNatClampNeg), .int (((s.2.1 98) (((s.2.1 100) (x6).toNatClampNeg)).toNatClampNeg) - ((s.2.1 99) (((s.2.1 100) (x6).toNatClampNeg)).toNatClampNeg))]) (S' := [.int x5, .int (((s.2.1 98) (((s.2.1 100) (x6).toNatClampNeg)).toNatClampNeg) - ((s.2.1 99) (((s.2.1 100) (x6).toNatClampNeg)).toNatClampNeg))]) (h' := hpS s) rfl ?_
        refine Ex.i2 hq rfl (fun c => ?_) (fun c => ?_)
        · have k := k.1 c
          refine Ex.seg hq 5 (j := 161) (L' := [.ref 55, .int x1, .int x2, pu, pu, .int x5, .int x6, .int ((s.2.1 100) (x6).toNatClampNeg), .int (((s.2.1 98) (((s.2.1 100) (x6).toNatClampNeg)).toNatClampNeg) - ((s.2.1 99) (((s.2.1 100) (x6).toNatClampNeg)).toNatClampNeg))]) (S' := [.int ((s.2.1 100) (x6).toNatClampNeg), .ref 97]) (h' := hpS s) rfl ?_
          obtain ⟨hin, k⟩ := k
          refine Ex.ial hq rfl rfl hin ?_
          refine Ex.seg hq 1 (j := 163) (L' := [.ref 55, .int x1, .int x2, pu, pu, .int x5, .int x6, .int ((s.2.1 100) (x6).toNatClampNeg), .int (((s.2.1 98) (((s.2.1 100) (x6).toNatClampNeg)).toNatClampNeg) - ((s.2.1 99) (((s.2.1 100) (x6).toNatClampNeg)).toNatClampNeg))]) (S' := [.int x6, .int ((s.2.1 97) (((s.2.1 100) (x6).toNatClampNeg)).toNatClampNeg)]) (h' := hpS s) rfl ?_
          refine Ex.i2 hq rfl (fun c => ?_) (fun c => ?_)
          · have k := k.1 c
            refine Ex.seg hq 3 (j := 172) (L' := [.ref 55, .int x1, .int x2, pu, pu, .int x5, .int x6, .int ((s.2.1 100) (x6).toNatClampNeg), .int (((s.2.1 98) (((s.2.1 100) (x6).toNatClampNeg)).toNatClampNeg) - ((s.2.1 99) (((s.2.1 100) (x6).toNatClampNeg)).toNatClampNeg))]) (S' := [.int ((s.2.1 100) (x6).toNatClampNeg), .ref 97]) (h' := hpS s) rfl ?_
            obtain ⟨hin, k⟩ := k
            refine Ex.ial hq rfl rfl hin ?_
            refine Ex.seg hq 2 (j := 122) (L' := [.ref 55, .int x1, .int x2, pu, pu, .int x5, .int ((s.2.1 97) (((s.2.1 100) (x6).toNatClampNeg)).toNatClampNeg), .int ((s.2.1 100) (x6).toNatClampNeg), .int (((s.2.1 98) (((s.2.1 100) (x6).toNatClampNeg)).toNatClampNeg) - ((s.2.1 99) (((s.2.1 100) (x6).toNatClampNeg)).toNatClampNeg))]) (S' := []) (h' := hpS s) rfl ?_
            refine Ex.fg (L := [.ref 55, .int x1, .int x2, pu, pu, .int x5, .int ((s.2.1 97) (((s.2.1 100) (x6).toNatClampNeg)).toNatClampNeg), pu, pu]) ⟨Or.inl rfl, ⟨Or.inl rfl, ⟨Or.inl rfl, ⟨Or.inl rfl, ⟨Or.inl rfl, ⟨Or.inl rfl, ⟨Or.inl rfl, ⟨Or.inr ⟨rfl, rfl⟩, ⟨Or.inr ⟨rfl, rfl⟩, trivial⟩⟩⟩⟩⟩⟩⟩⟩⟩ ?_
            exact ih x1 x2 x5 ((s.2.1 97) (((s.2.1 100) (x6).toNatClampNeg)).toNatClampNeg) s k hX175
          · have k := k.2 c
            refine Ex.seg hq 3 (j := 167) (L' := [.ref 55, .int x1, .int x2, pu, pu, .int x5, .int x6, .int ((s.2.1 100) (x6).toNatClampNeg), .int (((s.2.1 98) (((s.2.1 100) (x6).toNatClampNeg)).toNatClampNeg) - ((s.2.1 99) (((s.2.1 100) (x6).toNatClampNeg)).toNatClampNeg))]) (S' := [.int ((s.2.1 100) (x6).toNatClampNeg), .ref 96]) (h' := hpS s) rfl ?_
            obtain ⟨hin, k⟩ := k
            refine Ex.ial hq rfl rfl hin ?_
            refine Ex.seg hq 3 (j := 122) (L' := [.ref 55, .int x1, .int x2, pu, pu, .int x5, .int ((s.2.1 96) (((s.2.1 100) (x6).toNatClampNeg)).toNatClampNeg), .int ((s.2.1 100) (x6).toNatClampNeg), .int (((s.2.1 98) (((s.2.1 100) (x6).toNatClampNeg)).toNatClampNeg) - ((s.2.1 99) (((s.2.1 100) (x6).toNatClampNeg)).toNatClampNeg))]) (S' := []) (h' := hpS s) rfl ?_
            refine Ex.fg (L := [.ref 55, .int x1, .int x2, pu, pu, .int x5, .int ((s.2.1 96) (((s.2.1 100) (x6).toNatClampNeg)).toNatClampNeg), pu, pu]) ⟨Or.inl rfl, ⟨Or.inl rfl, ⟨Or.inl rfl, ⟨Or.inl rfl, ⟨Or.inl rfl, ⟨Or.inl rfl, ⟨Or.inl rfl, ⟨Or.inr ⟨rfl, rfl⟩, ⟨Or.inr ⟨rfl, rfl⟩, trivial⟩⟩⟩⟩⟩⟩⟩⟩⟩ ?_
            exact ih x1 x2 x5 ((s.2.1 96) (((s.2.1 100) (x6).toNatClampNeg)).toNatClampNeg) s k hX175
        · have k := k.2 c
          refine Ex.seg hq 6 (j := 161) (L' := [.ref 55, .int x1, .int x2, pu, pu, .int (((s.2.1 98) (((s.2.1 100) (x6).toNatClampNeg)).toNatClampNeg) - ((s.2.1 99) (((s.2.1 100) (x6).toNatClampNeg)).toNatClampNeg)), .int x6, .int ((s.2.1 100) (x6).toNatClampNeg), .int (((s.2.1 98) (((s.2.1 100) (x6).toNatClampNeg)).toNatClampNeg) - ((s.2.1 99) (((s.2.1 100) (x6).toNatClampNeg)).toNatClampNeg))]) (S' := [.int ((s.2.1 100) (x6).toNatClampNeg), .ref 97]) (h' := hpS s) rfl ?_
          obtain ⟨hin, k⟩ := k
          refine Ex.ial hq rfl rfl hin ?_
          refine Ex.seg hq 1 (j := 163) (L' := [.ref 55, .int x1, .int x2, pu, pu, .int (((s.2.1 98) (((s.2.1 100) (x6).toNatClampNeg)).toNatClampNeg) - ((s.2.1 99) (((s.2.1 100) (x6).toNatClampNeg)).toNatClampNeg)), .int x6, .int ((s.2.1 100) (x6).toNatClampNeg), .int (((s.2.1 98) (((s.2.1 100) (x6).toNatClampNeg)).toNatClampNeg) - ((s.2.1 99) (((s.2.1 100) (x6).toNatClampNeg)).toNatClampNeg))]) (S' := [.int x6, .int ((s.2.1 97) (((s.2.1 100) (x6).toNatClampNeg)).toNatClampNeg)]) (h' := hpS s) rfl ?_
          refine Ex.i2 hq rfl (fun c => ?_) (fun c => ?_)
          · have k := k.1 c
            refine Ex.seg hq 3 (j := 172) (L' := [.ref 55, .int x1, .int x2, pu, pu, .int (((s.2.1 98) (((s.2.1 100) (x6).toNatClampNeg)).toNatClampNeg) - ((s.2.1 99) (((s.2.1 100) (x6).toNatClampNeg)).toNatClampNeg)), .int x6, .int ((s.2.1 100) (x6).toNatClampNeg), .int (((s.2.1 98) (((s.2.1 100) (x6).toNatClampNeg)).toNatClampNeg) - ((s.2.1 99) (((s.2.1 100) (x6).toNatClampNeg)).toNatClampNeg))]) (S' := [.int ((s.2.1 100) (x6).toNatClampNeg), .ref 97]) (h' := hpS s) rfl ?_
            obtain ⟨hin, k⟩ := k
            refine Ex.ial hq rfl rfl hin ?_
            refine Ex.seg hq 2 (j := 122) (L' := [.ref 55, .int x1, .int x2, pu, pu, .int (((s.2.1 98) (((s.2.1 100) (x6).toNatClampNeg)).toNatClampNeg) - ((s.2.1 99) (((s.2.1 100) (x6).toNatClampNeg)).toNatClampNeg)), .int ((s.2.1 97) (((s.2.1 100) (x6).toNatClampNeg)).toNatClampNeg), .int ((s.2.1 100) (x6).toNatClampNeg), .int (((s.2.1 98) (((s.2.1 100) (x6).toNatClampNeg)).toNatClampNeg) - ((s.2.1 99) (((s.2.1 100) (x6).toNatClampNeg)).toNatClampNeg))]) (S' := []) (h' := hpS s) rfl ?_
            refine Ex.fg (L := [.ref 55, .int x1, .int x2, pu, pu, .int (((s.2.1 98) (((s.2.1 100) (x6).toNatClampNeg)).toNatClampNeg) - ((s.2.1 99) (((s.2.1 100) (x6).toNatClampNeg)).toNatClampNeg)), .int ((s.2.1 97) (((s.2.1 100) (x6).toNatClampNeg)).toNatClampNeg), pu, pu]) ⟨Or.inl rfl, ⟨Or.inl rfl, ⟨Or.inl rfl, ⟨Or.inl rfl, ⟨Or.inl rfl, ⟨Or.inl rfl, ⟨Or.inl rfl, ⟨Or.inr ⟨rfl, rfl⟩, ⟨Or.inr ⟨rfl, rfl⟩, trivial⟩⟩⟩⟩⟩⟩⟩⟩⟩ ?_
            exact ih x1 x2 (((s.2.1 98) (((s.2.1 100) (x6).toNatClampNeg)).toNatClampNeg) - ((s.2.1 99) (((s.2.1 100) (x6).toNatClampNeg)).toNatClampNeg)) ((s.2.1 97) (((s.2.1 100) (x6).toNatClampNeg)).toNatClampNeg) s k hX175
          · have k := k.2 c
            refine Ex.seg hq 3 (j := 167) (L' := [.ref 55, .int x1, .int x2, pu, pu, .int (((s.2.1 98) (((s.2.1 100) (x6).toNatClampNeg)).toNatClampNeg) - ((s.2.1 99) (((s.2.1 100) (x6).toNatClampNeg)).toNatClampNeg)), .int x6, .int ((s.2.1 100) (x6).toNatClampNeg), .int (((s.2.1 98) (((s.2.1 100) (x6).toNatClampNeg)).toNatClampNeg) - ((s.2.1 99) (((s.2.1 100) (x6).toNatClampNeg)).toNatClampNeg))]) (S' := [.int ((s.2.1 100) (x6).toNatClampNeg), .ref 96]) (h' := hpS s) rfl ?_
            obtain ⟨hin, k⟩ := k
            refine Ex.ial hq rfl rfl hin ?_
            refine Ex.seg hq 3 (j := 122) (L' := [.ref 55, .int x1, .int x2, pu, pu, .int (((s.2.1 98) (((s.2.1 100) (x6).toNatClampNeg)).toNatClampNeg) - ((s.2.1 99) (((s.2.1 100) (x6).toNatClampNeg)).toNatClampNeg)), .int ((s.2.1 96) (((s.2.1 100) (x6).toNatClampNeg)).toNatClampNeg), .int ((s.2.1 100) (x6).toNatClampNeg), .int (((s.2.1 98) (((s.2.1 100) (x6).toNatClampNeg)).toNatClampNeg) - ((s.2.1 99) (((s.2.1 100) (x6).toNatClampNeg)).toNatClampNeg))]) (S' := []) (h' := hpS s) rfl ?_
            refine Ex.fg (L := [.ref 55, .int x1, .int x2, pu, pu, .int (((s.2.1 98) (((s.2.1 100) (x6).toNatClampNeg)).toNatClampNeg) - ((s.2.1 99) (((s.2.1 100) (x6).toNatClampNeg)).toNatClampNeg)), .int ((s.2.1 96) (((s.2.1 100) (x6).toNatClampNeg)).toNatClampNeg), pu, pu]) ⟨Or.inl rfl, ⟨Or.inl rfl, ⟨Or.inl rfl, ⟨Or.inl rfl, ⟨Or.inl rfl, ⟨Or.inl rfl, ⟨Or.inl rfl, ⟨Or.inr ⟨rfl, rfl⟩, ⟨Or.inr ⟨rfl, rfl⟩, trivial⟩⟩⟩⟩⟩⟩⟩⟩⟩ ?_
            exact ih x1 x2 (((s.2.1 98) (((s.2.1 100) (x6).toNatClampNeg)).toNatClampNeg) - ((s.2.1 99) (((s.2.1 100) (x6).toNatClampNeg)).toNatClampNeg)) ((s.2.1 96) (((s.2.1 100) (x6).toNatClampNeg)).toNatClampNeg) s k hX175
def w_249_L177 : Nat → Int32 → Int32 → Int32 → ST → (Int32 → ST → Prop) → (Int32 → ST → Prop) → Prop
  | 0, _, _, _, _, _, _ => False
  | n + 1, x1, x5, x6, s, X227, K => ((x6 = x1 → X227 x5 s) ∧ (¬ (x6 = x1) → (pin x6 400 = true ∧ (pin ((s.2.1 100) (x6).toNatClampNeg) 700 = true ∧ ((¬ ((s.2.1 97) (((s.2.1 100) (x6).toNatClampNeg)).toNatClampNeg) = x6 → (((0 : Int32) = 0 → (pin ((s.2.1 100) (x6).toNatClampNeg) 700 = true ∧ (pin ((s.2.1 100) (x6).toNatClampNeg) 700 = true ∧ (((0 : Int32) = 0 → (pin ((s.2.1 100) (x6).toNatClampNeg) 700 = true ∧ w_249_L177 n x1 x5 ((s.2.1 97) (((s.2.1 100) (x6).toNatClampNeg)).toNatClampNeg) (sA s 99 (upd (s.2.1 99) (((s.2.1 100) (x6).toNatClampNeg)).toNatClampNeg (((s.2.1 99) (((s.2.1 100) (x6).toNatClampNeg)).toNatClampNeg) - x5))) X227 K)) ∧ (¬ ((0 : Int32) = 0) → (pin ((s.2.1 100) (x6).toNatClampNeg) 700 = true ∧ w_249_L177 n x1 x5 ((s.2.1 96) (((s.2.1 100) (x6).toNatClampNeg)).toNatClampNeg) (sA s 99 (upd (s.2.1 99) (((s.2.1 100) (x6).toNatClampNeg)).toNatClampNeg (((s.2.1 99) (((s.2.1 100) (x6).toNatClampNeg)).toNatClampNeg) - x5))) X227 K)))))) ∧ (¬ ((0 : Int32) = 0) → (pin ((s.2.1 100) (x6).toNatClampNeg) 700 = true ∧ (pin ((s.2.1 100) (x6).toNatClampNeg) 700 = true ∧ (((0 : Int32) = 0 → (pin ((s.2.1 100) (x6).toNatClampNeg) 700 = true ∧ w_249_L177 n x1 x5 ((s.2.1 97) (((s.2.1 100) (x6).toNatClampNeg)).toNatClampNeg) (sA s 99 (upd (s.2.1 99) (((s.2.1 100) (x6).toNatClampNeg)).toNatClampNeg (((s.2.1 99) (((s.2.1 100) (x6).toNatClampNeg)).toNatClampNeg) + x5))) X227 K)) ∧ (¬ ((0 : Int32) = 0) → (pin ((s.2.1 100) (x6).toNatClampNeg) 700 = true ∧ w_249_L177 n x1 x5 ((s.2.1 96) (((s.2.1 100) (x6).toNatClampNeg)).toNatClampNeg) (sA s 99 (upd (s.2.1 99) (((s.2.1 100) (x6).toNatClampNeg)).toNatClampNeg (((s.2.1 99) (((s.2.1 100) (x6).toNatClampNeg)).toNatClampNeg) + x5))) X227 K)))))))) ∧ (¬ (¬ ((s.2.1 97) (((s.2.1 100) (x6).toNatClampNeg)).toNatClampNeg) = x6) → (((1 : Int32) = 0 → (pin ((s.2.1 100) (x6).toNatClampNeg) 700 = true ∧ (pin ((s.2.1 100) (x6).toNatClampNeg) 700 = true ∧ (((1 : Int32) = 0 → (pin ((s.2.1 100) (x6).toNatClampNeg) 700 = true ∧ w_249_L177 n x1 x5 ((s.2.1 97) (((s.2.1 100) (x6).toNatClampNeg)).toNatClampNeg) (sA s 99 (upd (s.2.1 99) (((s.2.1 100) (x6).toNatClampNeg)).toNatClampNeg (((s.2.1 99) (((s.2.1 100) (x6).toNatClampNeg)).toNatClampNeg) - x5))) X227 K)) ∧ (¬ ((1 : Int32) = 0) → (pin ((s.2.1 100) (x6).toNatClampNeg) 700 = true ∧ w_249_L177 n x1 x5 ((s.2.1 96) (((s.2.1 100) (x6).toNatClampNeg)).toNatClampNeg) (sA s 99 (upd (s.2.1 99) (((s.2.1 100) (x6).toNatClampNeg)).toNatClampNeg (((s.2.1 99) (((s.2.1 100) (x6).toNatClampNeg)).toNatClampNeg) - x5))) X227 K)))))) ∧ (¬ ((1 : Int32) = 0) → (pin ((s.2.1 100) (x6).toNatClampNeg) 700 = true ∧ (pin ((s.2.1 100) (x6).toNatClampNeg) 700 = true ∧ (((1 : Int32) = 0 → (pin ((s.2.1 100) (x6).toNatClampNeg) 700 = true ∧ w_249_L177 n x1 x5 ((s.2.1 97) (((s.2.1 100) (x6).toNatClampNeg)).toNatClampNeg) (sA s 99 (upd (s.2.1 99) (((s.2.1 100) (x6).toNatClampNeg)).toNatClampNeg (((s.2.1 99) (((s.2.1 100) (x6).toNatClampNeg)).toNatClampNeg) + x5))) X227 K)) ∧ (¬ ((1 : Int32) = 0) → (pin ((s.2.1 100) (x6).toNatClampNeg) 700 = true ∧ w_249_L177 n x1 x5 ((s.2.1 96) (((s.2.1 100) (x6).toNatClampNeg)).toNatClampNeg) (sA s 99 (upd (s.2.1 99) (((s.2.1 100) (x6).toNatClampNeg)).toNatClampNeg (((s.2.1 99) (((s.2.1 100) (x6).toNatClampNeg)).toNatClampNeg) + x5))) X227 K)))))))))))))
theorem q_249_L177 {d : Nat} {X227 : Int32 → ST → Prop} {K : Int32 → ST → Prop} : ∀ (n : Nat) (x1 : Int32) (x5 : Int32) (x6 : Int32) (s : ST), w_249_L177 n x1 x5 x6 s X227 K → (∀ (y5 : Int32) (s : ST), X227 y5 s → Ex sc (d + 0) 249 227 [pu, pu, pu, pu, pu, .int y5, pu, pu, pu] [] (hpS s) (kI K)) → Ex sc (d + 0) 249 177 [.ref 55, .int x1, pu, pu, pu, .int x5, .int x6, pu, pu] [] (hpS s) (kI K) := by
  have hq : prog[249]? = some pm249 := rfl
  intro n
  induction n with
  | zero =>
    intro x1 x5 x6 s k
    exact k.elim
  | succ n ih =>
    intro x1 x5 x6 s k hX227
    rw [w_249_L177] at k
    refine Ex.seg hq 2 (j := 179) (L' := [.ref 55, .int x1, pu, pu, pu, .int x5, .int x6, pu, pu]) (S' := [.int x1, .int x6]) (h' := hpS s) rfl ?_
    refine Ex.i2 hq rfl (fun c => ?_) (fun c => ?_)
    · have k := k.1 c
      refine Ex.fg (L := [pu, pu, pu, pu, pu, .int x5, pu, pu, pu]) ⟨Or.inr ⟨rfl, rfl⟩, ⟨Or.inr ⟨rfl, rfl⟩, ⟨Or.inl rfl, ⟨Or.inl rfl, ⟨Or.inl rfl, ⟨Or.inl rfl, ⟨Or.inr ⟨rfl, rfl⟩, ⟨Or.inl rfl, ⟨Or.inl rfl, trivial⟩⟩⟩⟩⟩⟩⟩⟩⟩ ?_
      exact hX227 x5 s k
    · have k := k.2 c
      refine Ex.seg hq 3 (j := 183) (L' := [.ref 55, .int x1, pu, pu, pu, .int x5, .int x6, pu, pu]) (S' := [.int x6, .ref 100]) (h' := hpS s) rfl ?_
      obtain ⟨hin, k⟩ := k
      refine Ex.ial hq rfl rfl hin ?_
      refine Ex.seg hq 4 (j := 188) (L' := [.ref 55, .int x1, pu, pu, pu, .int x5, .int x6, .int ((s.2.1 100) (x6).toNatClampNeg), pu]) (S' := [.int ((s.2.1 100) (x6).toNatClampNeg), .ref 97]) (h' := hpS s) rfl ?_
      obtain ⟨hin, k⟩ := k
      refine Ex.ial hq rfl rfl hin ?_
      refine Ex.seg hq 1 (j := 190) (L' := [.ref 55, .int x1, pu, pu, pu, .int x5, .int x6, .int ((s.2.1 100) (x6).toNatClampNeg), pu]) (S' := [.int x6, .int ((s.2.1 97) (((s.2.1 100) (x6).toNatClampNeg)).toNatClampNeg)]) (h' := hpS s) rfl ?_
      refine Ex.i2 hq rfl (fun c => ?_) (fun c => ?_)
      · have k := k.1 c
        refine Ex.seg hq 6 (j := 199) (L' := [.ref 55, .int x1, pu, pu, pu, .int x5, .int x6, .int ((s.2.1 100) (x6).toNatClampNeg), .int (0 : Int32)]) (S' := [.int (0 : Int32), .int ((s.2.1 100) (x6).toNatClampNeg), .ref 99]) (h' := hpS s) rfl ?_
        refine Ex.i1 hq rfl (fun c => ?_) (fun c => ?_)
        · have k := k.1 c
          refine Ex.seg hq 3 (j := 210) (L' := [.ref 55, .int x1, pu, pu, pu, .int x5, .int x6, .int ((s.2.1 100) (x6).toNatClampNeg), .int (0 : Int32)]) (S' := [.int ((s.2.1 100) (x6).toNatClampNeg), .ref 99, .int ((s.2.1 100) (x6).toNatClampNeg), .ref 99]) (h' := hpS s) rfl ?_
          obtain ⟨hin, k⟩ := k
          refine Ex.ial hq rfl rfl hin ?_
          refine Ex.seg hq 2 (j := 213) (L' := [.ref 55, .int x1, pu, pu, pu, .int x5, .int x6, .int ((s.2.1 100) (x6).toNatClampNeg), .int (0 : Int32)]) (S' := [.int (((s.2.1 99) (((s.2.1 100) (x6).toNatClampNeg)).toNatClampNeg) - x5), .int ((s.2.1 100) (x6).toNatClampNeg), .ref 99]) (h' := hpS s) rfl ?_
          obtain ⟨hin, k⟩ := k
          refine Ex.ias hq rfl rfl hin (h' := hpS (sA s 99 (upd (s.2.1 99) (((s.2.1 100) (x6).toNatClampNeg)).toNatClampNeg (((s.2.1 99) (((s.2.1 100) (x6).toNatClampNeg)).toNatClampNeg) - x5)))) (hset_99 _ _) ?_
          refine Ex.seg hq 1 (j := 215) (L' := [.ref 55, .int x1, pu, pu, pu, .int x5, .int x6, .int ((s.2.1 100) (x6).toNatClampNeg), .int (0 : Int32)]) (S' := [.int (0 : Int32)]) (h' := hpS (sA s 99 (upd (s.2.1 99) (((s.2.1 100) (x6).toNatClampNeg)).toNatClampNeg (((s.2.1 99) (((s.2.1 100) (x6).toNatClampNeg)).toNatClampNeg) - x5)))) rfl ?_
          refine Ex.i1 hq rfl (fun c => ?_) (fun c => ?_)
          · have k := k.1 c
            refine Ex.seg hq 3 (j := 224) (L' := [.ref 55, .int x1, pu, pu, pu, .int x5, .int x6, .int ((s.2.1 100) (x6).toNatClampNeg), .int (0 : Int32)]) (S' := [.int ((s.2.1 100) (x6).toNatClampNeg), .ref 97]) (h' := hpS (sA s 99 (upd (s.2.1 99) (((s.2.1 100) (x6).toNatClampNeg)).toNatClampNeg (((s.2.1 99) (((s.2.1 100) (x6).toNatClampNeg)).toNatClampNeg) - x5)))) rfl ?_
            obtain ⟨hin, k⟩ := k
            refine Ex.ial hq rfl rfl hin ?_
            refine Ex.seg hq 2 (j := 177) (L' := [.ref 55, .int x1, pu, pu, pu, .int x5, .int ((s.2.1 97) (((s.2.1 100) (x6).toNatClampNeg)).toNatClampNeg), .int ((s.2.1 100) (x6).toNatClampNeg), .int (0 : Int32)]) (S' := []) (h' := hpS (sA s 99 (upd (s.2.1 99) (((s.2.1 100) (x6).toNatClampNeg)).toNatClampNeg (((s.2.1 99) (((s.2.1 100) (x6).toNatClampNeg)).toNatClampNeg) - x5)))) rfl ?_
            refine Ex.fg (L := [.ref 55, .int x1, pu, pu, pu, .int x5, .int ((s.2.1 97) (((s.2.1 100) (x6).toNatClampNeg)).toNatClampNeg), pu, pu]) ⟨Or.inl rfl, ⟨Or.inl rfl, ⟨Or.inl rfl, ⟨Or.inl rfl, ⟨Or.inl rfl, ⟨Or.inl rfl, ⟨Or.inl rfl, ⟨Or.inr ⟨rfl, rfl⟩, ⟨Or.inr ⟨rfl, rfl⟩, trivial⟩⟩⟩⟩⟩⟩⟩⟩⟩ ?_
            exact ih x1 x5 ((s.2.1 97) (((s.2.1 100) (x6).toNatClampNeg)).toNatClampNeg) (sA s 99 (upd (s.2.1 99) (((s.2.1 100) (x6).toNatClampNeg)).toNatClampNeg (((s.2.1 99) (((s.2.1 100) (x6).toNatClampNeg)).toNatClampNeg) - x5))) k hX227
          · have k := k.2 c
            refine Ex.seg hq 3 (j := 219) (L' := [.ref 55, .int x1, pu, pu, pu, .int x5, .int x6, .int ((s.2.1 100) (x6).toNatClampNeg), .int (0 : Int32)]) (S' := [.int ((s.2.1 100) (x6).toNatClampNeg), .ref 96]) (h' := hpS (sA s 99 (upd (s.2.1 99) (((s.2.1 100) (x6).toNatClampNeg)).toNatClampNeg (((s.2.1 99) (((s.2.1 100) (x6).toNatClampNeg)).toNatClampNeg) - x5)))) rfl ?_
            obtain ⟨hin, k⟩ := k
            refine Ex.ial hq rfl rfl hin ?_
            refine Ex.seg hq 3 (j := 177) (L' := [.ref 55, .int x1, pu, pu, pu, .int x5, .int ((s.2.1 96) (((s.2.1 100) (x6).toNatClampNeg)).toNatClampNeg), .int ((s.2.1 100) (x6).toNatClampNeg), .int (0 : Int32)]) (S' := []) (h' := hpS (sA s 99 (upd (s.2.1 99) (((s.2.1 100) (x6).toNatClampNeg)).toNatClampNeg (((s.2.1 99) (((s.2.1 100) (x6).toNatClampNeg)).toNatClampNeg) - x5)))) rfl ?_
            refine Ex.fg (L := [.ref 55, .int x1, pu, pu, pu, .int x5, .int ((s.2.1 96) (((s.2.1 100) (x6).toNatClampNeg)).toNatClampNeg), pu, pu]) ⟨Or.inl rfl, ⟨Or.inl rfl, ⟨Or.inl rfl, ⟨Or.inl rfl, ⟨Or.inl rfl, ⟨Or.inl rfl, ⟨Or.inl rfl, ⟨Or.inr ⟨rfl, rfl⟩, ⟨Or.inr ⟨rfl, rfl⟩, trivial⟩⟩⟩⟩⟩⟩⟩⟩⟩ ?_
            exact ih x1 x5 ((s.2.1 96) (((s.2.1 100) (x6).toNatClampNeg)).toNatClampNeg) (sA s 99 (upd (s.2.1 99) (((s.2.1 100) (x6).toNatClampNeg)).toNatClampNeg (((s.2.1 99) (((s.2.1 100) (x6).toNatClampNeg)).toNatClampNeg) - x5))) k hX227
        · have k := k.2 c
          refine Ex.seg hq 3 (j := 203) (L' := [.ref 55, .int x1, pu, pu, pu, .int x5, .int x6, .int ((s.2.1 100) (x6).toNatClampNeg), .int (0 : Int32)]) (S' := [.int ((s.2.1 100) (x6).toNatClampNeg), .ref 99, .int ((s.2.1 100) (x6).toNatClampNeg), .ref 99]) (h' := hpS s) rfl ?_
          obtain ⟨hin, k⟩ := k
          refine Ex.ial hq rfl rfl hin ?_
          refine Ex.seg hq 3 (j := 213) (L' := [.ref 55, .int x1, pu, pu, pu, .int x5, .int x6, .int ((s.2.1 100) (x6).toNatClampNeg), .int (0 : Int32)]) (S' := [.int (((s.2.1 99) (((s.2.1 100) (x6).toNatClampNeg)).toNatClampNeg) + x5), .int ((s.2.1 100) (x6).toNatClampNeg), .ref 99]) (h' := hpS s) rfl ?_
          obtain ⟨hin, k⟩ := k
          refine Ex.ias hq rfl rfl hin (h' := hpS (sA s 99 (upd (s.2.1 99) (((s.2.1 100) (x6).toNatClampNeg)).toNatClampNeg (((s.2.1 99) (((s.2.1 100) (x6).toNatClampNeg)).toNatClampNeg) + x5)))) (hset_99 _ _) ?_
          refine Ex.seg hq 1 (j := 215) (L' := [.ref 55, .int x1, pu, pu, pu, .int x5, .int x6, .int ((s.2.1 100) (x6).toNatClampNeg), .int (0 : Int32)]) (S' := [.int (0 : Int32)]) (h' := hpS (sA s 99 (upd (s.2.1 99) (((s.2.1 100) (x6).toNatClampNeg)).toNatClampNeg (((s.2.1 99) (((s.2.1 100) (x6).toNatClampNeg)).toNatClampNeg) + x5)))) rfl ?_
          refine Ex.i1 hq rfl (fun c => ?_) (fun c => ?_)
          · have k := k.1 c
            refine Ex.seg hq 3 (j := 224) (L' := [.ref 55, .int x1, pu, pu, pu, .int x5, .int x6, .int ((s.2.1 100) (x6).toNatClampNeg), .int (0 : Int32)]) (S' := [.int ((s.2.1 100) (x6).toNatClampNeg), .ref 97]) (h' := hpS (sA s 99 (upd (s.2.1 99) (((s.2.1 100) (x6).toNatClampNeg)).toNatClampNeg (((s.2.1 99) (((s.2.1 100) (x6).toNatClampNeg)).toNatClampNeg) + x5)))) rfl ?_
            obtain ⟨hin, k⟩ := k
            refine Ex.ial hq rfl rfl hin ?_
            refine Ex.seg hq 2 (j := 177) (L' := [.ref 55, .int x1, pu, pu, pu, .int x5, .int ((s.2.1 97) (((s.2.1 100) (x6).toNatClampNeg)).toNatClampNeg), .int ((s.2.1 100) (x6).toNatClampNeg), .int (0 : Int32)]) (S' := []) (h' := hpS (sA s 99 (upd (s.2.1 99) (((s.2.1 100) (x6).toNatClampNeg)).toNatClampNeg (((s.2.1 99) (((s.2.1 100) (x6).toNatClampNeg)).toNatClampNeg) + x5)))) rfl ?_
            refine Ex.fg (L := [.ref 55, .int x1, pu, pu, pu, .int x5, .int ((s.2.1 97) (((s.2.1 100) (x6).toNatClampNeg)).toNatClampNeg), pu, pu]) ⟨Or.inl rfl, ⟨Or.inl rfl, ⟨Or.inl rfl, ⟨Or.inl rfl, ⟨Or.inl rfl, ⟨Or.inl rfl, ⟨Or.inl rfl, ⟨Or.inr ⟨rfl, rfl⟩, ⟨Or.inr ⟨rfl, rfl⟩, trivial⟩⟩⟩⟩⟩⟩⟩⟩⟩ ?_
            exact ih x1 x5 ((s.2.1 97) (((s.2.1 100) (x6).toNatClampNeg)).toNatClampNeg) (sA s 99 (upd (s.2.1 99) (((s.2.1 100) (x6).toNatClampNeg)).toNatClampNeg (((s.2.1 99) (((s.2.1 100) (x6).toNatClampNeg)).toNatClampNeg) + x5))) k hX227
          · have k := k.2 c
            refine Ex.seg hq 3 (j := 219) (L' := [.ref 55, .int x1, pu, pu, pu, .int x5, .int x6, .int ((s.2.1 100) (x6).toNatClampNeg), .int (0 : Int32)]) (S' := [.int ((s.2.1 100) (x6).toNatClampNeg), .ref 96]) (h' := hpS (sA s 99 (upd (s.2.1 99) (((s.2.1 100) (x6).toNatClampNeg)).toNatClampNeg (((s.2.1 99) (((s.2.1 100) (x6).toNatClampNeg)).toNatClampNeg) + x5)))) rfl ?_
            obtain ⟨hin, k⟩ := k
            refine Ex.ial hq rfl rfl hin ?_
            refine Ex.seg hq 3 (j := 177) (L' := [.ref 55, .int x1, pu, pu, pu, .int x5, .int ((s.2.1 96) (((s.2.1 100) (x6).toNatClampNeg)).toNatClampNeg), .int ((s.2.1 100) (x6).toNatClampNeg), .int (0 : Int32)]) (S' := []) (h' := hpS (sA s 99 (upd (s.2.1 99) (((s.2.1 100) (x6).toNatClampNeg)).toNatClampNeg (((s.2.1 99) (((s.2.1 100) (x6).toNatClampNeg)).toNatClampNeg) + x5)))) rfl ?_
            refine Ex.fg (L := [.ref 55, .int x1, pu, pu, pu, .int x5, .int ((s.2.1 96) (((s.2.1 100) (x6).toNatClampNeg)).toNatClampNeg), pu, pu]) ⟨Or.inl rfl, ⟨Or.inl rfl, ⟨Or.inl rfl, ⟨Or.inl rfl, ⟨Or.inl rfl, ⟨Or.inl rfl, ⟨Or.inl rfl, ⟨Or.inr ⟨rfl, rfl⟩, ⟨Or.inr ⟨rfl, rfl⟩, trivial⟩⟩⟩⟩⟩⟩⟩⟩⟩ ?_
            exact ih x1 x5 ((s.2.1 96) (((s.2.1 100) (x6).toNatClampNeg)).toNatClampNeg) (sA s 99 (upd (s.2.1 99) (((s.2.1 100) (x6).toNatClampNeg)).toNatClampNeg (((s.2.1 99) (((s.2.1 100) (x6).toNatClampNeg)).toNatClampNeg) + x5))) k hX227
      · have k := k.2 c
        refine Ex.seg hq 7 (j := 199) (L' := [.ref 55, .int x1, pu, pu, pu, .int x5, .int x6, .int ((s.2.1 100) (x6).toNatClampNeg), .int (1 : Int32)]) (S' := [.int (1 : Int32), .int ((s.2.1 100) (x6).toNatClampNeg), .ref 99]) (h' := hpS s) rfl ?_
        refine Ex.i1 hq rfl (fun c => ?_) (fun c => ?_)
        · have k := k.1 c
          refine Ex.seg hq 3 (j := 210) (L' := [.ref 55, .int x1, pu, pu, pu, .int x5, .int x6, .int ((s.2.1 100) (x6).toNatClampNeg), .int (1 : Int32)]) (S' := [.int ((s.2.1 100) (x6).toNatClampNeg), .ref 99, .int ((s.2.1 100) (x6).toNatClampNeg), .ref 99]) (h' := hpS s) rfl ?_
          obtain ⟨hin, k⟩ := k
          refine Ex.ial hq rfl rfl hin ?_
          refine Ex.seg hq 2 (j := 213) (L' := [.ref 55, .int x1, pu, pu, pu, .int x5, .int x6, .int ((s.2.1 100) (x6).toNatClampNeg), .int (1 : Int32)]) (S' := [.int (((s.2.1 99) (((s.2.1 100) (x6).toNatClampNeg)).toNatClampNeg) - x5), .int ((s.2.1 100) (x6).toNatClampNeg), .ref 99]) (h' := hpS s) rfl ?_
          obtain ⟨hin, k⟩ := k
          refine Ex.ias hq rfl rfl hin (h' := hpS (sA s 99 (upd (s.2.1 99) (((s.2.1 100) (x6).toNatClampNeg)).toNatClampNeg (((s.2.1 99) (((s.2.1 100) (x6).toNatClampNeg)).toNatClampNeg) - x5)))) (hset_99 _ _) ?_
          refine Ex.seg hq 1 (j := 215) (L' := [.ref 55, .int x1, pu, pu, pu, .int x5, .int x6, .int ((s.2.1 100) (x6).toNatClampNeg), .int (1 : Int32)]) (S' := [.int (1 : Int32)]) (h' := hpS (sA s 99 (upd (s.2.1 99) (((s.2.1 100) (x6).toNatClampNeg)).toNatClampNeg (((s.2.1 99) (((s.2.1 100) (x6).toNatClampNeg)).toNatClampNeg) - x5)))) rfl ?_
          refine Ex.i1 hq rfl (fun c => ?_) (fun c => ?_)
          · have k := k.1 c
            refine Ex.seg hq 3 (j := 224) (L' := [.ref 55, .int x1, pu, pu, pu, .int x5, .int x6, .int ((s.2.1 100) (x6).toNatClampNeg), .int (1 : Int32)]) (S' := [.int ((s.2.1 100) (x6).toNatClampNeg), .ref 97]) (h' := hpS (sA s 99 (upd (s.2.1 99) (((s.2.1 100) (x6).toNatClampNeg)).toNatClampNeg (((s.2.1 99) (((s.2.1 100) (x6).toNatClampNeg)).toNatClampNeg) - x5)))) rfl ?_
            obtain ⟨hin, k⟩ := k
            refine Ex.ial hq rfl rfl hin ?_
            refine Ex.seg hq 2 (j := 177) (L' := [.ref 55, .int x1, pu, pu, pu, .int x5, .int ((s.2.1 97) (((s.2.1 100) (x6).toNatClampNeg)).toNatClampNeg), .int ((s.2.1 100) (x6).toNatClampNeg), .int (1 : Int32)]) (S' := []) (h' := hpS (sA s 99 (upd (s.2.1 99) (((s.2.1 100) (x6).toNatClampNeg)).toNatClampNeg (((s.2.1 99) (((s.2.1 100) (x6).toNatClampNeg)).toNatClampNeg) - x5)))) rfl ?_
            refine Ex.fg (L := [.ref 55, .int x1, pu, pu, pu, .int x5, .int ((s.2.1 97) (((s.2.1 100) (x6).toNatClampNeg)).toNatClampNeg), pu, pu]) ⟨Or.inl rfl, ⟨Or.inl rfl, ⟨Or.inl rfl, ⟨Or.inl rfl, ⟨Or.inl rfl, ⟨Or.inl rfl, ⟨Or.inl rfl, ⟨Or.inr ⟨rfl, rfl⟩, ⟨Or.inr ⟨rfl, rfl⟩, trivial⟩⟩⟩⟩⟩⟩⟩⟩⟩ ?_
            exact ih x1 x5 ((s.2.1 97) (((s.2.1 100) (x6).toNatClampNeg)).toNatClampNeg) (sA s 99 (upd (s.2.1 99) (((s.2.1 100) (x6).toNatClampNeg)).toNatClampNeg (((s.2.1 99) (((s.2.1 100) (x6).toNatClampNeg)).toNatClampNeg) - x5))) k hX227
          · have k := k.2 c
            refine Ex.seg hq 3 (j := 219) (L' := [.ref 55, .int x1, pu, pu, pu, .int x5, .int x6, .int ((s.2.1 100) (x6).toNatClampNeg), .int (1 : Int32)]) (S' := [.int ((s.2.1 100) (x6).toNatClampNeg), .ref 96]) (h' := hpS (sA s 99 (upd (s.2.1 99) (((s.2.1 100) (x6).toNatClampNeg)).toNatClampNeg (((s.2.1 99) (((s.2.1 100) (x6).toNatClampNeg)).toNatClampNeg) - x5)))) rfl ?_
            obtain ⟨hin, k⟩ := k
            refine Ex.ial hq rfl rfl hin ?_
            refine Ex.seg hq 3 (j := 177) (L' := [.ref 55, .int x1, pu, pu, pu, .int x5, .int ((s.2.1 96) (((s.2.1 100) (x6).toNatClampNeg)).toNatClampNeg), .int ((s.2.1 100) (x6).toNatClampNeg), .int (1 : Int32)]) (S' := []) (h' := hpS (sA s 99 (upd (s.2.1 99) (((s.2.1 100) (x6).toNatClampNeg)).toNatClampNeg (((s.2.1 99) (((s.2.1 100) (x6).toNatClampNeg)).toNatClampNeg) - x5)))) rfl ?_
            refine Ex.fg (L := [.ref 55, .int x1, pu, pu, pu, .int x5, .int ((s.2.1 96) (((s.2.1 100) (x6).toNatClampNeg)).toNatClampNeg), pu, pu]) ⟨Or.inl rfl, ⟨Or.inl rfl, ⟨Or.inl rfl, ⟨Or.inl rfl, ⟨Or.inl rfl, ⟨Or.inl rfl, ⟨Or.inl rfl, ⟨Or.inr ⟨rfl, rfl⟩, ⟨Or.inr ⟨rfl, rfl⟩, trivial⟩⟩⟩⟩⟩⟩⟩⟩⟩ ?_
            exact ih x1 x5 ((s.2.1 96) (((s.2.1 100) (x6).toNatClampNeg)).toNatClampNeg) (sA s 99 (upd (s.2.1 99) (((s.2.1 100) (x6).toNatClampNeg)).toNatClampNeg (((s.2.1 99) (((s.2.1 100) (x6).toNatClampNeg)).toNatClampNeg) - x5))) k hX227
        · have k := k.2 c
          refine Ex.seg hq 3 (j := 203) (L' := [.ref 55, .int x1, pu, pu, pu, .int x5, .int x6, .int ((s.2.1 100) (x6).toNatClampNeg), .int (1 : Int32)]) (S' := [.int ((s.2.1 100) (x6).toNatClampNeg), .ref 99, .int ((s.2.1 100) (x6).toNatClampNeg), .ref 99]) (h' := hpS s) rfl ?_
          obtain ⟨hin, k⟩ := k
          refine Ex.ial hq rfl rfl hin ?_
          refine Ex.seg hq 3 (j := 213) (L' := [.ref 55, .int x1, pu, pu, pu, .int x5, .int x6, .int ((s.2.1 100) (x6).toNatClampNeg), .int (1 : Int32)]) (S' := [.int (((s.2.1 99) (((s.2.1 100) (x6).toNatClampNeg)).toNatClampNeg) + x5), .int ((s.2.1 100) (x6).toNatClampNeg), .ref 99]) (h' := hpS s) rfl ?_
          obtain ⟨hin, k⟩ := k
          refine Ex.ias hq rfl rfl hin (h' := hpS (sA s 99 (upd (s.2.1 99) (((s.2.1 100) (x6).toNatClampNeg)).toNatClampNeg (((s.2.1 99) (((s.2.1 100) (x6).toNatClampNeg)).toNatClampNeg) + x5)))) (hset_99 _ _) ?_
          refine Ex.seg hq 1 (j := 215) (L' := [.ref 55, .int x1, pu, pu, pu, .int x5, .int x6, .int ((s.2.1 100) (x6).toNatClampNeg), .int (1 : Int32)]) (S' := [.int (1 : Int32)]) (h' := hpS (sA s 99 (upd (s.2.1 99) (((s.2.1 100) (x6).toNatClampNeg)).toNatClampNeg (((s.2.1 99) (((s.2.1 100) (x6).toNatClampNeg)).toNatClampNeg) + x5)))) rfl ?_
          refine Ex.i1 hq rfl (fun c => ?_) (fun c => ?_)
          · have k := k.1 c
            refine Ex.seg hq 3 (j := 224) (L' := [.ref 55, .int x1, pu, pu, pu, .int x5, .int x6, .int ((s.2.1 100) (x6).toNatClampNeg), .int (1 : Int32)]) (S' := [.int ((s.2.1 100) (x6).toNatClampNeg), .ref 97]) (h' := hpS (sA s 99 (upd (s.2.1 99) (((s.2.1 100) (x6).toNatClampNeg)).toNatClampNeg (((s.2.1 99) (((s.2.1 100) (x6).toNatClampNeg)).toNatClampNeg) + x5)))) rfl ?_
            obtain ⟨hin, k⟩ := k
            refine Ex.ial hq rfl rfl hin ?_
            refine Ex.seg hq 2 (j := 177) (L' := [.ref 55, .int x1, pu, pu, pu, .int x5, .int ((s.2.1 97) (((s.2.1 100) (x6).toNatClampNeg)).toNatClampNeg), .int ((s.2.1 100) (x6).toNatClampNeg), .int (1 : Int32)]) (S' := []) (h' := hpS (sA s 99 (upd (s.2.1 99) (((s.2.1 100) (x6).toNatClampNeg)).toNatClampNeg (((s.2.1 99) (((s.2.1 100) (x6).toNatClampNeg)).toNatClampNeg) + x5)))) rfl ?_
            refine Ex.fg (L := [.ref 55, .int x1, pu, pu, pu, .int x5, .int ((s.2.1 97) (((s.2.1 100) (x6).toNatClampNeg)).toNatClampNeg), pu, pu]) ⟨Or.inl rfl, ⟨Or.inl rfl, ⟨Or.inl rfl, ⟨Or.inl rfl, ⟨Or.inl rfl, ⟨Or.inl rfl, ⟨Or.inl rfl, ⟨Or.inr ⟨rfl, rfl⟩, ⟨Or.inr ⟨rfl, rfl⟩, trivial⟩⟩⟩⟩⟩⟩⟩⟩⟩ ?_
            exact ih x1 x5 ((s.2.1 97) (((s.2.1 100) (x6).toNatClampNeg)).toNatClampNeg) (sA s 99 (upd (s.2.1 99) (((s.2.1 100) (x6).toNatClampNeg)).toNatClampNeg (((s.2.1 99) (((s.2.1 100) (x6).toNatClampNeg)).toNatClampNeg) + x5))) k hX227
          · have k := k.2 c
            refine Ex.seg hq 3 (j := 219) (L' := [.ref 55, .int x1, pu, pu, pu, .int x5, .int x6, .int ((s.2.1 100) (x6).toNatClampNeg), .int (1 : Int32)]) (S' := [.int ((s.2.1 100) (x6).toNatClampNeg), .ref 96]) (h' := hpS (sA s 99 (upd (s.2.1 99) (((s.2.1 100) (x6).toNatClampNeg)).toNatClampNeg (((s.2.1 99) (((s.2.1 100) (x6).toNatClampNeg)).toNatClampNeg) + x5)))) rfl ?_
            obtain ⟨hin, k⟩ := k
            refine Ex.ial hq rfl rfl hin ?_
            refine Ex.seg hq 3 (j := 177) (L' := [.ref 55, .int x1, pu, pu, pu, .int x5, .int ((s.2.1 96) (((s.2.1 100) (x6).toNatClampNeg)).toNatClampNeg), .int ((s.2.1 100) (x6).toNatClampNeg), .int (1 : Int32)]) (S' := []) (h' := hpS (sA s 99 (upd (s.2.1 99) (((s.2.1 100) (x6).toNatClampNeg)).toNatClampNeg (((s.2.1 99) (((s.2.1 100) (x6).toNatClampNeg)).toNatClampNeg) + x5)))) rfl ?_
            refine Ex.fg (L := [.ref 55, .int x1, pu, pu, pu, .int x5, .int ((s.2.1 96) (((s.2.1 100) (x6).toNatClampNeg)).toNatClampNeg), pu, pu]) ⟨Or.inl rfl, ⟨Or.inl rfl, ⟨Or.inl rfl, ⟨Or.inl rfl, ⟨Or.inl rfl, ⟨Or.inl rfl, ⟨Or.inl rfl, ⟨Or.inr ⟨rfl, rfl⟩, ⟨Or.inr ⟨rfl, rfl⟩, trivial⟩⟩⟩⟩⟩⟩⟩⟩⟩ ?_
            exact ih x1 x5 ((s.2.1 96) (((s.2.1 100) (x6).toNatClampNeg)).toNatClampNeg) (sA s 99 (upd (s.2.1 99) (((s.2.1 100) (x6).toNatClampNeg)).toNatClampNeg (((s.2.1 99) (((s.2.1 100) (x6).toNatClampNeg)).toNatClampNeg) + x5))) k hX227
/-- RowAuditorModel.leads(III)I -/
def w_249 (p1 : Int32) (p2 : Int32) (p3 : Int32) (s : ST) (K : Int32 → ST → Prop) : Prop := (∃ m, w_249_L2 m p1 p2 p3 (0 : Int32) s (fun y1 y2 y3 s1 => (pin y1 400 = true ∧ (∃ m, w_249_L21 m y1 y2 y3 (1 : Int32) (sA s1 100 (upd (s1.2.1 100) (y1).toNatClampNeg (s1.1 5558))) (fun y1 y2 y3 s3 => (pin y2 400 = true ∧ ((¬ ((s3.2.1 100) (y2).toNatClampNeg) = (-1 : Int32) → (∃ m, w_249_L122 m y1 y2 y3 y2 s3 (fun y1 y2 y5 s4 => (∃ m, w_249_L177 m y1 y5 y2 s4 (fun y5 s5 => K y5 s5) K)) K)) ∧ (¬ (¬ ((s3.2.1 100) (y2).toNatClampNeg) = (-1 : Int32)) → K (0 : Int32) s3)))) K))) K)
theorem q_249 {d : Nat} {K : Int32 → ST → Prop} (p1 : Int32) (p2 : Int32) (p3 : Int32) (s : ST) (k : w_249 p1 p2 p3 s K) : Rn sc (d + 0) 249 [.ref 55, .int p1, .int p2, .int p3] (hpS s) (kI K) := by
  have hq : prog[249]? = some pm249 := rfl
  refine Rn.of (L := [.ref 55, .int p1, .int p2, .int p3, pu, pu, pu, pu, pu]) hq rfl rfl ?_
  unfold w_249 at k
  refine Ex.seg hq 2 (j := 2) (L' := [.ref 55, .int p1, .int p2, .int p3, .int (0 : Int32), pu, pu, pu, pu]) (S' := []) (h' := hpS s) rfl ?_
  obtain ⟨m, k⟩ := k
  refine q_249_L2 (d := d) m p1 p2 p3 (0 : Int32) s k ?_
  · intro y1 y2 y3 s1 k
    refine Ex.seg hq 5 (j := 18) (L' := [.ref 55, .int y1, .int y2, .int y3, pu, pu, pu, pu, pu]) (S' := [.int (s1.1 5558), .int y1, .ref 100]) (h' := hpS s1) rfl ?_
    obtain ⟨hin, k⟩ := k
    refine Ex.ias hq rfl rfl hin (h' := hpS (sA s1 100 (upd (s1.2.1 100) (y1).toNatClampNeg (s1.1 5558)))) (hset_100 _ _) ?_
    refine Ex.seg hq 2 (j := 21) (L' := [.ref 55, .int y1, .int y2, .int y3, .int (1 : Int32), pu, pu, pu, pu]) (S' := []) (h' := hpS (sA s1 100 (upd (s1.2.1 100) (y1).toNatClampNeg (s1.1 5558)))) rfl ?_
    obtain ⟨m, k⟩ := k
    refine q_249_L21 (d := d) m y1 y2 y3 (1 : Int32) (sA s1 100 (upd (s1.2.1 100) (y1).toNatClampNeg (s1.1 5558))) k ?_
    · intro y1 y2 y3 s3 k
      refine Ex.seg hq 3 (j := 113) (L' := [.ref 55, .int y1, .int y2, .int y3, pu, pu, pu, pu, pu]) (S' := [.int y2, .ref 100]) (h' := hpS s3) rfl ?_
      obtain ⟨hin, k⟩ := k
      refine Ex.ial hq rfl rfl hin ?_
      refine Ex.seg hq 1 (j := 115) (L' := [.ref 55, .int y1, .int y2, .int y3, pu, pu, pu, pu, pu]) (S' := [.int (-1 : Int32), .int ((s3.2.1 100) (y2).toNatClampNeg)]) (h' := hpS s3) rfl ?_
      refine Ex.i2 hq rfl (fun c => ?_) (fun c => ?_)
      · have k := k.1 c
        refine Ex.seg hq 4 (j := 122) (L' := [.ref 55, .int y1, .int y2, .int y3, pu, .int y3, .int y2, pu, pu]) (S' := []) (h' := hpS s3) rfl ?_
        obtain ⟨m, k⟩ := k
        refine Ex.fg (L := [.ref 55, .int y1, .int y2, pu, pu, .int y3, .int y2, pu, pu]) ⟨Or.inl rfl, ⟨Or.inl rfl, ⟨Or.inl rfl, ⟨Or.inr ⟨rfl, rfl⟩, ⟨Or.inl rfl, ⟨Or.inl rfl, ⟨Or.inl rfl, ⟨Or.inl rfl, ⟨Or.inl rfl, trivial⟩⟩⟩⟩⟩⟩⟩⟩⟩ ?_
        refine q_249_L122 (d := d) m y1 y2 y3 y2 s3 k ?_
        · intro y1 y2 y5 s4 k
          refine Ex.seg hq 2 (j := 177) (L' := [.ref 55, .int y1, .int y2, pu, pu, .int y5, .int y2, pu, pu]) (S' := []) (h' := hpS s4) rfl ?_
          obtain ⟨m, k⟩ := k
          refine Ex.fg (L := [.ref 55, .int y1, pu, pu, pu, .int y5, .int y2, pu, pu]) ⟨Or.inl rfl, ⟨Or.inl rfl, ⟨Or.inr ⟨rfl, rfl⟩, ⟨Or.inl rfl, ⟨Or.inl rfl, ⟨Or.inl rfl, ⟨Or.inl rfl, ⟨Or.inl rfl, ⟨Or.inl rfl, trivial⟩⟩⟩⟩⟩⟩⟩⟩⟩ ?_
          refine q_249_L177 (d := d) m y1 y5 y2 s4 k ?_
          · intro y5 s5 k
            refine Ex.seg hq 1 (j := 228) (L' := [pu, pu, pu, pu, pu, .int y5, pu, pu, pu]) (S' := [.int y5]) (h' := hpS s5) rfl ?_
            exact Ex.rt hq rfl rfl ⟨y5, s5, rfl, rfl, k⟩
      · have k := k.2 c
        refine Ex.seg hq 1 (j := 117) (L' := [.ref 55, .int y1, .int y2, .int y3, pu, pu, pu, pu, pu]) (S' := [.int (0 : Int32)]) (h' := hpS s3) rfl ?_
        exact Ex.rt hq rfl rfl ⟨(0 : Int32), s3, rfl, rfl, k⟩
end WP
