/-! ===== weakest preconditions, printed by wip/whole/genwp.py ===== -/
section WP
variable {sc : Nat × (Nat → Int32)}
def w_249_L2 : Nat → Int32 → Int32 → Int32 → Int32 → ST → (Int32 → Int32 → Int32 → ST → Prop) → (Int32 → ST → Prop) → Prop
  | 0, _, _, _, _, _, _, _ => False
  | n + 1, x1, x2, x3, x4, s, X13, K => (((s.1 5557) ≤ x4 → X13 x1 x2 x3 s) ∧ (¬ ((s.1 5557) ≤ x4) → (pin x4 400 = true ∧ w_249_L2 n x1 x2 x3 (x4 + (1 : Int32)) (sA s 100 (upd (s.2.1 100) (x4).toNatClampNeg (-1 : Int32))) X13 K)))
theorem q_249_L2 {d : Nat} {X13 : Int32 → Int32 → Int32 → ST → Prop} {K : Int32 → ST → Prop} : ∀ (n : Nat) (x1 : Int32) (x2 : Int32) (x3 : Int32) (x4 : Int32) (s : ST), w_249_L2 n x1 x2 x3 x4 s X13 K → (∀ (y1 : Int32) (y2 : Int32) (y3 : Int32) (s : ST), X13 y1 y2 y3 s → Ex sc (d + 0) 249 13 [.ref 55, .int y1, .int y2, .int y3, pu, pu, pu, pu, pu] [] (hpS s) (kI K)) → Ex sc (d + 0) 249 2 [.ref 55, .int x1, .int x2, .int x3, .int x4, pu, pu, pu, pu] [] (hpS s) (kI K) := by
  have hq : prog[249]? = some pm249 := rfl
  intro n
  induction n with
  | zero =>
    intro x1 x2 x3 x4 s k
    exact k.elim
  | succ n ih =>
    intro x1 x2 x3 x4 s k hX13
    rw [w_249_L2] at k
    refine Ex.seg hq 3 (j := 5) (L' := [.ref 55, .int x1, .int x2, .int x3, .int x4, pu, pu, pu, pu]) (S' := [.int (s.1 5557), .int x4]) (h' := hpS s) rfl ?_
    refine Ex.i2 hq rfl (fun c => ?_) (fun c => ?_)
    · have k := k.1 c
      refine Ex.fg (L := [.ref 55, .int x1, .int x2, .int x3, pu, pu, pu, pu, pu]) ⟨Or.inl rfl, ⟨Or.inl rfl, ⟨Or.inl rfl, ⟨Or.inl rfl, ⟨Or.inr ⟨rfl, rfl⟩, ⟨Or.inl rfl, ⟨Or.inl rfl, ⟨Or.inl rfl, ⟨Or.inl rfl, trivial⟩⟩⟩⟩⟩⟩⟩⟩⟩ ?_
      exact hX13 x1 x2 x3 s k
    · have k := k.2 c
      refine Ex.seg hq 4 (j := 10) (L' := [.ref 55, .int x1, .int x2, .int x3, .int x4, pu, pu, pu, pu]) (S' := [.int (-1 : Int32), .int x4, .ref 100]) (h' := hpS s) rfl ?_
      obtain ⟨hin, k⟩ := k
      refine Ex.ias hq rfl rfl hin (h' := hpS (sA s 100 (upd (s.2.1 100) (x4).toNatClampNeg (-1 : Int32)))) (hset_100 _ _) ?_
      refine Ex.seg hq 2 (j := 2) (L' := [.ref 55, .int x1, .int x2, .int x3, .int (x4 + (1 : Int32)), pu, pu, pu, pu]) (S' := []) (h' := hpS (sA s 100 (upd (s.2.1 100) (x4).toNatClampNeg (-1 : Int32)))) rfl ?_
      exact ih x1 x2 x3 (x4 + (1 : Int32)) (sA s 100 (upd (s.2.1 100) (x4).toNatClampNeg (-1 : Int32))) k hX13
def w_249_L33 : Nat → Int32 → Int32 → Int32 → Int32 → Int32 → ST → (Int32 → Int32 → Int32 → Int32 → ST → Prop) → (Int32 → ST → Prop) → Prop
  | 0, _, _, _, _, _, _, _, _ => False
  | n + 1, x1, x2, x3, x4, x5, s, X109, K => (((s.1 5558) ≤ x5 → X109 x1 x2 x3 x4 s) ∧ (¬ ((s.1 5558) ≤ x5) → (pin x5 700 = true ∧ (pin ((s.2.1 96) (x5).toNatClampNeg) 400 = true ∧ ((((s.2.1 100) (((s.2.1 96) (x5).toNatClampNeg)).toNatClampNeg) = (-1 : Int32) → (pin x5 700 = true ∧ (pin ((s.2.1 97) (x5).toNatClampNeg) 400 = true ∧ ((((s.2.1 100) (((s.2.1 97) (x5).toNatClampNeg)).toNatClampNeg) = (-1 : Int32) → w_249_L33 n x1 x2 x3 x4 (x5 + (1 : Int32)) s X109 K) ∧ (¬ (((s.2.1 100) (((s.2.1 97) (x5).toNatClampNeg)).toNatClampNeg) = (-1 : Int32)) → (pin x5 700 = true ∧ (pin ((s.2.1 96) (x5).toNatClampNeg) 400 = true ∧ ((¬ ((s.2.1 100) (((s.2.1 96) (x5).toNatClampNeg)).toNatClampNeg) = (-1 : Int32) → w_249_L33 n x1 x2 x3 x4 (x5 + (1 : Int32)) s X109 K) ∧ (¬ (¬ ((s.2.1 100) (((s.2.1 96) (x5).toNatClampNeg)).toNatClampNeg) = (-1 : Int32)) → (pin x5 700 = true ∧ ((((s.2.1 99) (x5).toNatClampNeg) ≤ 0 → w_249_L33 n x1 x2 x3 x4 (x5 + (1 : Int32)) s X109 K) ∧ (¬ (((s.2.1 99) (x5).toNatClampNeg) ≤ 0) → (pin x5 700 = true ∧ (pin ((s.2.1 96) (x5).toNatClampNeg) 400 = true ∧ w_249_L33 n x1 x2 x3 (1 : Int32) (x5 + (1 : Int32)) (sA s 100 (upd (s.2.1 100) (((s.2.1 96) (x5).toNatClampNeg)).toNatClampNeg x5)) X109 K)))))))))))))) ∧ (¬ (((s.2.1 100) (((s.2.1 96) (x5).toNatClampNeg)).toNatClampNeg) = (-1 : Int32)) → (pin x5 700 = true ∧ (pin ((s.2.1 97) (x5).toNatClampNeg) 400 = true ∧ ((¬ ((s.2.1 100) (((s.2.1 97) (x5).toNatClampNeg)).toNatClampNeg) = (-1 : Int32) → (pin x5 700 = true ∧ (pin ((s.2.1 97) (x5).toNatClampNeg) 400 = true ∧ ((((s.2.1 100) (((s.2.1 97) (x5).toNatClampNeg)).toNatClampNeg) = (-1 : Int32) → w_249_L33 n x1 x2 x3 x4 (x5 + (1 : Int32)) s X109 K) ∧ (¬ (((s.2.1 100) (((s.2.1 97) (x5).toNatClampNeg)).toNatClampNeg) = (-1 : Int32)) → (pin x5 700 = true ∧ (pin ((s.2.1 96) (x5).toNatClampNeg) 400 = true ∧ ((¬ ((s.2.1 100) (((s.2.1 96) (x5).toNatClampNeg)).toNatClampNeg) = (-1 : Int32) → w_249_L33 n x1 x2 x3 x4 (x5 + (1 : Int32)) s X109 K) ∧ (¬ (¬ ((s.2.1 100) (((s.2.1 96) (x5).toNatClampNeg)).toNatClampNeg) = (-1 : Int32)) → (pin x5 700 = true ∧ ((((s.2.1 99) (x5).toNatClampNeg) ≤ 0 → w_249_L33 n x1 x2 x3 x4 (x5 + (1 : Int32)) s X109 K) ∧ (¬ (((s.2.1 99) (x5).toNatClampNeg) ≤ 0) → (pin x5 700 = true ∧ (pin ((s.2.1 96) (x5).toNatClampNeg) 400 = true ∧ w_249_L33 n x1 x2 x3 (1 : Int32) (x5 + (1 : Int32)) (sA s 100 (upd (s.2.1 100) (((s.2.1 96) (x5).toNatClampNeg)).toNatClampNeg x5)) X109 K)))))))))))))) ∧ (¬ (¬ ((s.2.1 100) (((s.2.1 97) (x5).toNatClampNeg)).toNatClampNeg) = (-1 : Int32)) → (pin x5 700 = true ∧ (pin x5 700 = true ∧ ((((s.2.1 98) (x5).toNatClampNeg) ≤ ((s.2.1 99) (x5).toNatClampNeg) → (pin x5 700 = true ∧ (pin ((s.2.1 97) (x5).toNatClampNeg) 400 = true ∧ ((((s.2.1 100) (((s.2.1 97) (x5).toNatClampNeg)).toNatClampNeg) = (-1 : Int32) → w_249_L33 n x1 x2 x3 x4 (x5 + (1 : Int32)) s X109 K) ∧ (¬ (((s.2.1 100) (((s.2.1 97) (x5).toNatClampNeg)).toNatClampNeg) = (-1 : Int32)) → (pin x5 700 = true ∧ (pin ((s.2.1 96) (x5).toNatClampNeg) 400 = true ∧ ((¬ ((s.2.1 100) (((s.2.1 96) (x5).toNatClampNeg)).toNatClampNeg) = (-1 : Int32) → w_249_L33 n x1 x2 x3 x4 (x5 + (1 : Int32)) s X109 K) ∧ (¬ (¬ ((s.2.1 100) (((s.2.1 96) (x5).toNatClampNeg)).toNatClampNeg) = (-1 : Int32)) → (pin x5 700 = true ∧ ((((s.2.1 99) (x5).toNatClampNeg) ≤ 0 → w_249_L33 n x1 x2 x3 x4 (x5 + (1 : Int32)) s X109 K) ∧ (¬ (((s.2.1 99) (x5).toNatClampNeg) ≤ 0) → (pin x5 700 = true ∧ (pin ((s.2.1 96) (x5).toNatClampNeg) 400 = true ∧ w_249_L33 n x1 x2 x3 (1 : Int32) (x5 + (1 : Int32)) (sA s 100 (upd (s.2.1 100) (((s.2.1 96) (x5).toNatClampNeg)).toNatClampNeg x5)) X109 K)))))))))))))) ∧ (¬ (((s.2.1 98) (x5).toNatClampNeg) ≤ ((s.2.1 99) (x5).toNatClampNeg)) → (pin x5 700 = true ∧ (pin ((s.2.1 97) (x5).toNatClampNeg) 400 = true ∧ (pin x5 700 = true ∧ (pin ((s.2.1 97) (x5).toNatClampNeg) 400 = true ∧ ((((upd (s.2.1 100) (((s.2.1 97) (x5).toNatClampNeg)).toNatClampNeg x5) (((s.2.1 97) (x5).toNatClampNeg)).toNatClampNeg) = (-1 : Int32) → w_249_L33 n x1 x2 x3 (1 : Int32) (x5 + (1 : Int32)) (sA s 100 (upd (s.2.1 100) (((s.2.1 97) (x5).toNatClampNeg)).toNatClampNeg x5)) X109 K) ∧ (¬ (((upd (s.2.1 100) (((s.2.1 97) (x5).toNatClampNeg)).toNatClampNeg x5) (((s.2.1 97) (x5).toNatClampNeg)).toNatClampNeg) = (-1 : Int32)) → (pin x5 700 = true ∧ (pin ((s.2.1 96) (x5).toNatClampNeg) 400 = true ∧ ((¬ ((upd (s.2.1 100) (((s.2.1 97) (x5).toNatClampNeg)).toNatClampNeg x5) (((s.2.1 96) (x5).toNatClampNeg)).toNatClampNeg) = (-1 : Int32) → w_249_L33 n x1 x2 x3 (1 : Int32) (x5 + (1 : Int32)) (sA s 100 (upd (s.2.1 100) (((s.2.1 97) (x5).toNatClampNeg)).toNatClampNeg x5)) X109 K) ∧ (¬ (¬ ((upd (s.2.1 100) (((s.2.1 97) (x5).toNatClampNeg)).toNatClampNeg x5) (((s.2.1 96) (x5).toNatClampNeg)).toNatClampNeg) = (-1 : Int32)) → (pin x5 700 = true ∧ ((((s.2.1 99) (x5).toNatClampNeg) ≤ 0 → w_249_L33 n x1 x2 x3 (1 : Int32) (x5 + (1 : Int32)) (sA s 100 (upd (s.2.1 100) (((s.2.1 97) (x5).toNatClampNeg)).toNatClampNeg x5)) X109 K) ∧ (¬ (((s.2.1 99) (x5).toNatClampNeg) ≤ 0) → (pin x5 700 = true ∧ (pin ((s.2.1 96) (x5).toNatClampNeg) 400 = true ∧ w_249_L33 n x1 x2 x3 (1 : Int32) (x5 + (1 : Int32)) (sA s 100 (upd (upd (s.2.1 100) (((s.2.1 97) (x5).toNatClampNeg)).toNatClampNeg x5) (((s.2.1 96) (x5).toNatClampNeg)).toNatClampNeg x5)) X109 K)))))))))))))))))))))))))))))
theorem q_249_L33 {d : Nat} {X109 : Int32 → Int32 → Int32 → Int32 → ST → Prop} {K : Int32 → ST → Prop} : ∀ (n : Nat) (x1 : Int32) (x2 : Int32) (x3 : Int32) (x4 : Int32) (x5 : Int32) (s : ST), w_249_L33 n x1 x2 x3 x4 x5 s X109 K → (∀ (y1 : Int32) (y2 : Int32) (y3 : Int32) (y4 : Int32) (s : ST), X109 y1 y2 y3 y4 s → Ex sc (d + 0) 249 109 [.ref 55, .int y1, .int y2, .int y3, .int y4, pu, pu, pu, pu] [] (hpS s) (kI K)) → Ex sc (d + 0) 249 33 [.ref 55, .int x1, .int x2, .int x3, .int x4, .int x5, pu, pu, pu] [] (hpS s) (kI K) := by
  have hq : prog[249]? = some pm249 := rfl
  intro n
  induction n with
  | zero =>
    intro x1 x2 x3 x4 x5 s k
    exact k.elim
  | succ n ih =>
    intro x1 x2 x3 x4 x5 s k hX109
    rw [w_249_L33] at k
    refine Ex.seg hq 3 (j := 36) (L' := [.ref 55, .int x1, .int x2, .int x3, .int x4, .int x5, pu, pu, pu]) (S' := [.int (s.1 5558), .int x5]) (h' := hpS s) rfl ?_
    refine Ex.i2 hq rfl (fun c => ?_) (fun c => ?_)
    · have k := k.1 c
      refine Ex.fg (L := [.ref 55, .int x1, .int x2, .int x3, .int x4, pu, pu, pu, pu]) ⟨Or.inl rfl, ⟨Or.inl rfl, ⟨Or.inl rfl, ⟨Or.inl rfl, ⟨Or.inl rfl, ⟨Or.inr ⟨rfl, rfl⟩, ⟨Or.inl rfl, ⟨Or.inl rfl, ⟨Or.inl rfl, trivial⟩⟩⟩⟩⟩⟩⟩⟩⟩ ?_
      exact hX109 x1 x2 x3 x4 s k
    · have k := k.2 c
      refine Ex.seg hq 5 (j := 42) (L' := [.ref 55, .int x1, .int x2, .int x3, .int x4, .int x5, pu, pu, pu]) (S' := [.int x5, .ref 96, .ref 100]) (h' := hpS s) rfl ?_
      obtain ⟨hin, k⟩ := k
      refine Ex.ial hq rfl rfl hin ?_
      obtain ⟨hin, k⟩ := k
      refine Ex.ial hq rfl rfl hin ?_
      refine Ex.seg hq 1 (j := 45) (L' := [.ref 55, .int x1, .int x2, .int x3, .int x4, .int x5, pu, pu, pu]) (S' := [.int (-1 : Int32), .int ((s.2.1 100) (((s.2.1 96) (x5).toNatClampNeg)).toNatClampNeg)]) (h' := hpS s) rfl ?_
      refine Ex.i2 hq rfl (fun c => ?_) (fun c => ?_)
      · have k := k.1 c
        refine Ex.seg hq 5 (j := 79) (L' := [.ref 55, .int x1, .int x2, .int x3, .int x4, .int x5, pu, pu, pu]) (S' := [.int x5, .ref 97, .ref 100]) (h' := hpS s) rfl ?_
        obtain ⟨hin, k⟩ := k
        refine Ex.ial hq rfl rfl hin ?_
        obtain ⟨hin, k⟩ := k
        refine Ex.ial hq rfl rfl hin ?_
        refine Ex.seg hq 1 (j := 82) (L' := [.ref 55, .int x1, .int x2, .int x3, .int x4, .int x5, pu, pu, pu]) (S' := [.int (-1 : Int32), .int ((s.2.1 100) (((s.2.1 97) (x5).toNatClampNeg)).toNatClampNeg)]) (h' := hpS s) rfl ?_
        refine Ex.i2 hq rfl (fun c => ?_) (fun c => ?_)
        · have k := k.1 c
          refine Ex.seg hq 2 (j := 33) (L' := [.ref 55, .int x1, .int x2, .int x3, .int x4, .int (x5 + (1 : Int32)), pu, pu, pu]) (S' := []) (h' := hpS s) rfl ?_
          exact ih x1 x2 x3 x4 (x5 + (1 : Int32)) s k hX109
        · have k := k.2 c
          refine Ex.seg hq 5 (j := 88) (L' := [.ref 55, .int x1, .int x2, .int x3, .int x4, .int x5, pu, pu, pu]) (S' := [.int x5, .ref 96, .ref 100]) (h' := hpS s) rfl ?_
          obtain ⟨hin, k⟩ := k
          refine Ex.ial hq rfl rfl hin ?_
          obtain ⟨hin, k⟩ := k
          refine Ex.ial hq rfl rfl hin ?_
          refine Ex.seg hq 1 (j := 91) (L' := [.ref 55, .int x1, .int x2, .int x3, .int x4, .int x5, pu, pu, pu]) (S' := [.int (-1 : Int32), .int ((s.2.1 100) (((s.2.1 96) (x5).toNatClampNeg)).toNatClampNeg)]) (h' := hpS s) rfl ?_
          refine Ex.i2 hq rfl (fun c => ?_) (fun c => ?_)
          · have k := k.1 c
            refine Ex.seg hq 2 (j := 33) (L' := [.ref 55, .int x1, .int x2, .int x3, .int x4, .int (x5 + (1 : Int32)), pu, pu, pu]) (S' := []) (h' := hpS s) rfl ?_
            exact ih x1 x2 x3 x4 (x5 + (1 : Int32)) s k hX109
          · have k := k.2 c
            refine Ex.seg hq 3 (j := 95) (L' := [.ref 55, .int x1, .int x2, .int x3, .int x4, .int x5, pu, pu, pu]) (S' := [.int x5, .ref 99]) (h' := hpS s) rfl ?_
            obtain ⟨hin, k⟩ := k
            refine Ex.ial hq rfl rfl hin ?_
            refine Ex.i1 hq rfl (fun c => ?_) (fun c => ?_)
            · have k := k.1 c
              refine Ex.seg hq 2 (j := 33) (L' := [.ref 55, .int x1, .int x2, .int x3, .int x4, .int (x5 + (1 : Int32)), pu, pu, pu]) (S' := []) (h' := hpS s) rfl ?_
              exact ih x1 x2 x3 x4 (x5 + (1 : Int32)) s k hX109
            · have k := k.2 c
              refine Ex.seg hq 5 (j := 102) (L' := [.ref 55, .int x1, .int x2, .int x3, .int x4, .int x5, pu, pu, pu]) (S' := [.int x5, .ref 96, .ref 100]) (h' := hpS s) rfl ?_
              obtain ⟨hin, k⟩ := k
              refine Ex.ial hq rfl rfl hin ?_
              refine Ex.seg hq 1 (j := 104) (L' := [.ref 55, .int x1, .int x2, .int x3, .int x4, .int x5, pu, pu, pu]) (S' := [.int x5, .int ((s.2.1 96) (x5).toNatClampNeg), .ref 100]) (h' := hpS s) rfl ?_
              obtain ⟨hin, k⟩ := k
              refine Ex.ias hq rfl rfl hin (h' := hpS (sA s 100 (upd (s.2.1 100) (((s.2.1 96) (x5).toNatClampNeg)).toNatClampNeg x5))) (hset_100 _ _) ?_
              refine Ex.seg hq 4 (j := 33) (L' := [.ref 55, .int x1, .int x2, .int x3, .int (1 : Int32), .int (x5 + (1 : Int32)), pu, pu, pu]) (S' := []) (h' := hpS (sA s 100 (upd (s.2.1 100) (((s.2.1 96) (x5).toNatClampNeg)).toNatClampNeg x5))) rfl ?_
              exact ih x1 x2 x3 (1 : Int32) (x5 + (1 : Int32)) (sA s 100 (upd (s.2.1 100) (((s.2.1 96) (x5).toNatClampNeg)).toNatClampNeg x5)) k hX109
      · have k := k.2 c
        refine Ex.seg hq 5 (j := 51) (L' := [.ref 55, .int x1, .int x2, .int x3, .int x4, .int x5, pu, pu, pu]) (S' := [.int x5, .ref 97, .ref 100]) (h' := hpS s) rfl ?_
        obtain ⟨hin, k⟩ := k
        refine Ex.ial hq rfl rfl hin ?_
        obtain ⟨hin, k⟩ := k
        refine Ex.ial hq rfl rfl hin ?_
        refine Ex.seg hq 1 (j := 54) (L' := [.ref 55, .int x1, .int x2, .int x3, .int x4, .int x5, pu, pu, pu]) (S' := [.int (-1 : Int32), .int ((s.2.1 100) (((s.2.1 97) (x5).toNatClampNeg)).toNatClampNeg)]) (h' := hpS s) rfl ?_
        refine Ex.i2 hq rfl (fun c => ?_) (fun c => ?_)
        · have k := k.1 c
          refine Ex.seg hq 5 (j := 79) (L' := [.ref 55, .int x1, .int x2, .int x3, .int x4, .int x5, pu, pu, pu]) (S' := [.int x5, .ref 97, .ref 100]) (h' := hpS s) rfl ?_
          obtain ⟨hin, k⟩ := k
          refine Ex.ial hq rfl rfl hin ?_
          obtain ⟨hin, k⟩ := k
          refine Ex.ial hq rfl rfl hin ?_
          refine Ex.seg hq 1 (j := 82) (L' := [.ref 55, .int x1, .int x2, .int x3, .int x4, .int x5, pu, pu, pu]) (S' := [.int (-1 : Int32), .int ((s.2.1 100) (((s.2.1 97) (x5).toNatClampNeg)).toNatClampNeg)]) (h' := hpS s) rfl ?_
          refine Ex.i2 hq rfl (fun c => ?_) (fun c => ?_)
          · have k := k.1 c
            refine Ex.seg hq 2 (j := 33) (L' := [.ref 55, .int x1, .int x2, .int x3, .int x4, .int (x5 + (1 : Int32)), pu, pu, pu]) (S' := []) (h' := hpS s) rfl ?_
            exact ih x1 x2 x3 x4 (x5 + (1 : Int32)) s k hX109
          · have k := k.2 c
            refine Ex.seg hq 5 (j := 88) (L' := [.ref 55, .int x1, .int x2, .int x3, .int x4, .int x5, pu, pu, pu]) (S' := [.int x5, .ref 96, .ref 100]) (h' := hpS s) rfl ?_
            obtain ⟨hin, k⟩ := k
            refine Ex.ial hq rfl rfl hin ?_
            obtain ⟨hin, k⟩ := k
            refine Ex.ial hq rfl rfl hin ?_
            refine Ex.seg hq 1 (j := 91) (L' := [.ref 55, .int x1, .int x2, .int x3, .int x4, .int x5, pu, pu, pu]) (S' := [.int (-1 : Int32), .int ((s.2.1 100) (((s.2.1 96) (x5).toNatClampNeg)).toNatClampNeg)]) (h' := hpS s) rfl ?_
            refine Ex.i2 hq rfl (fun c => ?_) (fun c => ?_)
            · have k := k.1 c
              refine Ex.seg hq 2 (j := 33) (L' := [.ref 55, .int x1, .int x2, .int x3, .int x4, .int (x5 + (1 : Int32)), pu, pu, pu]) (S' := []) (h' := hpS s) rfl ?_
              exact ih x1 x2 x3 x4 (x5 + (1 : Int32)) s k hX109
            · have k := k.2 c
              refine Ex.seg hq 3 (j := 95) (L' := [.ref 55, .int x1, .int x2, .int x3, .int x4, .int x5, pu, pu, pu]) (S' := [.int x5, .ref 99]) (h' := hpS s) rfl ?_
              obtain ⟨hin, k⟩ := k
              refine Ex.ial hq rfl rfl hin ?_
              refine Ex.i1 hq rfl (fun c => ?_) (fun c => ?_)
              · have k := k.1 c
                refine Ex.seg hq 2 (j := 33) (L' := [.ref 55, .int x1, .int x2, .int x3, .int x4, .int (x5 + (1 : Int32)), pu, pu, pu]) (S' := []) (h' := hpS s) rfl ?_
                exact ih x1 x2 x3 x4 (x5 + (1 : Int32)) s k hX109
              · have k := k.2 c
                refine Ex.seg hq 5 (j := 102) (L' := [.ref 55, .int x1, .int x2, .int x3, .int x4, .int x5, pu, pu, pu]) (S' := [.int x5, .ref 96, .ref 100]) (h' := hpS s) rfl ?_
                obtain ⟨hin, k⟩ := k
                refine Ex.ial hq rfl rfl hin ?_
                refine Ex.seg hq 1 (j := 104) (L' := [.ref 55, .int x1, .int x2, .int x3, .int x4, .int x5, pu, pu, pu]) (S' := [.int x5, .int ((s.2.1 96) (x5).toNatClampNeg), .ref 100]) (h' := hpS s) rfl ?_
                obtain ⟨hin, k⟩ := k
                refine Ex.ias hq rfl rfl hin (h' := hpS (sA s 100 (upd (s.2.1 100) (((s.2.1 96) (x5).toNatClampNeg)).toNatClampNeg x5))) (hset_100 _ _) ?_
                refine Ex.seg hq 4 (j := 33) (L' := [.ref 55, .int x1, .int x2, .int x3, .int (1 : Int32), .int (x5 + (1 : Int32)), pu, pu, pu]) (S' := []) (h' := hpS (sA s 100 (upd (s.2.1 100) (((s.2.1 96) (x5).toNatClampNeg)).toNatClampNeg x5))) rfl ?_
                exact ih x1 x2 x3 (1 : Int32) (x5 + (1 : Int32)) (sA s 100 (upd (s.2.1 100) (((s.2.1 96) (x5).toNatClampNeg)).toNatClampNeg x5)) k hX109
        · have k := k.2 c
          refine Ex.seg hq 3 (j := 58) (L' := [.ref 55, .int x1, .int x2, .int x3, .int x4, .int x5, pu, pu, pu]) (S' := [.int x5, .ref 99]) (h' := hpS s) rfl ?_
          obtain ⟨hin, k⟩ := k
          refine Ex.ial hq rfl rfl hin ?_
          refine Ex.seg hq 3 (j := 62) (L' := [.ref 55, .int x1, .int x2, .int x3, .int x4, .int x5, pu, pu, pu]) (S' := [.int x5, .ref 98, .int ((s.2.1 99) (x5).toNatClampNeg)]) (h' := hpS s) rfl ?_
          obtain ⟨hin, k⟩ := k
          refine Ex.ial hq rfl rfl hin ?_
          refine Ex.i2 hq rfl (fun c => ?_) (fun c => ?_)
          · have k := k.1 c
            refine Ex.seg hq 5 (j := 79) (L' := [.ref 55, .int x1, .int x2, .int x3, .int x4, .int x5, pu, pu, pu]) (S' := [.int x5, .ref 97, .ref 100]) (h' := hpS s) rfl ?_
            obtain ⟨hin, k⟩ := k
            refine Ex.ial hq rfl rfl hin ?_
            obtain ⟨hin, k⟩ := k
            refine Ex.ial hq rfl rfl hin ?_
            refine Ex.seg hq 1 (j := 82) (L' := [.ref 55, .int x1, .int x2, .int x3, .int x4, .int x5, pu, pu, pu]) (S' := [.int (-1 : Int32), .int ((s.2.1 100) (((s.2.1 97) (x5).toNatClampNeg)).toNatClampNeg)]) (h' := hpS s) rfl ?_
            refine Ex.i2 hq rfl (fun c => ?_) (fun c => ?_)
            · have k := k.1 c
              refine Ex.seg hq 2 (j := 33) (L' := [.ref 55, .int x1, .int x2, .int x3, .int x4, .int (x5 + (1 : Int32)), pu, pu, pu]) (S' := []) (h' := hpS s) rfl ?_
              exact ih x1 x2 x3 x4 (x5 + (1 : Int32)) s k hX109
            · have k := k.2 c
              refine Ex.seg hq 5 (j := 88) (L' := [.ref 55, .int x1, .int x2, .int x3, .int x4, .int x5, pu, pu, pu]) (S' := [.int x5, .ref 96, .ref 100]) (h' := hpS s) rfl ?_
              obtain ⟨hin, k⟩ := k
              refine Ex.ial hq rfl rfl hin ?_
              obtain ⟨hin, k⟩ := k
              refine Ex.ial hq rfl rfl hin ?_
              refine Ex.seg hq 1 (j := 91) (L' := [.ref 55, .int x1, .int x2, .int x3, .int x4, .int x5, pu, pu, pu]) (S' := [.int (-1 : Int32), .int ((s.2.1 100) (((s.2.1 96) (x5).toNatClampNeg)).toNatClampNeg)]) (h' := hpS s) rfl ?_
              refine Ex.i2 hq rfl (fun c => ?_) (fun c => ?_)
              · have k := k.1 c
                refine Ex.seg hq 2 (j := 33) (L' := [.ref 55, .int x1, .int x2, .int x3, .int x4, .int (x5 + (1 : Int32)), pu, pu, pu]) (S' := []) (h' := hpS s) rfl ?_
                exact ih x1 x2 x3 x4 (x5 + (1 : Int32)) s k hX109
              · have k := k.2 c
                refine Ex.seg hq 3 (j := 95) (L' := [.ref 55, .int x1, .int x2, .int x3, .int x4, .int x5, pu, pu, pu]) (S' := [.int x5, .ref 99]) (h' := hpS s) rfl ?_
                obtain ⟨hin, k⟩ := k
                refine Ex.ial hq rfl rfl hin ?_
                refine Ex.i1 hq rfl (fun c => ?_) (fun c => ?_)
                · have k := k.1 c
                  refine Ex.seg hq 2 (j := 33) (L' := [.ref 55, .int x1, .int x2, .int x3, .int x4, .int (x5 + (1 : Int32)), pu, pu, pu]) (S' := []) (h' := hpS s) rfl ?_
                  exact ih x1 x2 x3 x4 (x5 + (1 : Int32)) s k hX109
                · have k := k.2 c
                  refine Ex.seg hq 5 (j := 102) (L' := [.ref 55, .int x1, .int x2, .int x3, .int x4, .int x5, pu, pu, pu]) (S' := [.int x5, .ref 96, .ref 100]) (h' := hpS s) rfl ?_
                  obtain ⟨hin, k⟩ := k
                  refine Ex.ial hq rfl rfl hin ?_
                  refine Ex.seg hq 1 (j := 104) (L' := [.ref 55, .int x1, .int x2, .int x3, .int x4, .int x5, pu, pu, pu]) (S' := [.int x5, .int ((s.2.1 96) (x5).toNatClampNeg), .ref 100]) (h' := hpS s) rfl ?_
                  obtain ⟨hin, k⟩ := k
                  refine Ex.ias hq rfl rfl hin (h' := hpS (sA s 100 (upd (s.2.1 100) (((s.2.1 96) (x5).toNatClampNeg)).toNatClampNeg x5))) (hset_100 _ _) ?_
                  refine Ex.seg hq 4 (j := 33) (L' := [.ref 55, .int x1, .int x2, .int x3, .int (1 : Int32), .int (x5 + (1 : Int32)), pu, pu, pu]) (S' := []) (h' := hpS (sA s 100 (upd (s.2.1 100) (((s.2.1 96) (x5).toNatClampNeg)).toNatClampNeg x5))) rfl ?_
                  exact ih x1 x2 x3 (1 : Int32) (x5 + (1 : Int32)) (sA s 100 (upd (s.2.1 100) (((s.2.1 96) (x5).toNatClampNeg)).toNatClampNeg x5)) k hX109
          · have k := k.2 c
            refine Ex.seg hq 5 (j := 69) (L' := [.ref 55, .int x1, .int x2, .int x3, .int x4, .int x5, pu, pu, pu]) (S' := [.int x5, .ref 97, .ref 100]) (h' := hpS s) rfl ?_
            obtain ⟨hin, k⟩ := k
            refine Ex.ial hq rfl rfl hin ?_
            refine Ex.seg hq 1 (j := 71) (L' := [.ref 55, .int x1, .int x2, .int x3, .int x4, .int x5, pu, pu, pu]) (S' := [.int x5, .int ((s.2.1 97) (x5).toNatClampNeg), .ref 100]) (h' := hpS s) rfl ?_
            obtain ⟨hin, k⟩ := k
            refine Ex.ias hq rfl rfl hin (h' := hpS (sA s 100 (upd (s.2.1 100) (((s.2.1 97) (x5).toNatClampNeg)).toNatClampNeg x5))) (hset_100 _ _) ?_
            refine Ex.seg hq 7 (j := 79) (L' := [.ref 55, .int x1, .int x2, .int x3, .int (1 : Int32), .int x5, pu, pu, pu]) (S' := [.int x5, .ref 97, .ref 100]) (h' := hpS (sA s 100 (upd (s.2.1 100) (((s.2.1 97) (x5).toNatClampNeg)).toNatClampNeg x5))) rfl ?_
            obtain ⟨hin, k⟩ := k
            refine Ex.ial hq rfl rfl hin ?_
            obtain ⟨hin, k⟩ := k
            refine Ex.ial hq rfl rfl hin ?_
            refine Ex.seg hq 1 (j := 82) (L' := [.ref 55, .int x1, .int x2, .int x3, .int (1 : Int32), .int x5, pu, pu, pu]) (S' := [.int (-1 : Int32), .int ((upd (s.2.1 100) (((s.2.1 97) (x5).toNatClampNeg)).toNatClampNeg x5) (((s.2.1 97) (x5).toNatClampNeg)).toNatClampNeg)]) (h' := hpS (sA s 100 (upd (s.2.1 100) (((s.2.1 97) (x5).toNatClampNeg)).toNatClampNeg x5))) rfl ?_
            refine Ex.i2 hq rfl (fun c => ?_) (fun c => ?_)
            · have k := k.1 c
              refine Ex.seg hq 2 (j := 33) (L' := [.ref 55, .int x1, .int x2, .int x3, .int (1 : Int32), .int (x5 + (1 : Int32)), pu, pu, pu]) (S' := []) (h' := hpS (sA s 100 (upd (s.2.1 100) (((s.2.1 97) (x5).toNatClampNeg)).toNatClampNeg x5))) rfl ?_
              exact ih x1 x2 x3 (1 : Int32) (x5 + (1 : Int32)) (sA s 100 (upd (s.2.1 100) (((s.2.1 97) (x5).toNatClampNeg)).toNatClampNeg x5)) k hX109
            · have k := k.2 c
              refine Ex.seg hq 5 (j := 88) (L' := [.ref 55, .int x1, .int x2, .int x3, .int (1 : Int32), .int x5, pu, pu, pu]) (S' := [.int x5, .ref 96, .ref 100]) (h' := hpS (sA s 100 (upd (s.2.1 100) (((s.2.1 97) (x5).toNatClampNeg)).toNatClampNeg x5))) rfl ?_
              obtain ⟨hin, k⟩ := k
              refine Ex.ial hq rfl rfl hin ?_
              obtain ⟨hin, k⟩ := k
              refine Ex.ial hq rfl rfl hin ?_
              refine Ex.seg hq 1 (j := 91) (L' := [.ref 55, .int x1, .int x2, .int x3, .int (1 : Int32), .int x5, pu, pu, pu]) (S' := [.int (-1 : Int32), .int ((upd (s.2.1 100) (((s.2.1 97) (x5).toNatClampNeg)).toNatClampNeg x5) (((s.2.1 96) (x5).toNatClampNeg)).toNatClampNeg)]) (h' := hpS (sA s 100 (upd (s.2.1 100) (((s.2.1 97) (x5).toNatClampNeg)).toNatClampNeg x5))) rfl ?_
              refine Ex.i2 hq rfl (fun c => ?_) (fun c => ?_)
              · have k := k.1 c
                refine Ex.seg hq 2 (j := 33) (L' := [.ref 55, .int x1, .int x2, .int x3, .int (1 : Int32), .int (x5 + (1 : Int32)), pu, pu, pu]) (S' := []) (h' := hpS (sA s 100 (upd (s.2.1 100) (((s.2.1 97) (x5).toNatClampNeg)).toNatClampNeg x5))) rfl ?_
                exact ih x1 x2 x3 (1 : Int32) (x5 + (1 : Int32)) (sA s 100 (upd (s.2.1 100) (((s.2.1 97) (x5).toNatClampNeg)).toNatClampNeg x5)) k hX109
              · have k := k.2 c
                refine Ex.seg hq 3 (j := 95) (L' := [.ref 55, .int x1, .int x2, .int x3, .int (1 : Int32), .int x5, pu, pu, pu]) (S' := [.int x5, .ref 99]) (h' := hpS (sA s 100 (upd (s.2.1 100) (((s.2.1 97) (x5).toNatClampNeg)).toNatClampNeg x5))) rfl ?_
                obtain ⟨hin, k⟩ := k
                refine Ex.ial hq rfl rfl hin ?_
                refine Ex.i1 hq rfl (fun c => ?_) (fun c => ?_)
                · have k := k.1 c
                  refine Ex.seg hq 2 (j := 33) (L' := [.ref 55, .int x1, .int x2, .int x3, .int (1 : Int32), .int (x5 + (1 : Int32)), pu, pu, pu]) (S' := []) (h' := hpS (sA s 100 (upd (s.2.1 100) (((s.2.1 97) (x5).toNatClampNeg)).toNatClampNeg x5))) rfl ?_
                  exact ih x1 x2 x3 (1 : Int32) (x5 + (1 : Int32)) (sA s 100 (upd (s.2.1 100) (((s.2.1 97) (x5).toNatClampNeg)).toNatClampNeg x5)) k hX109
                · have k := k.2 c
                  refine Ex.seg hq 5 (j := 102) (L' := [.ref 55, .int x1, .int x2, .int x3, .int (1 : Int32), .int x5, pu, pu, pu]) (S' := [.int x5, .ref 96, .ref 100]) (h' := hpS (sA s 100 (upd (s.2.1 100) (((s.2.1 97) (x5).toNatClampNeg)).toNatClampNeg x5))) rfl ?_
                  obtain ⟨hin, k⟩ := k
                  refine Ex.ial hq rfl rfl hin ?_
                  refine Ex.seg hq 1 (j := 104) (L' := [.ref 55, .int x1, .int x2, .int x3, .int (1 : Int32), .int x5, pu, pu, pu]) (S' := [.int x5, .int ((s.2.1 96) (x5).toNatClampNeg), .ref 100]) (h' := hpS (sA s 100 (upd (s.2.1 100) (((s.2.1 97) (x5).toNatClampNeg)).toNatClampNeg x5))) rfl ?_
                  obtain ⟨hin, k⟩ := k
                  refine Ex.ias hq rfl rfl hin (h' := hpS (sA s 100 (upd (upd (s.2.1 100) (((s.2.1 97) (x5).toNatClampNeg)).toNatClampNeg x5) (((s.2.1 96) (x5).toNatClampNeg)).toNatClampNeg x5))) (hset_100 _ _) ?_
                  refine Ex.seg hq 4 (j := 33) (L' := [.ref 55, .int x1, .int x2, .int x3, .int (1 : Int32), .int (x5 + (1 : Int32)), pu, pu, pu]) (S' := []) (h' := hpS (sA s 100 (upd (upd (s.2.1 100) (((s.2.1 97) (x5).toNatClampNeg)).toNatClampNeg x5) (((s.2.1 96) (x5).toNatClampNeg)).toNatClampNeg x5))) rfl ?_
                  exact ih x1 x2 x3 (1 : Int32) (x5 + (1 : Int32)) (sA s 100 (upd (upd (s.2.1 100) (((s.2.1 97) (x5).toNatClampNeg)).toNatClampNeg x5) (((s.2.1 96) (x5).toNatClampNeg)).toNatClampNeg x5)) k hX109
def w_249_L21 : Nat → Int32 → Int32 → Int32 → Int32 → ST → (Int32 → Int32 → Int32 → ST → Prop) → (Int32 → ST → Prop) → Prop
  | 0, _, _, _, _, _, _, _ => False
  | n + 1, x1, x2, x3, x4, s, X110, K => ((x4 = 0 → X110 x1 x2 x3 s) ∧ (¬ (x4 = 0) → (pin x2 400 = true ∧ ((¬ ((s.2.1 100) (x2).toNatClampNeg) = (-1 : Int32) → X110 x1 x2 x3 s) ∧ (¬ (¬ ((s.2.1 100) (x2).toNatClampNeg) = (-1 : Int32)) → (∃ m, w_249_L33 m x1 x2 x3 (0 : Int32) (0 : Int32) s (fun y1 y2 y3 y4 s2 => w_249_L21 n y1 y2 y3 y4 s2 X110 K) K))))))
theorem q_249_L21 {d : Nat} {X110 : Int32 → Int32 → Int32 → ST → Prop} {K : Int32 → ST → Prop} : ∀ (n : Nat) (x1 : Int32) (x2 : Int32) (x3 : Int32) (x4 : Int32) (s : ST), w_249_L21 n x1 x2 x3 x4 s X110 K → (∀ (y1 : Int32) (y2 : Int32) (y3 : Int32) (s : ST), X110 y1 y2 y3 s → Ex sc (d + 0) 249 110 [.ref 55, .int y1, .int y2, .int y3, pu, pu, pu, pu, pu] [] (hpS s) (kI K)) → Ex sc (d + 0) 249 21 [.ref 55, .int x1, .int x2, .int x3, .int x4, pu, pu, pu, pu] [] (hpS s) (kI K) := by
  have hq : prog[249]? = some pm249 := rfl
  intro n
  induction n with
  | zero =>
    intro x1 x2 x3 x4 s k
    exact k.elim
  | succ n ih =>
    intro x1 x2 x3 x4 s k hX110
    rw [w_249_L21] at k
    refine Ex.seg hq 1 (j := 22) (L' := [.ref 55, .int x1, .int x2, .int x3, .int x4, pu, pu, pu, pu]) (S' := [.int x4]) (h' := hpS s) rfl ?_
    refine Ex.i1 hq rfl (fun c => ?_) (fun c => ?_)
    · have k := k.1 c
      refine Ex.fg (L := [.ref 55, .int x1, .int x2, .int x3, pu, pu, pu, pu, pu]) ⟨Or.inl rfl, ⟨Or.inl rfl, ⟨Or.inl rfl, ⟨Or.inl rfl, ⟨Or.inr ⟨rfl, rfl⟩, ⟨Or.inl rfl, ⟨Or.inl rfl, ⟨Or.inl rfl, ⟨Or.inl rfl, trivial⟩⟩⟩⟩⟩⟩⟩⟩⟩ ?_
      exact hX110 x1 x2 x3 s k
    · have k := k.2 c
      refine Ex.seg hq 3 (j := 26) (L' := [.ref 55, .int x1, .int x2, .int x3, .int x4, pu, pu, pu, pu]) (S' := [.int x2, .ref 100]) (h' := hpS s) rfl ?_
      obtain ⟨hin, k⟩ := k
      refine Ex.ial hq rfl rfl hin ?_
      refine Ex.seg hq 1 (j := 28) (L' := [.ref 55, .int x1, .int x2, .int x3, .int x4, pu, pu, pu, pu]) (S' := [.int (-1 : Int32), .int ((s.2.1 100) (x2).toNatClampNeg)]) (h' := hpS s) rfl ?_
      refine Ex.i2 hq rfl (fun c => ?_) (fun c => ?_)
      · have k := k.1 c
        refine Ex.fg (L := [.ref 55, .int x1, .int x2, .int x3, pu, pu, pu, pu, pu]) ⟨Or.inl rfl, ⟨Or.inl rfl, ⟨Or.inl rfl, ⟨Or.inl rfl, ⟨Or.inr ⟨rfl, rfl⟩, ⟨Or.inl rfl, ⟨Or.inl rfl, ⟨Or.inl rfl, ⟨Or.inl rfl, trivial⟩⟩⟩⟩⟩⟩⟩⟩⟩ ?_
        exact hX110 x1 x2 x3 s k
      · have k := k.2 c
        refine Ex.seg hq 4 (j := 33) (L' := [.ref 55, .int x1, .int x2, .int x3, .int (0 : Int32), .int (0 : Int32), pu, pu, pu]) (S' := []) (h' := hpS s) rfl ?_
        obtain ⟨m, k⟩ := k
        refine q_249_L33 (d := d) m x1 x2 x3 (0 : Int32) (0 : Int32) s k ?_
        · intro y1 y2 y3 y4 s2 k
          refine Ex.seg hq 1 (j := 21) (L' := [.ref 55, .int y1, .int y2, .int y3, .int y4, pu, pu, pu, pu]) (S' := []) (h' := hpS s2) rfl ?_
          exact ih y1 y2 y3 y4 s2 k hX110
def w_249_L122 : Nat → Int32 → Int32 → Int32 → Int32 → ST → (Int32 → Int32 → Int32 → ST → Prop) → (Int32 → ST → Prop) → Prop
  | 0, _, _, _, _, _, _, _ => False
  | n + 1, x1, x2, x5, x6, s, X175, K => ((x6 = x1 → X175 x1 x2 x5 s) ∧ (¬ (x6 = x1) → (pin x6 400 = true ∧ (pin ((s.2.1 100) (x6).toNatClampNeg) 700 = true ∧ ((¬ ((s.2.1 97) (((s.2.1 100) (x6).toNatClampNeg)).toNatClampNeg) = x6 → (pin ((s.2.1 100) (x6).toNatClampNeg) 700 = true ∧ ((x5 ≤ ((s.2.1 99) (((s.2.1 100) (x6).toNatClampNeg)).toNatClampNeg) → (pin ((s.2.1 100) (x6).toNatClampNeg) 700 = true ∧ ((¬ ((s.2.1 97) (((s.2.1 100) (x6).toNatClampNeg)).toNatClampNeg) = x6 → (pin ((s.2.1 100) (x6).toNatClampNeg) 700 = true ∧ w_249_L122 n x1 x2 x5 ((s.2.1 97) (((s.2.1 100) (x6).toNatClampNeg)).toNatClampNeg) s X175 K)) ∧ (¬ (¬ ((s.2.1 97) (((s.2.1 100) (x6).toNatClampNeg)).toNatClampNeg) = x6) → (pin ((s.2.1 100) (x6).toNatClampNeg) 700 = true ∧ w_249_L122 n x1 x2 x5 ((s.2.1 96) (((s.2.1 100) (x6).toNatClampNeg)).toNatClampNeg) s X175 K))))) ∧ (¬ (x5 ≤ ((s.2.1 99) (((s.2.1 100) (x6).toNatClampNeg)).toNatClampNeg)) → (pin ((s.2.1 100) (x6).toNatClampNeg) 700 = true ∧ ((¬ ((s.2.1 97) (((s.2.1 100) (x6).toNatClampNeg)).toNatClampNeg) = x6 → (pin ((s.2.1 100) (x6).toNatClampNeg) 700 = true ∧ w_249_L122 n x1 x2 ((s.2.1 99) (((s.2.1 100) (x6).toNatClampNeg)).toNatClampNeg) ((s.2.1 97) (((s.2.1 100) (x6).toNatClampNeg)).toNatClampNeg) s X175 K)) ∧ (¬ (¬ ((s.2.1 97) (((s.2.1 100) (x6).toNatClampNeg)).toNatClampNeg) = x6) → (pin ((s.2.1 100) (x6).toNatClampNeg) 700 = true ∧ w_249_L122 n x1 x2 ((s.2.1 99) (((s.2.1 100) (x6).toNatClampNeg)).toNatClampNeg) ((s.2.1 96) (((s.2.1 100) (x6).toNatClampNeg)).toNatClampNeg) s X175 K)))))))) ∧ (¬ (¬ ((s.2.1 97) (((s.2.1 100) (x6).toNatClampNeg)).toNatClampNeg) = x6) → (pin ((s.2.1 100) (x6).toNatClampNeg) 700 = true ∧ (pin ((s.2.1 100) (x6).toNatClampNeg) 700 = true ∧ ((x5 ≤ (((s.2.1 98) (((s.2.1 100) (x6).toNatClampNeg)).toNatClampNeg) - ((s.2.1 99) (((s.2.1 100) (x6).toNatClampNeg)).toNatClampNeg)) → (pin ((s.2.1 100) (x6).toNatClampNeg) 700 = true ∧ ((¬ ((s.2.1 97) (((s.2.1 100) (x6).toNatClampNeg)).toNatClampNeg) = x6 → (pin ((s.2.1 100) (x6).toNatClampNeg) 700 = true ∧ w_249_L122 n x1 x2 x5 ((s.2.1 97) (((s.2.1 100) (x6).toNatClampNeg)).toNatClampNeg) s X175 K)) ∧ (¬ (¬ ((s.2.1 97) (((s.2.1 100) (x6).toNatClampNeg)).toNatClampNeg) = x6) → (pin ((s.2.1 100) (x6).toNatClampNeg) 700 = true ∧ w_249_L122 n x1 x2 x5 ((s.2.1 96) (((s.2.1 100) (x6).toNatClampNeg)).toNatClampNeg) s X175 K))))) ∧ (¬ (x5 ≤ (((s.2.1 98) (((s.2.1 100) (x6).toNatClampNeg)).toNatClampNeg) - ((s.2.1 99) (((s.2.1 100) (x6).toNatClampNeg)).toNatClampNeg))) → (pin ((s.2.1 100) (x6).toNatClampNeg) 700 = true ∧ ((¬ ((s.2.1 97) (((s.2.1 100) (x6).toNatClampNeg)).toNatClampNeg) = x6 → (pin ((s.2.1 100) (x6).toNatClampNeg) 700 = true ∧ w_249_L122 n x1 x2 (((s.2.1 98) (((s.2.1 100) (x6).toNatClampNeg)).toNatClampNeg) - ((s.2.1 99) (((s.2.1 100) (x6).toNatClampNeg)).toNatClampNeg)) ((s.2.1 97) (((s.2.1 100) (x6).toNatClampNeg)).toNatClampNeg) s X175 K)) ∧ (¬ (¬ ((s.2.1 97) (((s.2.1 100) (x6).toNatClampNeg)).toNatClampNeg) = x6) → (pin ((s.2.1 100) (x6).toNatClampNeg) 700 = true ∧ w_249_L122 n x1 x2 (((s.2.1 98) (((s.2.1 100) (x6).toNatClampNeg)).toNatClampNeg) - ((s.2.1 99) (((s.2.1 100) (x6).toNatClampNeg)).toNatClampNeg)) ((s.2.1 96) (((s.2.1 100) (x6).toNatClampNeg)).toNatClampNeg) s X175 K))))))))))))))
theorem q_249_L122 {d : Nat} {X175 : Int32 → Int32 → Int32 → ST → Prop} {K : Int32 → ST → Prop} : ∀ (n : Nat) (x1 : Int32) (x2 : Int32) (x5 : Int32) (x6 : Int32) (s : ST), w_249_L122 n x1 x2 x5 x6 s X175 K → (∀ (y1 : Int32) (y2 : Int32) (y5 : Int32) (s : ST), X175 y1 y2 y5 s → Ex sc (d + 0) 249 175 [.ref 55, .int y1, .int y2, pu, pu, .int y5, pu, pu, pu] [] (hpS s) (kI K)) → Ex sc (d + 0) 249 122 [.ref 55, .int x1, .int x2, pu, pu, .int x5, .int x6, pu, pu] [] (hpS s) (kI K) := by
  have hq : prog[249]? = some pm249 := rfl
  intro n
  induction n with
  | zero =>
    intro x1 x2 x5 x6 s k
    exact k.elim
  | succ n ih =>
    intro x1 x2 x5 x6 s k hX175
    rw [w_249_L122] at k
    refine Ex.seg hq 2 (j := 124) (L' := [.ref 55, .int x1, .int x2, pu, pu, .int x5, .int x6, pu, pu]) (S' := [.int x1, .int x6]) (h' := hpS s) rfl ?_
    refine Ex.i2 hq rfl (fun c => ?_) (fun c => ?_)
    · have k := k.1 c
      refine Ex.fg (L := [.ref 55, .int x1, .int x2, pu, pu, .int x5, pu, pu, pu]) ⟨Or.inl rfl, ⟨Or.inl rfl, ⟨Or.inl rfl, ⟨Or.inl rfl, ⟨Or.inl rfl, ⟨Or.inl rfl, ⟨Or.inr ⟨rfl, rfl⟩, ⟨Or.inl rfl, ⟨Or.inl rfl, trivial⟩⟩⟩⟩⟩⟩⟩⟩⟩ ?_
      exact hX175 x1 x2 x5 s k
    · have k := k.2 c
      refine Ex.seg hq 3 (j := 128) (L' := [.ref 55, .int x1, .int x2, pu, pu, .int x5, .int x6, pu, pu]) (S' := [.int x6, .ref 100]) (h' := hpS s) rfl ?_
      obtain ⟨hin, k⟩ := k
      refine Ex.ial hq rfl rfl hin ?_
      refine Ex.seg hq 4 (j := 133) (L' := [.ref 55, .int x1, .int x2, pu, pu, .int x5, .int x6, .int ((s.2.1 100) (x6).toNatClampNeg), pu]) (S' := [.int ((s.2.1 100) (x6).toNatClampNeg), .ref 97]) (h' := hpS s) rfl ?_
      obtain ⟨hin, k⟩ := k
      refine Ex.ial hq rfl rfl hin ?_
      refine Ex.seg hq 1 (j := 135) (L' := [.ref 55, .int x1, .int x2, pu, pu, .int x5, .int x6, .int ((s.2.1 100) (x6).toNatClampNeg), pu]) (S' := [.int x6, .int ((s.2.1 97) (((s.2.1 100) (x6).toNatClampNeg)).toNatClampNeg)]) (h' := hpS s) rfl ?_
      refine Ex.i2 hq rfl (fun c => ?_) (fun c => ?_)
      · have k := k.1 c
        refine Ex.seg hq 3 (j := 149) (L' := [.ref 55, .int x1, .int x2, pu, pu, .int x5, .int x6, .int ((s.2.1 100) (x6).toNatClampNeg), pu]) (S' := [.int ((s.2.1 100) (x6).toNatClampNeg), .ref 99]) (h' := hpS s) rfl ?_
        obtain ⟨hin, k⟩ := k
        refine Ex.ial hq rfl rfl hin ?_
        refine Ex.seg hq 3 (j := 153) (L' := [.ref 55, .int x1, .int x2, pu, pu, .int x5, .int x6, .int ((s.2.1 100) (x6).toNatClampNeg), .int ((s.2.1 99) (((s.2.1 100) (x6).toNatClampNeg)).toNatClampNeg)]) (S' := [.int x5, .int ((s.2.1 99) (((s.2.1 100) (x6).toNatClampNeg)).toNatClampNeg)]) (h' := hpS s) rfl ?_
        refine Ex.i2 hq rfl (fun c => ?_) (fun c => ?_)
        · have k := k.1 c
          refine Ex.seg hq 5 (j := 161) (L' := [.ref 55, .int x1, .int x2, pu, pu, .int x5, .int x6, .int ((s.2.1 100) (x6).toNatClampNeg), .int ((s.2.1 99) (((s.2.1 100) (x6).toNatClampNeg)).toNatClampNeg)]) (S' := [.int ((s.2.1 100) (x6).toNatClampNeg), .ref 97]) (h' := hpS s) rfl ?_
          obtain ⟨hin, k⟩ := k
          refine Ex.ial hq rfl rfl hin ?_
          refine Ex.seg hq 1 (j := 163) (L' := [.ref 55, .int x1, .int x2, pu, pu, .int x5, .int x6, .int ((s.2.1 100) (x6).toNatClampNeg), .int ((s.2.1 99) (((s.2.1 100) (x6).toNatClampNeg)).toNatClampNeg)]) (S' := [.int x6, .int ((s.2.1 97) (((s.2.1 100) (x6).toNatClampNeg)).toNatClampNeg)]) (h' := hpS s) rfl ?_
          refine Ex.i2 hq rfl (fun c => ?_) (fun c => ?_)
          · have k := k.1 c
            refine Ex.seg hq 3 (j := 172) (L' := [.ref 55, .int x1, .int x2, pu, pu, .int x5, .int x6, .int ((s.2.1 100) (x6).toNatClampNeg), .int ((s.2.1 99) (((s.2.1 100) (x6).toNatClampNeg)).toNatClampNeg)]) (S' := [.int ((s.2.1 100) (x6).toNatClampNeg), .ref 97]) (h' := hpS s) rfl ?_
            obtain ⟨hin, k⟩ := k
            refine Ex.ial hq rfl rfl hin ?_
            refine Ex.seg hq 2 (j := 122) (L' := [.ref 55, .int x1, .int x2, pu, pu, .int x5, .int ((s.2.1 97) (((s.2.1 100) (x6).toNatClampNeg)).toNatClampNeg), .int ((s.2.1 100) (x6).toNatClampNeg), .int ((s.2.1 99) (((s.2.1 100) (x6).toNatClampNeg)).toNatClampNeg)]) (S' := []) (h' := hpS s) rfl ?_
            refine Ex.fg (L := [.ref 55, .int x1, .int x2, pu, pu, .int x5, .int ((s.2.1 97) (((s.2.1 100) (x6).toNatClampNeg)).toNatClampNeg), pu, pu]) ⟨Or.inl rfl, ⟨Or.inl rfl, ⟨Or.inl rfl, ⟨Or.inl rfl, ⟨Or.inl rfl, ⟨Or.inl rfl, ⟨Or.inl rfl, ⟨Or.inr ⟨rfl, rfl⟩, ⟨Or.inr ⟨rfl, rfl⟩, trivial⟩⟩⟩⟩⟩⟩⟩⟩⟩ ?_
            exact ih x1 x2 x5 ((s.2.1 97) (((s.2.1 100) (x6).toNatClampNeg)).toNatClampNeg) s k hX175
          · have k := k.2 c
            refine Ex.seg hq 3 (j := 167) (L' := [.ref 55, .int x1, .int x2, pu, pu, .int x5, .int x6, .int ((s.2.1 100) (x6).toNatClampNeg), .int ((s.2.1 99) (((s.2.1 100) (x6).toNatClampNeg)).toNatClampNeg)]) (S' := [.int ((s.2.1 100) (x6).toNatClampNeg), .ref 96]) (h' := hpS s) rfl ?_
            obtain ⟨hin, k⟩ := k
            refine Ex.ial hq rfl rfl hin ?_
            refine Ex.seg hq 3 (j := 122) (L' := [.ref 55, .int x1, .int x2, pu, pu, .int x5, .int ((s.2.1 96) (((s.2.1 100) (x6).toNatClampNeg)).toNatClampNeg), .int ((s.2.1 100) (x6).toNatClampNeg), .int ((s.2.1 99) (((s.2.1 100) (x6).toNatClampNeg)).toNatClampNeg)]) (S' := []) (h' := hpS s) rfl ?_
            refine Ex.fg (L := [.ref 55, .int x1, .int x2, pu, pu, .int x5, .int ((s.2.1 96) (((s.2.1 100) (x6).toNatClampNeg)).toNatClampNeg), pu, pu]) ⟨Or.inl rfl, ⟨Or.inl rfl, ⟨Or.inl rfl, ⟨Or.inl rfl, ⟨Or.inl rfl, ⟨Or.inl rfl, ⟨Or.inl rfl, ⟨Or.inr ⟨rfl, rfl⟩, ⟨Or.inr ⟨rfl, rfl⟩, trivial⟩⟩⟩⟩⟩⟩⟩⟩⟩ ?_
            exact ih x1 x2 x5 ((s.2.1 96) (((s.2.1 100) (x6).toNatClampNeg)).toNatClampNeg) s k hX175
        · have k := k.2 c
          refine Ex.seg hq 6 (j := 161) (L' := [.ref 55, .int x1, .int x2, pu, pu, .int ((s.2.1 99) (((s.2.1 100) (x6).toNatClampNeg)).toNatClampNeg), .int x6, .int ((s.2.1 100) (x6).toNatClampNeg), .int ((s.2.1 99) (((s.2.1 100) (x6).toNatClampNeg)).toNatClampNeg)]) (S' := [.int ((s.2.1 100) (x6).toNatClampNeg), .ref 97]) (h' := hpS s) rfl ?_
          obtain ⟨hin, k⟩ := k
          refine Ex.ial hq rfl rfl hin ?_
          refine Ex.seg hq 1 (j := 163) (L' := [.ref 55, .int x1, .int x2, pu, pu, .int ((s.2.1 99) (((s.2.1 100) (x6).toNatClampNeg)).toNatClampNeg), .int x6, .int ((s.2.1 100) (x6).toNatClampNeg), .int ((s.2.1 99) (((s.2.1 100) (x6).toNatClampNeg)).toNatClampNeg)]) (S' := [.int x6, .int ((s.2.1 97) (((s.2.1 100) (x6).toNatClampNeg)).toNatClampNeg)]) (h' := hpS s) rfl ?_
          refine Ex.i2 hq rfl (fun c => ?_) (fun c => ?_)
          · have k := k.1 c
            refine Ex.seg hq 3 (j := 172) (L' := [.ref 55, .int x1, .int x2, pu, pu, .int ((s.2.1 99) (((s.2.1 100) (x6).toNatClampNeg)).toNatClampNeg), .int x6, .int ((s.2.1 100) (x6).toNatClampNeg), .int ((s.2.1 99) (((s.2.1 100) (x6).toNatClampNeg)).toNatClampNeg)]) (S' := [.int ((s.2.1 100) (x6).toNatClampNeg), .ref 97]) (h' := hpS s) rfl ?_
            obtain ⟨hin, k⟩ := k
            refine Ex.ial hq rfl rfl hin ?_
            refine Ex.seg hq 2 (j := 122) (L' := [.ref 55, .int x1, .int x2, pu, pu, .int ((s.2.1 99) (((s.2.1 100) (x6).toNatClampNeg)).toNatClampNeg), .int ((s.2.1 97) (((s.2.1 100) (x6).toNatClampNeg)).toNatClampNeg), .int ((s.2.1 100) (x6).toNatClampNeg), .int ((s.2.1 99) (((s.2.1 100) (x6).toNatClampNeg)).toNatClampNeg)]) (S' := []) (h' := hpS s) rfl ?_
            refine Ex.fg (L := [.ref 55, .int x1, .int x2, pu, pu, .int ((s.2.1 99) (((s.2.1 100) (x6).toNatClampNeg)).toNatClampNeg), .int ((s.2.1 97) (((s.2.1 100) (x6).toNatClampNeg)).toNatClampNeg), pu, pu]) ⟨Or.inl rfl, ⟨Or.inl rfl, ⟨Or.inl rfl, ⟨Or.inl rfl, ⟨Or.inl rfl, ⟨Or.inl rfl, ⟨Or.inl rfl, ⟨Or.inr ⟨rfl, rfl⟩, ⟨Or.inr ⟨rfl, rfl⟩, trivial⟩⟩⟩⟩⟩⟩⟩⟩⟩ ?_
            exact ih x1 x2 ((s.2.1 99) (((s.2.1 100) (x6).toNatClampNeg)).toNatClampNeg) ((s.2.1 97) (((s.2.1 100) (x6).toNatClampNeg)).toNatClampNeg) s k hX175
          · have k := k.2 c
            refine Ex.seg hq 3 (j := 167) (L' := [.ref 55, .int x1, .int x2, pu, pu, .int ((s.2.1 99) (((s.2.1 100) (x6).toNatClampNeg)).toNatClampNeg), .int x6, .int ((s.2.1 100) (x6).toNatClampNeg), .int ((s.2.1 99) (((s.2.1 100) (x6).toNatClampNeg)).toNatClampNeg)]) (S' := [.int ((s.2.1 100) (x6).toNatClampNeg), .ref 96]) (h' := hpS s) rfl ?_
            obtain ⟨hin, k⟩ := k
            refine Ex.ial hq rfl rfl hin ?_
            refine Ex.seg hq 3 (j := 122) (L' := [.ref 55, .int x1, .int x2, pu, pu, .int ((s.2.1 99) (((s.2.1 100) (x6).toNatClampNeg)).toNatClampNeg), .int ((s.2.1 96) (((s.2.1 100) (x6).toNatClampNeg)).toNatClampNeg), .int ((s.2.1 100) (x6).toNatClampNeg), .int ((s.2.1 99) (((s.2.1 100) (x6).toNatClampNeg)).toNatClampNeg)]) (S' := []) (h' := hpS s) rfl ?_
            refine Ex.fg (L := [.ref 55, .int x1, .int x2, pu, pu, .int ((s.2.1 99) (((s.2.1 100) (x6).toNatClampNeg)).toNatClampNeg), .int ((s.2.1 96) (((s.2.1 100) (x6).toNatClampNeg)).toNatClampNeg), pu, pu]) ⟨Or.inl rfl, ⟨Or.inl rfl, ⟨Or.inl rfl, ⟨Or.inl rfl, ⟨Or.inl rfl, ⟨Or.inl rfl, ⟨Or.inl rfl, ⟨Or.inr ⟨rfl, rfl⟩, ⟨Or.inr ⟨rfl, rfl⟩, trivial⟩⟩⟩⟩⟩⟩⟩⟩⟩ ?_
            exact ih x1 x2 ((s.2.1 99) (((s.2.1 100) (x6).toNatClampNeg)).toNatClampNeg) ((s.2.1 96) (((s.2.1 100) (x6).toNatClampNeg)).toNatClampNeg) s k hX175
      · have k := k.2 c
        refine Ex.seg hq 3 (j := 139) (L' := [.ref 55, .int x1, .int x2, pu, pu, .int x5, .int x6, .int ((s.2.1 100) (x6).toNatClampNeg), pu]) (S' := [.int ((s.2.1 100) (x6).toNatClampNeg), .ref 98]) (h' := hpS s) rfl ?_
        obtain ⟨hin, k⟩ := k
        refine Ex.ial hq rfl rfl hin ?_
        refine Ex.seg hq 3 (j := 143) (L' := [.ref 55, .int x1, .int x2, pu, pu, .int x5, .int x6, .int ((s.2.1 100) (x6).toNatClampNeg), pu]) (S' := [.int ((s.2.1 100) (x6).toNatClampNeg), .ref 99, .int ((s.2.1 98) (((s.2.1 100) (x6).toNatClampNeg)).toNatClampNeg)]) (h' := hpS s) rfl ?_
        obtain ⟨hin, k⟩ := k
        refine Ex.ial hq rfl rfl hin ?_
        refine Ex.seg hq 5 (j := 153) (L' := [.ref 55, .int x1, .int x2, pu, pu, .int x5, .int x6, .int ((s.2.1 100) (x6).toNatClampNeg), .int (((s.2.1 98) (((s.2.1 100) (x6).toNatClampNeg)).toNatClampNeg) - ((s.2.1 99) (((s.2.1 100) (x6).toNatClampNeg)).toNatClampNeg))]) (S' := [.int x5, .int (((s.2.1 98) (((s.2.1 100) (x6).toNatClampNeg)).toNatClampNeg) - ((s.2.1 99) (((s.2.1 100) (x6).toNatClampNeg)).toNatClampNeg))]) (h' := hpS s) rfl ?_
        refine Ex.i2 hq rfl (fun c => ?_) (fun c => ?_)
        · have k := k.1 c
          refine Ex.seg hq 5 (j := 161) (L' := [.ref 55, .int x1, .int x2, pu, pu, .int x5, .int x6, .int ((s.2.1 100) (x6).toNatClampNeg), .int (((s.2.1 98) (((s.2.1 100) (x6).toNatClampNeg)).toNatClampNeg) - ((s.2.1 99) (((s.2.1 100) (x6).toNatClampNeg)).toNatClampNeg))]) (S' := [.int ((s.2.1 100) (x6).toNatClampNeg), .ref 97]) (h' := hpS s) rfl ?_
          obtain ⟨hin, k⟩ := k
          refine Ex.ial hq rfl rfl hin ?_
          refine Ex.seg hq 1 (j := 163) (L' := [.ref 55, .int x1, .int x2, pu, pu, .int x5, .int x6, .int ((s.2.1 100) (x6).toNatClampNeg), .int (((s.2.1 98) (((s.2.1 100) (x6).toNatClampNeg)).toNatClampNeg) - ((s.2.1 99) (((s.2.1 100) (x6).toNatClampNeg)).toNatClampNeg))]) (S' := [.int x6, .int ((s.2.1 97) (((s.2.1 100) (x6).toNatClampNeg)).toNatClampNeg)]) (h' := hpS s) rfl ?_
          refine Ex.i2 hq rfl (fun c => ?_) (fun c => ?_)
          · have k := k.1 c
            refine Ex.seg hq 3 (j := 172) (L' := [.ref 55, .int x1, .int x2, pu, pu, .int x5, .int x6, .int ((s.2.1 100) (x6).toNatClampNeg), .int (((s.2.1 98) (((s.2.1 100) (x6).toNatClampNeg)).toNatClampNeg) - ((s.2.1 99) (((s.2.1 100) (x6).toNatClampNeg)).toNatClampNeg))]) (S' := [.int ((s.2.1 100) (x6).toNatClampNeg), .ref 97]) (h' := hpS s) rfl ?_
            obtain ⟨hin, k⟩ := k
            refine Ex.ial hq rfl rfl hin ?_
            refine Ex.seg hq 2 (j := 122) (L' := [.ref 55, .int x1, .int x2, pu, pu, .int x5, .int ((s.2.1 97) (((s.2.1 100) (x6).toNatClampNeg)).toNatClampNeg), .int ((s.2.1 100) (x6).toNatClampNeg), .int (((s.2.1 98) (((s.2.1 100) (x6).toNatClampNeg)).toNatClampNeg) - ((s.2.1 99) (((s.2.1 100) (x6).toNatClampNeg)).toNatClampNeg))]) (S' := []) (h' := hpS s) rfl ?_
            refine Ex.fg (L := [.ref 55, .int x1, .int x2, pu, pu, .int x5, .int ((s.2.1 97) (((s.2.1 100) (x6).toNatClampNeg)).toNatClampNeg), pu, pu]) ⟨Or.inl rfl, ⟨Or.inl rfl, ⟨Or.inl rfl, ⟨Or.inl rfl, ⟨Or.inl rfl, ⟨Or.inl rfl, ⟨Or.inl rfl, ⟨Or.inr ⟨rfl, rfl⟩, ⟨Or.inr ⟨rfl, rfl⟩, trivial⟩⟩⟩⟩⟩⟩⟩⟩⟩ ?_
            exact ih x1 x2 x5 ((s.2.1 97) (((s.2.1 100) (x6).toNatClampNeg)).toNatClampNeg) s k hX175
          · have k := k.2 c
            refine Ex.seg hq 3 (j := 167) (L' := [.ref 55, .int x1, .int x2, pu, pu, .int x5, .int x6, .int ((s.2.1 100) (x6).toNatClampNeg), .int (((s.2.1 98) (((s.2.1 100) (x6).toNatClampNeg)).toNatClampNeg) - ((s.2.1 99) (((s.2.1 100) (x6).toNatClampNeg)).toNatClampNeg))]) (S' := [.int ((s.2.1 100) (x6).toNatClampNeg), .ref 96]) (h' := hpS s) rfl ?_
            obtain ⟨hin, k⟩ := k
            refine Ex.ial hq rfl rfl hin ?_
            refine Ex.seg hq 3 (j := 122) (L' := [.ref 55, .int x1, .int x2, pu, pu, .int x5, .int ((s.2.1 96) (((s.2.1 100) (x6).toNatClampNeg)).toNatClampNeg), .int ((s.2.1 100) (x6).toNatClampNeg), .int (((s.2.1 98) (((s.2.1 100) (x6).toNatClampNeg)).toNatClampNeg) - ((s.2.1 99) (((s.2.1 100) (x6).toNatClampNeg)).toNatClampNeg))]) (S' := []) (h' := hpS s) rfl ?_
            refine Ex.fg (L := [.ref 55, .int x1, .int x2, pu, pu, .int x5, .int ((s.2.1 96) (((s.2.1 100) (x6).toNatClampNeg)).toNatClampNeg), pu, pu]) ⟨Or.inl rfl, ⟨Or.inl rfl, ⟨Or.inl rfl, ⟨Or.inl rfl, ⟨Or.inl rfl, ⟨Or.inl rfl, ⟨Or.inl rfl, ⟨Or.inr ⟨rfl, rfl⟩, ⟨Or.inr ⟨rfl, rfl⟩, trivial⟩⟩⟩⟩⟩⟩⟩⟩⟩ ?_
            exact ih x1 x2 x5 ((s.2.1 96) (((s.2.1 100) (x6).toNatClampNeg)).toNatClampNeg) s k hX175
        · have k := k.2 c
          refine Ex.seg hq 6 (j := 161) (L' := [.ref 55, .int x1, .int x2, pu, pu, .int (((s.2.1 98) (((s.2.1 100) (x6).toNatClampNeg)).toNatClampNeg) - ((s.2.1 99) (((s.2.1 100) (x6).toNatClampNeg)).toNatClampNeg)), .int x6, .int ((s.2.1 100) (x6).toNatClampNeg), .int (((s.2.1 98) (((s.2.1 100) (x6).toNatClampNeg)).toNatClampNeg) - ((s.2.1 99) (((s.2.1 100) (x6).toNatClampNeg)).toNatClampNeg))]) (S' := [.int ((s.2.1 100) (x6).toNatClampNeg), .ref 97]) (h' := hpS s) rfl ?_
          obtain ⟨hin, k⟩ := k
          refine Ex.ial hq rfl rfl hin ?_
          refine Ex.seg hq 1 (j := 163) (L' := [.ref 55, .int x1, .int x2, pu, pu, .int (((s.2.1 98) (((s.2.1 100) (x6).toNatClampNeg)).toNatClampNeg) - ((s.2.1 99) (((s.2.1 100) (x6).toNatClampNeg)).toNatClampNeg)), .int x6, .int ((s.2.1 100) (x6).toNatClampNeg), .int (((s.2.1 98) (((s.2.1 100) (x6).toNatClampNeg)).toNatClampNeg) - ((s.2.1 99) (((s.2.1 100) (x6).toNatClampNeg)).toNatClampNeg))]) (S' := [.int x6, .int ((s.2.1 97) (((s.2.1 100) (x6).toNatClampNeg)).toNatClampNeg)]) (h' := hpS s) rfl ?_
          refine Ex.i2 hq rfl (fun c => ?_) (fun c => ?_)
          · have k := k.1 c
            refine Ex.seg hq 3 (j := 172) (L' := [.ref 55, .int x1, .int x2, pu, pu, .int (((s.2.1 98) (((s.2.1 100) (x6).toNatClampNeg)).toNatClampNeg) - ((s.2.1 99) (((s.2.1 100) (x6).toNatClampNeg)).toNatClampNeg)), .int x6, .int ((s.2.1 100) (x6).toNatClampNeg), .int (((s.2.1 98) (((s.2.1 100) (x6).toNatClampNeg)).toNatClampNeg) - ((s.2.1 99) (((s.2.1 100) (x6).toNatClampNeg)).toNatClampNeg))]) (S' := [.int ((s.2.1 100) (x6).toNatClampNeg), .ref 97]) (h' := hpS s) rfl ?_
            obtain ⟨hin, k⟩ := k
            refine Ex.ial hq rfl rfl hin ?_
            refine Ex.seg hq 2 (j := 122) (L' := [.ref 55, .int x1, .int x2, pu, pu, .int (((s.2.1 98) (((s.2.1 100) (x6).toNatClampNeg)).toNatClampNeg) - ((s.2.1 99) (((s.2.1 100) (x6).toNatClampNeg)).toNatClampNeg)), .int ((s.2.1 97) (((s.2.1 100) (x6).toNatClampNeg)).toNatClampNeg), .int ((s.2.1 100) (x6).toNatClampNeg), .int (((s.2.1 98) (((s.2.1 100) (x6).toNatClampNeg)).toNatClampNeg) - ((s.2.1 99) (((s.2.1 100) (x6).toNatClampNeg)).toNatClampNeg))]) (S' := []) (h' := hpS s) rfl ?_
            refine Ex.fg (L := [.ref 55, .int x1, .int x2, pu, pu, .int (((s.2.1 98) (((s.2.1 100) (x6).toNatClampNeg)).toNatClampNeg) - ((s.2.1 99) (((s.2.1 100) (x6).toNatClampNeg)).toNatClampNeg)), .int ((s.2.1 97) (((s.2.1 100) (x6).toNatClampNeg)).toNatClampNeg), pu, pu]) ⟨Or.inl rfl, ⟨Or.inl rfl, ⟨Or.inl rfl, ⟨Or.inl rfl, ⟨Or.inl rfl, ⟨Or.inl rfl, ⟨Or.inl rfl, ⟨Or.inr ⟨rfl, rfl⟩, ⟨Or.inr ⟨rfl, rfl⟩, trivial⟩⟩⟩⟩⟩⟩⟩⟩⟩ ?_
            exact ih x1 x2 (((s.2.1 98) (((s.2.1 100) (x6).toNatClampNeg)).toNatClampNeg) - ((s.2.1 99) (((s.2.1 100) (x6).toNatClampNeg)).toNatClampNeg)) ((s.2.1 97) (((s.2.1 100) (x6).toNatClampNeg)).toNatClampNeg) s k hX175
          · have k := k.2 c
            refine Ex.seg hq 3 (j := 167) (L' := [.ref 55, .int x1, .int x2, pu, pu, .int (((s.2.1 98) (((s.2.1 100) (x6).toNatClampNeg)).toNatClampNeg) - ((s.2.1 99) (((s.2.1 100) (x6).toNatClampNeg)).toNatClampNeg)), .int x6, .int ((s.2.1 100) (x6).toNatClampNeg), .int (((s.2.1 98) (((s.2.1 100) (x6).toNatClampNeg)).toNatClampNeg) - ((s.2.1 99) (((s.2.1 100) (x6).toNatClampNeg)).toNatClampNeg))]) (S' := [.int ((s.2.1 100) (x6).toNatClampNeg), .ref 96]) (h' := hpS s) rfl ?_
            obtain ⟨hin, k⟩ := k
            refine Ex.ial hq rfl rfl hin ?_
            refine Ex.seg hq 3 (j := 122) (L' := [.ref 55, .int x1, .int x2, pu, pu, .int (((s.2.1 98) (((s.2.1 100) (x6).toNatClampNeg)).toNatClampNeg) - ((s.2.1 99) (((s.2.1 100) (x6).toNatClampNeg)).toNatClampNeg)), .int ((s.2.1 96) (((s.2.1 100) (x6).toNatClampNeg)).toNatClampNeg), .int ((s.2.1 100) (x6).toNatClampNeg), .int (((s.2.1 98) (((s.2.1 100) (x6).toNatClampNeg)).toNatClampNeg) - ((s.2.1 99) (((s.2.1 100) (x6).toNatClampNeg)).toNatClampNeg))]) (S' := []) (h' := hpS s) rfl ?_
            refine Ex.fg (L := [.ref 55, .int x1, .int x2, pu, pu, .int (((s.2.1 98) (((s.2.1 100) (x6).toNatClampNeg)).toNatClampNeg) - ((s.2.1 99) (((s.2.1 100) (x6).toNatClampNeg)).toNatClampNeg)), .int ((s.2.1 96) (((s.2.1 100) (x6).toNatClampNeg)).toNatClampNeg), pu, pu]) ⟨Or.inl rfl, ⟨Or.inl rfl, ⟨Or.inl rfl, ⟨Or.inl rfl, ⟨Or.inl rfl, ⟨Or.inl rfl, ⟨Or.inl rfl, ⟨Or.inr ⟨rfl, rfl⟩, ⟨Or.inr ⟨rfl, rfl⟩, trivial⟩⟩⟩⟩⟩⟩⟩⟩⟩ ?_
            exact ih x1 x2 (((s.2.1 98) (((s.2.1 100) (x6).toNatClampNeg)).toNatClampNeg) - ((s.2.1 99) (((s.2.1 100) (x6).toNatClampNeg)).toNatClampNeg)) ((s.2.1 96) (((s.2.1 100) (x6).toNatClampNeg)).toNatClampNeg) s k hX175
def w_249_L177 : Nat → Int32 → Int32 → Int32 → ST → (Int32 → ST → Prop) → (Int32 → ST → Prop) → Prop
  | 0, _, _, _, _, _, _ => False
  | n + 1, x1, x5, x6, s, X227, K => ((x6 = x1 → X227 x5 s) ∧ (¬ (x6 = x1) → (pin x6 400 = true ∧ (pin ((s.2.1 100) (x6).toNatClampNeg) 700 = true ∧ ((¬ ((s.2.1 97) (((s.2.1 100) (x6).toNatClampNeg)).toNatClampNeg) = x6 → (pin ((s.2.1 100) (x6).toNatClampNeg) 700 = true ∧ (pin ((s.2.1 100) (x6).toNatClampNeg) 700 = true ∧ (pin ((s.2.1 100) (x6).toNatClampNeg) 700 = true ∧ w_249_L177 n x1 x5 ((s.2.1 97) (((s.2.1 100) (x6).toNatClampNeg)).toNatClampNeg) (sA s 99 (upd (s.2.1 99) (((s.2.1 100) (x6).toNatClampNeg)).toNatClampNeg (((s.2.1 99) (((s.2.1 100) (x6).toNatClampNeg)).toNatClampNeg) - x5))) X227 K)))) ∧ (¬ (¬ ((s.2.1 97) (((s.2.1 100) (x6).toNatClampNeg)).toNatClampNeg) = x6) → (pin ((s.2.1 100) (x6).toNatClampNeg) 700 = true ∧ (pin ((s.2.1 100) (x6).toNatClampNeg) 700 = true ∧ (pin ((s.2.1 100) (x6).toNatClampNeg) 700 = true ∧ w_249_L177 n x1 x5 ((s.2.1 96) (((s.2.1 100) (x6).toNatClampNeg)).toNatClampNeg) (sA s 99 (upd (s.2.1 99) (((s.2.1 100) (x6).toNatClampNeg)).toNatClampNeg (((s.2.1 99) (((s.2.1 100) (x6).toNatClampNeg)).toNatClampNeg) + x5))) X227 K)))))))))
theorem q_249_L177 {d : Nat} {X227 : Int32 → ST → Prop} {K : Int32 → ST → Prop} : ∀ (n : Nat) (x1 : Int32) (x5 : Int32) (x6 : Int32) (s : ST), w_249_L177 n x1 x5 x6 s X227 K → (∀ (y5 : Int32) (s : ST), X227 y5 s → Ex sc (d + 0) 249 227 [pu, pu, pu, pu, pu, .int y5, pu, pu, pu] [] (hpS s) (kI K)) → Ex sc (d + 0) 249 177 [.ref 55, .int x1, pu, pu, pu, .int x5, .int x6, pu, pu] [] (hpS s) (kI K) := by
  have hq : prog[249]? = some pm249 := rfl
  intro n
  induction n with
  | zero =>
    intro x1 x5 x6 s k
    exact k.elim
  | succ n ih =>
    intro x1 x5 x6 s k hX227
    rw [w_249_L177] at k
    refine Ex.seg hq 2 (j := 179) (L' := [.ref 55, .int x1, pu, pu, pu, .int x5, .int x6, pu, pu]) (S' := [.int x1, .int x6]) (h' := hpS s) rfl ?_
    refine Ex.i2 hq rfl (fun c => ?_) (fun c => ?_)
    · have k := k.1 c
      refine Ex.fg (L := [pu, pu, pu, pu, pu, .int x5, pu, pu, pu]) ⟨Or.inr ⟨rfl, rfl⟩, ⟨Or.inr ⟨rfl, rfl⟩, ⟨Or.inl rfl, ⟨Or.inl rfl, ⟨Or.inl rfl, ⟨Or.inl rfl, ⟨Or.inr ⟨rfl, rfl⟩, ⟨Or.inl rfl, ⟨Or.inl rfl, trivial⟩⟩⟩⟩⟩⟩⟩⟩⟩ ?_
      exact hX227 x5 s k
    · have k := k.2 c
      refine Ex.seg hq 3 (j := 183) (L' := [.ref 55, .int x1, pu, pu, pu, .int x5, .int x6, pu, pu]) (S' := [.int x6, .ref 100]) (h' := hpS s) rfl ?_
      obtain ⟨hin, k⟩ := k
      refine Ex.ial hq rfl rfl hin ?_
      refine Ex.seg hq 4 (j := 188) (L' := [.ref 55, .int x1, pu, pu, pu, .int x5, .int x6, .int ((s.2.1 100) (x6).toNatClampNeg), pu]) (S' := [.int ((s.2.1 100) (x6).toNatClampNeg), .ref 97]) (h' := hpS s) rfl ?_
      obtain ⟨hin, k⟩ := k
      refine Ex.ial hq rfl rfl hin ?_
      refine Ex.seg hq 1 (j := 190) (L' := [.ref 55, .int x1, pu, pu, pu, .int x5, .int x6, .int ((s.2.1 100) (x6).toNatClampNeg), pu]) (S' := [.int x6, .int ((s.2.1 97) (((s.2.1 100) (x6).toNatClampNeg)).toNatClampNeg)]) (h' := hpS s) rfl ?_
      refine Ex.i2 hq rfl (fun c => ?_) (fun c => ?_)
      · have k := k.1 c
        refine Ex.seg hq 10 (j := 210) (L' := [.ref 55, .int x1, pu, pu, pu, .int x5, .int x6, .int ((s.2.1 100) (x6).toNatClampNeg), .int (0 : Int32)]) (S' := [.int ((s.2.1 100) (x6).toNatClampNeg), .ref 99, .int ((s.2.1 100) (x6).toNatClampNeg), .ref 99]) (h' := hpS s) rfl ?_
        obtain ⟨hin, k⟩ := k
        refine Ex.ial hq rfl rfl hin ?_
        refine Ex.seg hq 2 (j := 213) (L' := [.ref 55, .int x1, pu, pu, pu, .int x5, .int x6, .int ((s.2.1 100) (x6).toNatClampNeg), .int (0 : Int32)]) (S' := [.int (((s.2.1 99) (((s.2.1 100) (x6).toNatClampNeg)).toNatClampNeg) - x5), .int ((s.2.1 100) (x6).toNatClampNeg), .ref 99]) (h' := hpS s) rfl ?_
        obtain ⟨hin, k⟩ := k
        refine Ex.ias hq rfl rfl hin (h' := hpS (sA s 99 (upd (s.2.1 99) (((s.2.1 100) (x6).toNatClampNeg)).toNatClampNeg (((s.2.1 99) (((s.2.1 100) (x6).toNatClampNeg)).toNatClampNeg) - x5)))) (hset_99 _ _) ?_
        refine Ex.seg hq 5 (j := 224) (L' := [.ref 55, .int x1, pu, pu, pu, .int x5, .int x6, .int ((s.2.1 100) (x6).toNatClampNeg), .int (0 : Int32)]) (S' := [.int ((s.2.1 100) (x6).toNatClampNeg), .ref 97]) (h' := hpS (sA s 99 (upd (s.2.1 99) (((s.2.1 100) (x6).toNatClampNeg)).toNatClampNeg (((s.2.1 99) (((s.2.1 100) (x6).toNatClampNeg)).toNatClampNeg) - x5)))) rfl ?_
        obtain ⟨hin, k⟩ := k
        refine Ex.ial hq rfl rfl hin ?_
        refine Ex.seg hq 2 (j := 177) (L' := [.ref 55, .int x1, pu, pu, pu, .int x5, .int ((s.2.1 97) (((s.2.1 100) (x6).toNatClampNeg)).toNatClampNeg), .int ((s.2.1 100) (x6).toNatClampNeg), .int (0 : Int32)]) (S' := []) (h' := hpS (sA s 99 (upd (s.2.1 99) (((s.2.1 100) (x6).toNatClampNeg)).toNatClampNeg (((s.2.1 99) (((s.2.1 100) (x6).toNatClampNeg)).toNatClampNeg) - x5)))) rfl ?_
        refine Ex.fg (L := [.ref 55, .int x1, pu, pu, pu, .int x5, .int ((s.2.1 97) (((s.2.1 100) (x6).toNatClampNeg)).toNatClampNeg), pu, pu]) ⟨Or.inl rfl, ⟨Or.inl rfl, ⟨Or.inl rfl, ⟨Or.inl rfl, ⟨Or.inl rfl, ⟨Or.inl rfl, ⟨Or.inl rfl, ⟨Or.inr ⟨rfl, rfl⟩, ⟨Or.inr ⟨rfl, rfl⟩, trivial⟩⟩⟩⟩⟩⟩⟩⟩⟩ ?_
        exact ih x1 x5 ((s.2.1 97) (((s.2.1 100) (x6).toNatClampNeg)).toNatClampNeg) (sA s 99 (upd (s.2.1 99) (((s.2.1 100) (x6).toNatClampNeg)).toNatClampNeg (((s.2.1 99) (((s.2.1 100) (x6).toNatClampNeg)).toNatClampNeg) - x5))) k hX227
      · have k := k.2 c
        refine Ex.seg hq 11 (j := 203) (L' := [.ref 55, .int x1, pu, pu, pu, .int x5, .int x6, .int ((s.2.1 100) (x6).toNatClampNeg), .int (1 : Int32)]) (S' := [.int ((s.2.1 100) (x6).toNatClampNeg), .ref 99, .int ((s.2.1 100) (x6).toNatClampNeg), .ref 99]) (h' := hpS s) rfl ?_
        obtain ⟨hin, k⟩ := k
        refine Ex.ial hq rfl rfl hin ?_
        refine Ex.seg hq 3 (j := 213) (L' := [.ref 55, .int x1, pu, pu, pu, .int x5, .int x6, .int ((s.2.1 100) (x6).toNatClampNeg), .int (1 : Int32)]) (S' := [.int (((s.2.1 99) (((s.2.1 100) (x6).toNatClampNeg)).toNatClampNeg) + x5), .int ((s.2.1 100) (x6).toNatClampNeg), .ref 99]) (h' := hpS s) rfl ?_
        obtain ⟨hin, k⟩ := k
        refine Ex.ias hq rfl rfl hin (h' := hpS (sA s 99 (upd (s.2.1 99) (((s.2.1 100) (x6).toNatClampNeg)).toNatClampNeg (((s.2.1 99) (((s.2.1 100) (x6).toNatClampNeg)).toNatClampNeg) + x5)))) (hset_99 _ _) ?_
        refine Ex.seg hq 5 (j := 219) (L' := [.ref 55, .int x1, pu, pu, pu, .int x5, .int x6, .int ((s.2.1 100) (x6).toNatClampNeg), .int (1 : Int32)]) (S' := [.int ((s.2.1 100) (x6).toNatClampNeg), .ref 96]) (h' := hpS (sA s 99 (upd (s.2.1 99) (((s.2.1 100) (x6).toNatClampNeg)).toNatClampNeg (((s.2.1 99) (((s.2.1 100) (x6).toNatClampNeg)).toNatClampNeg) + x5)))) rfl ?_
        obtain ⟨hin, k⟩ := k
        refine Ex.ial hq rfl rfl hin ?_
        refine Ex.seg hq 3 (j := 177) (L' := [.ref 55, .int x1, pu, pu, pu, .int x5, .int ((s.2.1 96) (((s.2.1 100) (x6).toNatClampNeg)).toNatClampNeg), .int ((s.2.1 100) (x6).toNatClampNeg), .int (1 : Int32)]) (S' := []) (h' := hpS (sA s 99 (upd (s.2.1 99) (((s.2.1 100) (x6).toNatClampNeg)).toNatClampNeg (((s.2.1 99) (((s.2.1 100) (x6).toNatClampNeg)).toNatClampNeg) + x5)))) rfl ?_
        refine Ex.fg (L := [.ref 55, .int x1, pu, pu, pu, .int x5, .int ((s.2.1 96) (((s.2.1 100) (x6).toNatClampNeg)).toNatClampNeg), pu, pu]) ⟨Or.inl rfl, ⟨Or.inl rfl, ⟨Or.inl rfl, ⟨Or.inl rfl, ⟨Or.inl rfl, ⟨Or.inl rfl, ⟨Or.inl rfl, ⟨Or.inr ⟨rfl, rfl⟩, ⟨Or.inr ⟨rfl, rfl⟩, trivial⟩⟩⟩⟩⟩⟩⟩⟩⟩ ?_
        exact ih x1 x5 ((s.2.1 96) (((s.2.1 100) (x6).toNatClampNeg)).toNatClampNeg) (sA s 99 (upd (s.2.1 99) (((s.2.1 100) (x6).toNatClampNeg)).toNatClampNeg (((s.2.1 99) (((s.2.1 100) (x6).toNatClampNeg)).toNatClampNeg) + x5))) k hX227
/-- RowAuditorModel.leads(III)I -/
def w_249 (p1 : Int32) (p2 : Int32) (p3 : Int32) (s : ST) (K : Int32 → ST → Prop) : Prop := (∃ m, w_249_L2 m p1 p2 p3 (0 : Int32) s (fun y1 y2 y3 s1 => (pin y1 400 = true ∧ (∃ m, w_249_L21 m y1 y2 y3 (1 : Int32) (sA s1 100 (upd (s1.2.1 100) (y1).toNatClampNeg (s1.1 5558))) (fun y1 y2 y3 s3 => (pin y2 400 = true ∧ ((¬ ((s3.2.1 100) (y2).toNatClampNeg) = (-1 : Int32) → (∃ m, w_249_L122 m y1 y2 y3 y2 s3 (fun y1 y2 y5 s4 => (∃ m, w_249_L177 m y1 y5 y2 s4 (fun y5 s5 => K y5 s5) K)) K)) ∧ (¬ (¬ ((s3.2.1 100) (y2).toNatClampNeg) = (-1 : Int32)) → K (0 : Int32) s3)))) K))) K)
theorem q_249 {d : Nat} {K : Int32 → ST → Prop} (p1 : Int32) (p2 : Int32) (p3 : Int32) (s : ST) (k : w_249 p1 p2 p3 s K) : Rn sc (d + 0) 249 [.ref 55, .int p1, .int p2, .int p3] (hpS s) (kI K) := by
  have hq : prog[249]? = some pm249 := rfl
  refine Rn.of (L := [.ref 55, .int p1, .int p2, .int p3, pu, pu, pu, pu, pu]) hq rfl rfl ?_
  unfold w_249 at k
  refine Ex.seg hq 2 (j := 2) (L' := [.ref 55, .int p1, .int p2, .int p3, .int (0 : Int32), pu, pu, pu, pu]) (S' := []) (h' := hpS s) rfl ?_
  obtain ⟨m, k⟩ := k
  refine q_249_L2 (d := d) m p1 p2 p3 (0 : Int32) s k ?_
  · intro y1 y2 y3 s1 k
    refine Ex.seg hq 5 (j := 18) (L' := [.ref 55, .int y1, .int y2, .int y3, pu, pu, pu, pu, pu]) (S' := [.int (s1.1 5558), .int y1, .ref 100]) (h' := hpS s1) rfl ?_
    obtain ⟨hin, k⟩ := k
    refine Ex.ias hq rfl rfl hin (h' := hpS (sA s1 100 (upd (s1.2.1 100) (y1).toNatClampNeg (s1.1 5558)))) (hset_100 _ _) ?_
    refine Ex.seg hq 2 (j := 21) (L' := [.ref 55, .int y1, .int y2, .int y3, .int (1 : Int32), pu, pu, pu, pu]) (S' := []) (h' := hpS (sA s1 100 (upd (s1.2.1 100) (y1).toNatClampNeg (s1.1 5558)))) rfl ?_
    obtain ⟨m, k⟩ := k
    refine q_249_L21 (d := d) m y1 y2 y3 (1 : Int32) (sA s1 100 (upd (s1.2.1 100) (y1).toNatClampNeg (s1.1 5558))) k ?_
    · intro y1 y2 y3 s3 k
      refine Ex.seg hq 3 (j := 113) (L' := [.ref 55, .int y1, .int y2, .int y3, pu, pu, pu, pu, pu]) (S' := [.int y2, .ref 100]) (h' := hpS s3) rfl ?_
      obtain ⟨hin, k⟩ := k
      refine Ex.ial hq rfl rfl hin ?_
      refine Ex.seg hq 1 (j := 115) (L' := [.ref 55, .int y1, .int y2, .int y3, pu, pu, pu, pu, pu]) (S' := [.int (-1 : Int32), .int ((s3.2.1 100) (y2).toNatClampNeg)]) (h' := hpS s3) rfl ?_
      refine Ex.i2 hq rfl (fun c => ?_) (fun c => ?_)
      · have k := k.1 c
        refine Ex.seg hq 4 (j := 122) (L' := [.ref 55, .int y1, .int y2, .int y3, pu, .int y3, .int y2, pu, pu]) (S' := []) (h' := hpS s3) rfl ?_
        obtain ⟨m, k⟩ := k
        refine Ex.fg (L := [.ref 55, .int y1, .int y2, pu, pu, .int y3, .int y2, pu, pu]) ⟨Or.inl rfl, ⟨Or.inl rfl, ⟨Or.inl rfl, ⟨Or.inr ⟨rfl, rfl⟩, ⟨Or.inl rfl, ⟨Or.inl rfl, ⟨Or.inl rfl, ⟨Or.inl rfl, ⟨Or.inl rfl, trivial⟩⟩⟩⟩⟩⟩⟩⟩⟩ ?_
        refine q_249_L122 (d := d) m y1 y2 y3 y2 s3 k ?_
        · intro y1 y2 y5 s4 k
          refine Ex.seg hq 2 (j := 177) (L' := [.ref 55, .int y1, .int y2, pu, pu, .int y5, .int y2, pu, pu]) (S' := []) (h' := hpS s4) rfl ?_
          obtain ⟨m, k⟩ := k
          refine Ex.fg (L := [.ref 55, .int y1, pu, pu, pu, .int y5, .int y2, pu, pu]) ⟨Or.inl rfl, ⟨Or.inl rfl, ⟨Or.inr ⟨rfl, rfl⟩, ⟨Or.inl rfl, ⟨Or.inl rfl, ⟨Or.inl rfl, ⟨Or.inl rfl, ⟨Or.inl rfl, ⟨Or.inl rfl, trivial⟩⟩⟩⟩⟩⟩⟩⟩⟩ ?_
          refine q_249_L177 (d := d) m y1 y5 y2 s4 k ?_
          · intro y5 s5 k
            refine Ex.seg hq 1 (j := 228) (L' := [pu, pu, pu, pu, pu, .int y5, pu, pu, pu]) (S' := [.int y5]) (h' := hpS s5) rfl ?_
            exact Ex.rt hq rfl rfl ⟨y5, s5, rfl, rfl, k⟩
      · have k := k.2 c
        refine Ex.seg hq 1 (j := 117) (L' := [.ref 55, .int y1, .int y2, .int y3, pu, pu, pu, pu, pu]) (S' := [.int (0 : Int32)]) (h' := hpS s3) rfl ?_
        exact Ex.rt hq rfl rfl ⟨(0 : Int32), s3, rfl, rfl, k⟩
def w_250_L21 : Nat → Int32 → Int32 → Int32 → Int32 → Int32 → ST → (Int32 → Int32 → Int32 → ST → Prop) → (Int32 → ST → Prop) → Prop
  | 0, _, _, _, _, _, _, _, _ => False
  | n + 1, x1, x2, x3, x4, x5, s, X46, K => (((s.1 5501) ≤ x5 → X46 x1 x3 x4 s) ∧ (¬ ((s.1 5501) ≤ x5) → ((¬ x5 = x2 → ((¬ (0 : Int32) = x3 → w_250_L21 n x1 x2 x3 x4 (x5 + (1 : Int32)) s X46 K) ∧ (¬ (¬ (0 : Int32) = x3) → (pin x5 10 = true ∧ (pin x5 10 = true ∧ w_246 ((s.2.1 101) (x5).toNatClampNeg) x4 ((s.2.1 102) (x5).toNatClampNeg) s (fun s11 => w_250_L21 n x1 x2 x3 x4 (x5 + (1 : Int32)) s11 X46 K)))))) ∧ (¬ (¬ x5 = x2) → ((¬ (1 : Int32) = x3 → w_250_L21 n x1 x2 x3 x4 (x5 + (1 : Int32)) s X46 K) ∧ (¬ (¬ (1 : Int32) = x3) → (pin x5 10 = true ∧ (pin x5 10 = true ∧ w_246 ((s.2.1 101) (x5).toNatClampNeg) x4 ((s.2.1 102) (x5).toNatClampNeg) s (fun s13 => w_250_L21 n x1 x2 x3 x4 (x5 + (1 : Int32)) s13 X46 K)))))))))
theorem q_250_L21 {d : Nat} {X46 : Int32 → Int32 → Int32 → ST → Prop} {K : Int32 → ST → Prop} : ∀ (n : Nat) (x1 : Int32) (x2 : Int32) (x3 : Int32) (x4 : Int32) (x5 : Int32) (s : ST), w_250_L21 n x1 x2 x3 x4 x5 s X46 K → (∀ (y1 : Int32) (y3 : Int32) (y4 : Int32) (s : ST), X46 y1 y3 y4 s → Ex sc (d + 2) 250 46 [.ref 55, .int y1, pu, .int y3, .int y4, pu, pu] [] (hpS s) (kI K)) → Ex sc (d + 2) 250 21 [.ref 55, .int x1, .int x2, .int x3, .int x4, .int x5, pu] [] (hpS s) (kI K) := by
  have hq : prog[250]? = some pm250 := rfl
  intro n
  induction n with
  | zero =>
    intro x1 x2 x3 x4 x5 s k
    exact k.elim
  | succ n ih =>
    intro x1 x2 x3 x4 x5 s k hX46
    rw [w_250_L21] at k
    refine Ex.seg hq 3 (j := 24) (L' := [.ref 55, .int x1, .int x2, .int x3, .int x4, .int x5, pu]) (S' := [.int (s.1 5501), .int x5]) (h' := hpS s) rfl ?_
    refine Ex.i2 hq rfl (fun c => ?_) (fun c => ?_)
    · have k := k.1 c
      refine Ex.fg (L := [.ref 55, .int x1, pu, .int x3, .int x4, pu, pu]) ⟨Or.inl rfl, ⟨Or.inl rfl, ⟨Or.inr ⟨rfl, rfl⟩, ⟨Or.inl rfl, ⟨Or.inl rfl, ⟨Or.inr ⟨rfl, rfl⟩, ⟨Or.inl rfl, trivial⟩⟩⟩⟩⟩⟩⟩ ?_
      exact hX46 x1 x3 x4 s k
    · have k := k.2 c
      refine Ex.seg hq 2 (j := 27) (L' := [.ref 55, .int x1, .int x2, .int x3, .int x4, .int x5, pu]) (S' := [.int x2, .int x5]) (h' := hpS s) rfl ?_
      refine Ex.i2 hq rfl (fun c => ?_) (fun c => ?_)
      · have k := k.1 c
        refine Ex.seg hq 2 (j := 32) (L' := [.ref 55, .int x1, .int x2, .int x3, .int x4, .int x5, pu]) (S' := [.int x3, .int (0 : Int32)]) (h' := hpS s) rfl ?_
        refine Ex.i2 hq rfl (fun c => ?_) (fun c => ?_)
        · have k := k.1 c
          refine Ex.seg hq 2 (j := 21) (L' := [.ref 55, .int x1, .int x2, .int x3, .int x4, .int (x5 + (1 : Int32)), pu]) (S' := []) (h' := hpS s) rfl ?_
          exact ih x1 x2 x3 x4 (x5 + (1 : Int32)) s k hX46
        · have k := k.2 c
          refine Ex.seg hq 4 (j := 37) (L' := [.ref 55, .int x1, .int x2, .int x3, .int x4, .int x5, pu]) (S' := [.int x5, .ref 101, .ref 55]) (h' := hpS s) rfl ?_
          obtain ⟨hin, k⟩ := k
          refine Ex.ial hq rfl rfl hin ?_
          refine Ex.seg hq 4 (j := 42) (L' := [.ref 55, .int x1, .int x2, .int x3, .int x4, .int x5, pu]) (S' := [.int x5, .ref 102, .int x4, .int ((s.2.1 101) (x5).toNatClampNeg), .ref 55]) (h' := hpS s) rfl ?_
          obtain ⟨hin, k⟩ := k
          refine Ex.ial hq rfl rfl hin ?_
          refine Ex.cl hq rfl rfl ?_
          refine Rn.mono (q_246 (d := d + 1) ((s.2.1 101) (x5).toNatClampNeg) x4 ((s.2.1 102) (x5).toNatClampNeg) s k) ?_
          rintro _ _ ⟨s11, rfl, rfl, k⟩
          show Ex sc (d + 2) 250 44 [.ref 55, .int x1, .int x2, .int x3, .int x4, .int x5, pu] [] (hpS s11) _
          refine Ex.seg hq 2 (j := 21) (L' := [.ref 55, .int x1, .int x2, .int x3, .int x4, .int (x5 + (1 : Int32)), pu]) (S' := []) (h' := hpS s11) rfl ?_
          exact ih x1 x2 x3 x4 (x5 + (1 : Int32)) s11 k hX46
      · have k := k.2 c
        refine Ex.seg hq 3 (j := 32) (L' := [.ref 55, .int x1, .int x2, .int x3, .int x4, .int x5, pu]) (S' := [.int x3, .int (1 : Int32)]) (h' := hpS s) rfl ?_
        refine Ex.i2 hq rfl (fun c => ?_) (fun c => ?_)
        · have k := k.1 c
          refine Ex.seg hq 2 (j := 21) (L' := [.ref 55, .int x1, .int x2, .int x3, .int x4, .int (x5 + (1 : Int32)), pu]) (S' := []) (h' := hpS s) rfl ?_
          exact ih x1 x2 x3 x4 (x5 + (1 : Int32)) s k hX46
        · have k := k.2 c
          refine Ex.seg hq 4 (j := 37) (L' := [.ref 55, .int x1, .int x2, .int x3, .int x4, .int x5, pu]) (S' := [.int x5, .ref 101, .ref 55]) (h' := hpS s) rfl ?_
          obtain ⟨hin, k⟩ := k
          refine Ex.ial hq rfl rfl hin ?_
          refine Ex.seg hq 4 (j := 42) (L' := [.ref 55, .int x1, .int x2, .int x3, .int x4, .int x5, pu]) (S' := [.int x5, .ref 102, .int x4, .int ((s.2.1 101) (x5).toNatClampNeg), .ref 55]) (h' := hpS s) rfl ?_
          obtain ⟨hin, k⟩ := k
          refine Ex.ial hq rfl rfl hin ?_
          refine Ex.cl hq rfl rfl ?_
          refine Rn.mono (q_246 (d := d + 1) ((s.2.1 101) (x5).toNatClampNeg) x4 ((s.2.1 102) (x5).toNatClampNeg) s k) ?_
          rintro _ _ ⟨s13, rfl, rfl, k⟩
          show Ex sc (d + 2) 250 44 [.ref 55, .int x1, .int x2, .int x3, .int x4, .int x5, pu] [] (hpS s13) _
          refine Ex.seg hq 2 (j := 21) (L' := [.ref 55, .int x1, .int x2, .int x3, .int x4, .int (x5 + (1 : Int32)), pu]) (S' := []) (h' := hpS s13) rfl ?_
          exact ih x1 x2 x3 x4 (x5 + (1 : Int32)) s13 k hX46
def w_250_L60 : Nat → Int32 → Int32 → Int32 → Int32 → Int32 → ST → (Int32 → Int32 → Int32 → ST → Prop) → (Int32 → ST → Prop) → Prop
  | 0, _, _, _, _, _, _, _, _ => False
  | n + 1, x1, x3, x4, x5, x6, s, X77, K => ((x5 ≤ 0 → X77 x1 x3 x5 s) ∧ (¬ (x5 ≤ 0) → ((x6 ≤ 0 → X77 x1 x3 x5 s) ∧ (¬ (x6 ≤ 0) → w_249 ((1 : Int32) + x1) x4 x5 s (fun r17 s16 => w_250_L60 n x1 x3 x4 (x5 - r17) r17 s16 X77 K)))))
theorem q_250_L60 {d : Nat} {X77 : Int32 → Int32 → Int32 → ST → Prop} {K : Int32 → ST → Prop} : ∀ (n : Nat) (x1 : Int32) (x3 : Int32) (x4 : Int32) (x5 : Int32) (x6 : Int32) (s : ST), w_250_L60 n x1 x3 x4 x5 x6 s X77 K → (∀ (y1 : Int32) (y3 : Int32) (y5 : Int32) (s : ST), X77 y1 y3 y5 s → Ex sc (d + 2) 250 77 [.ref 55, .int y1, pu, .int y3, pu, .int y5, pu] [] (hpS s) (kI K)) → Ex sc (d + 2) 250 60 [.ref 55, .int x1, pu, .int x3, .int x4, .int x5, .int x6] [] (hpS s) (kI K) := by
  have hq : prog[250]? = some pm250 := rfl
  intro n
  induction n with
  | zero =>
    intro x1 x3 x4 x5 x6 s k
    exact k.elim
  | succ n ih =>
    intro x1 x3 x4 x5 x6 s k hX77
    rw [w_250_L60] at k
    refine Ex.seg hq 1 (j := 61) (L' := [.ref 55, .int x1, pu, .int x3, .int x4, .int x5, .int x6]) (S' := [.int x5]) (h' := hpS s) rfl ?_
    refine Ex.i1 hq rfl (fun c => ?_) (fun c => ?_)
    · have k := k.1 c
      refine Ex.fg (L := [.ref 55, .int x1, pu, .int x3, pu, .int x5, pu]) ⟨Or.inl rfl, ⟨Or.inl rfl, ⟨Or.inl rfl, ⟨Or.inl rfl, ⟨Or.inr ⟨rfl, rfl⟩, ⟨Or.inl rfl, ⟨Or.inr ⟨rfl, rfl⟩, trivial⟩⟩⟩⟩⟩⟩⟩ ?_
      exact hX77 x1 x3 x5 s k
    · have k := k.2 c
      refine Ex.seg hq 1 (j := 63) (L' := [.ref 55, .int x1, pu, .int x3, .int x4, .int x5, .int x6]) (S' := [.int x6]) (h' := hpS s) rfl ?_
      refine Ex.i1 hq rfl (fun c => ?_) (fun c => ?_)
      · have k := k.1 c
        refine Ex.fg (L := [.ref 55, .int x1, pu, .int x3, pu, .int x5, pu]) ⟨Or.inl rfl, ⟨Or.inl rfl, ⟨Or.inl rfl, ⟨Or.inl rfl, ⟨Or.inr ⟨rfl, rfl⟩, ⟨Or.inl rfl, ⟨Or.inr ⟨rfl, rfl⟩, trivial⟩⟩⟩⟩⟩⟩⟩ ?_
        exact hX77 x1 x3 x5 s k
      · have k := k.2 c
        refine Ex.seg hq 6 (j := 70) (L' := [.ref 55, .int x1, pu, .int x3, .int x4, .int x5, .int x6]) (S' := [.int x5, .int x4, .int ((1 : Int32) + x1), .ref 55]) (h' := hpS s) rfl ?_
        refine Ex.cl hq rfl rfl ?_
        refine Rn.mono (q_249 (d := d + 1) ((1 : Int32) + x1) x4 x5 s k) ?_
        rintro _ _ ⟨r17, s16, rfl, rfl, k⟩
        show Ex sc (d + 2) 250 71 [.ref 55, .int x1, pu, .int x3, .int x4, .int x5, .int x6] [.int r17] (hpS s16) _
        refine Ex.seg hq 6 (j := 60) (L' := [.ref 55, .int x1, pu, .int x3, .int x4, .int (x5 - r17), .int r17]) (S' := []) (h' := hpS s16) rfl ?_
        exact ih x1 x3 x4 (x5 - r17) r17 s16 k hX77
/-- RowAuditorModel.followed(IIZ)I -/
def w_250 (p1 : Int32) (p2 : Int32) (p3 : Int32) (s : ST) (K : Int32 → ST → Prop) : Prop := w_189 p1 s (fun r2 s1 => ((r2 = 0 → K (-1 : Int32) s1) ∧ (¬ (r2 = 0) → w_189 p2 s1 (fun r4 s3 => ((¬ r4 = 0 → w_197 (s3.1 5500) s3 (fun s5 => w_248 s5 (fun s7 => w_247 s7 (fun r10 s9 => (∃ m, w_250_L21 m p1 p2 p3 r10 (0 : Int32) s9 (fun y1 y3 y4 s15 => ((¬ y3 = 0 → (pin y1 10 = true ∧ (∃ m, w_250_L60 m y1 y3 y4 ((s15.2.1 56) (y1).toNatClampNeg) (1 : Int32) s15 (fun y1 y3 y5 s18 => ((y3 = 0 → K y5 s18) ∧ (¬ (y3 = 0) → (pin y1 10 = true ∧ K (((s18.2.1 56) (y1).toNatClampNeg) - y5) s18)))) K))) ∧ (¬ (¬ y3 = 0) → w_246 (0 : Int32) y4 (1000000000 : Int32) s15 (fun s19 => (pin y1 10 = true ∧ (∃ m, w_250_L60 m y1 y3 y4 ((s19.2.1 56) (y1).toNatClampNeg) (1 : Int32) s19 (fun y1 y3 y5 s21 => ((y3 = 0 → K y5 s21) ∧ (¬ (y3 = 0) → (pin y1 10 = true ∧ K (((s21.2.1 56) (y1).toNatClampNeg) - y5) s21)))) K)))))) K))))) ∧ (¬ (¬ r4 = 0) → K (-1 : Int32) s3))))))
theorem q_250 {d : Nat} {K : Int32 → ST → Prop} (p1 : Int32) (p2 : Int32) (p3 : Int32) (s : ST) (k : w_250 p1 p2 p3 s K) : Rn sc (d + 2) 250 [.ref 55, .int p1, .int p2, .int p3] (hpS s) (kI K) := by
  have hq : prog[250]? = some pm250 := rfl
  refine Rn.of (L := [.ref 55, .int p1, .int p2, .int p3, pu, pu, pu]) hq rfl rfl ?_
  unfold w_250 at k
  refine Ex.seg hq 2 (j := 2) (L' := [.ref 55, .int p1, .int p2, .int p3, pu, pu, pu]) (S' := [.int p1, .ref 55]) (h' := hpS s) rfl ?_
  refine Ex.cl hq rfl rfl ?_
  refine Rn.mono (q_189 (d := d + 1) p1 s k) ?_
  rintro _ _ ⟨r2, s1, rfl, hzr2, rfl, k⟩
  show Ex sc (d + 2) 250 3 [.ref 55, .int p1, .int p2, .int p3, pu, pu, pu] [.int r2] (hpS s1) _
  refine Ex.i1 hq rfl (fun c => ?_) (fun c => ?_)
  · have k := k.1 c
    refine Ex.seg hq 1 (j := 9) (L' := [.ref 55, .int p1, .int p2, .int p3, pu, pu, pu]) (S' := [.int (-1 : Int32)]) (h' := hpS s1) rfl ?_
    exact Ex.rt hq rfl rfl ⟨(-1 : Int32), s1, rfl, rfl, k⟩
  · have k := k.2 c
    refine Ex.seg hq 2 (j := 6) (L' := [.ref 55, .int p1, .int p2, .int p3, pu, pu, pu]) (S' := [.int p2, .ref 55]) (h' := hpS s1) rfl ?_
    refine Ex.cl hq rfl rfl ?_
    refine Rn.mono (q_189 (d := d + 1) p2 s1 k) ?_
    rintro _ _ ⟨r4, s3, rfl, hzr4, rfl, k⟩
    show Ex sc (d + 2) 250 7 [.ref 55, .int p1, .int p2, .int p3, pu, pu, pu] [.int r4] (hpS s3) _
    refine Ex.i1 hq rfl (fun c => ?_) (fun c => ?_)
    · have k := k.1 c
      refine Ex.seg hq 3 (j := 13) (L' := [.ref 55, .int p1, .int p2, .int p3, pu, pu, pu]) (S' := [.int (s3.1 5500), .ref 55]) (h' := hpS s3) rfl ?_
      refine Ex.cl hq rfl rfl ?_
      refine Rn.mono (q_197 (d := d + 0) (s3.1 5500) s3 k) ?_
      rintro _ _ ⟨s5, rfl, rfl, k⟩
      show Ex sc (d + 2) 250 14 [.ref 55, .int p1, .int p2, .int p3, pu, pu, pu] [] (hpS s5) _
      refine Ex.seg hq 1 (j := 15) (L' := [.ref 55, .int p1, .int p2, .int p3, pu, pu, pu]) (S' := [.ref 55]) (h' := hpS s5) rfl ?_
      refine Ex.cl hq rfl rfl ?_
      refine Rn.mono (q_248 (d := d + 0) s5 k) ?_
      rintro _ _ ⟨s7, rfl, rfl, k⟩
      show Ex sc (d + 2) 250 16 [.ref 55, .int p1, .int p2, .int p3, pu, pu, pu] [] (hpS s7) _
      refine Ex.seg hq 1 (j := 17) (L' := [.ref 55, .int p1, .int p2, .int p3, pu, pu, pu]) (S' := [.ref 55]) (h' := hpS s7) rfl ?_
      refine Ex.cl hq rfl rfl ?_
      refine Rn.mono (q_247 (d := d + 1) s7 k) ?_
      rintro _ _ ⟨r10, s9, rfl, rfl, k⟩
      show Ex sc (d + 2) 250 18 [.ref 55, .int p1, .int p2, .int p3, pu, pu, pu] [.int r10] (hpS s9) _
      refine Ex.seg hq 3 (j := 21) (L' := [.ref 55, .int p1, .int p2, .int p3, .int r10, .int (0 : Int32), pu]) (S' := []) (h' := hpS s9) rfl ?_
      obtain ⟨m, k⟩ := k
      refine q_250_L21 (d := d) m p1 p2 p3 r10 (0 : Int32) s9 k ?_
      · intro y1 y3 y4 s15 k
        refine Ex.seg hq 1 (j := 47) (L' := [.ref 55, .int y1, pu, .int y3, .int y4, pu, pu]) (S' := [.int y3]) (h' := hpS s15) rfl ?_
        refine Ex.i1 hq rfl (fun c => ?_) (fun c => ?_)
        · have k := k.1 c
          refine Ex.seg hq 3 (j := 56) (L' := [.ref 55, .int y1, pu, .int y3, .int y4, pu, pu]) (S' := [.int y1, .ref 56]) (h' := hpS s15) rfl ?_
          obtain ⟨hin, k⟩ := k
          refine Ex.ial hq rfl rfl hin ?_
          refine Ex.seg hq 3 (j := 60) (L' := [.ref 55, .int y1, pu, .int y3, .int y4, .int ((s15.2.1 56) (y1).toNatClampNeg), .int (1 : Int32)]) (S' := []) (h' := hpS s15) rfl ?_
          obtain ⟨m, k⟩ := k
          refine q_250_L60 (d := d) m y1 y3 y4 ((s15.2.1 56) (y1).toNatClampNeg) (1 : Int32) s15 k ?_
          · intro y1 y3 y5 s18 k
            refine Ex.seg hq 1 (j := 78) (L' := [.ref 55, .int y1, pu, .int y3, pu, .int y5, pu]) (S' := [.int y3]) (h' := hpS s18) rfl ?_
            refine Ex.i1 hq rfl (fun c => ?_) (fun c => ?_)
            · have k := k.1 c
              refine Ex.seg hq 1 (j := 87) (L' := [.ref 55, .int y1, pu, .int y3, pu, .int y5, pu]) (S' := [.int y5]) (h' := hpS s18) rfl ?_
              exact Ex.rt hq rfl rfl ⟨y5, s18, rfl, rfl, k⟩
            · have k := k.2 c
              refine Ex.seg hq 3 (j := 82) (L' := [.ref 55, .int y1, pu, .int y3, pu, .int y5, pu]) (S' := [.int y1, .ref 56]) (h' := hpS s18) rfl ?_
              obtain ⟨hin, k⟩ := k
              refine Ex.ial hq rfl rfl hin ?_
              refine Ex.seg hq 3 (j := 87) (L' := [.ref 55, .int y1, pu, .int y3, pu, .int y5, pu]) (S' := [.int (((s18.2.1 56) (y1).toNatClampNeg) - y5)]) (h' := hpS s18) rfl ?_
              exact Ex.rt hq rfl rfl ⟨(((s18.2.1 56) (y1).toNatClampNeg) - y5), s18, rfl, rfl, k⟩
        · have k := k.2 c
          refine Ex.seg hq 4 (j := 52) (L' := [.ref 55, .int y1, pu, .int y3, .int y4, pu, pu]) (S' := [.int (1000000000 : Int32), .int y4, .int (0 : Int32), .ref 55]) (h' := hpS s15) rfl ?_
          refine Ex.cl hq rfl rfl ?_
          refine Rn.mono (q_246 (d := d + 1) (0 : Int32) y4 (1000000000 : Int32) s15 k) ?_
          rintro _ _ ⟨s19, rfl, rfl, k⟩
          show Ex sc (d + 2) 250 53 [.ref 55, .int y1, pu, .int y3, .int y4, pu, pu] [] (hpS s19) _
          refine Ex.seg hq 3 (j := 56) (L' := [.ref 55, .int y1, pu, .int y3, .int y4, pu, pu]) (S' := [.int y1, .ref 56]) (h' := hpS s19) rfl ?_
          obtain ⟨hin, k⟩ := k
          refine Ex.ial hq rfl rfl hin ?_
          refine Ex.seg hq 3 (j := 60) (L' := [.ref 55, .int y1, pu, .int y3, .int y4, .int ((s19.2.1 56) (y1).toNatClampNeg), .int (1 : Int32)]) (S' := []) (h' := hpS s19) rfl ?_
          obtain ⟨m, k⟩ := k
          refine q_250_L60 (d := d) m y1 y3 y4 ((s19.2.1 56) (y1).toNatClampNeg) (1 : Int32) s19 k ?_
          · intro y1 y3 y5 s21 k
            refine Ex.seg hq 1 (j := 78) (L' := [.ref 55, .int y1, pu, .int y3, pu, .int y5, pu]) (S' := [.int y3]) (h' := hpS s21) rfl ?_
            refine Ex.i1 hq rfl (fun c => ?_) (fun c => ?_)
            · have k := k.1 c
              refine Ex.seg hq 1 (j := 87) (L' := [.ref 55, .int y1, pu, .int y3, pu, .int y5, pu]) (S' := [.int y5]) (h' := hpS s21) rfl ?_
              exact Ex.rt hq rfl rfl ⟨y5, s21, rfl, rfl, k⟩
            · have k := k.2 c
              refine Ex.seg hq 3 (j := 82) (L' := [.ref 55, .int y1, pu, .int y3, pu, .int y5, pu]) (S' := [.int y1, .ref 56]) (h' := hpS s21) rfl ?_
              obtain ⟨hin, k⟩ := k
              refine Ex.ial hq rfl rfl hin ?_
              refine Ex.seg hq 3 (j := 87) (L' := [.ref 55, .int y1, pu, .int y3, pu, .int y5, pu]) (S' := [.int (((s21.2.1 56) (y1).toNatClampNeg) - y5)]) (h' := hpS s21) rfl ?_
              exact Ex.rt hq rfl rfl ⟨(((s21.2.1 56) (y1).toNatClampNeg) - y5), s21, rfl, rfl, k⟩
    · have k := k.2 c
      refine Ex.seg hq 1 (j := 9) (L' := [.ref 55, .int p1, .int p2, .int p3, pu, pu, pu]) (S' := [.int (-1 : Int32)]) (h' := hpS s3) rfl ?_
      exact Ex.rt hq rfl rfl ⟨(-1 : Int32), s3, rfl, rfl, k⟩
end WP
