/-! ===== weakest preconditions, printed by wip/whole/genwp.py ===== -/
section WP
variable {sc : Nat × (Nat → Int32)}
def w_21_L4 : Nat → Nat → Int32 → Int32 → ST → (Int32 → ST → Prop) → (ST → Prop) → (ST → Prop) → (ST → Prop) → (Int32 → ST → Prop) → Prop
  | 0, _, _, _, _, _, _, _, _, _ => False
  | n + 1, x1, x2, x3, s, X147, X30, X54, X122, K => (∃ n1 f2, prow s.2.2.2.2 x1 0 = some (n1, f2) ∧ (((Int32.ofNat n1) ≤ x3 → X147 x2 s) ∧ (¬ ((Int32.ofNat n1) ≤ x3) → (∃ n3 f4, prow s.2.2.2.2 x1 0 = some (n3, f4) ∧ pin x3 n3 = true ∧ (∃ n5 f6, prow s.2.2.2.2 x1 0 = some (n5, f6) ∧ pin x3 n5 = true ∧ ((((f4 (x3).toNatClampNeg) &&& (15 : Int32)) = 0 → ((x2 < (Int32.ofNat 160) → ((¬ ((f4 (x3).toNatClampNeg) &&& (15 : Int32)) = 0 → w_22 ((f6 (x3).toNatClampNeg) >>> ((4 : Int32) &&& 31)) s (fun r8 s7 => (pin x2 160 = true ∧ w_21_L4 n x1 (x2 + (1 : Int32)) (x3 + (1 : Int32)) (sL s7 18 (vp_updL (s7.2.2.1 18) (x2).toNatClampNeg r8)) X147 X30 X54 X122 K))) ∧ (¬ (¬ ((f4 (x3).toNatClampNeg) &&& (15 : Int32)) = 0) → (pin x2 160 = true ∧ w_21_L4 n x1 (x2 + (1 : Int32)) (x3 + (1 : Int32)) (sL s 18 (vp_updL (s.2.2.1 18) (x2).toNatClampNeg ((((f6 (x3).toNatClampNeg) >>> ((4 : Int32) &&& 31))).toInt64))) X147 X30 X54 X122 K)))) ∧ (¬ (x2 < (Int32.ofNat 160)) → X30  s))) ∧ (¬ (((f4 (x3).toNatClampNeg) &&& (15 : Int32)) = 0) → ((¬ ((f4 (x3).toNatClampNeg) &&& (15 : Int32)) = (1 : Int32) → ((x2 < (1 : Int32) → X54  s) ∧ (¬ (x2 < (1 : Int32)) → ((x2 ≤ (Int32.ofNat 160) → ((¬ ((f4 (x3).toNatClampNeg) &&& (15 : Int32)) = (2 : Int32) → ((((f4 (x3).toNatClampNeg) &&& (15 : Int32)) = (3 : Int32) → (pin (x2 - (1 : Int32)) 160 = true ∧ (((lg_cmp ((s.2.2.1 18) ((x2 - (1 : Int32))).toNatClampNeg) (0 : Int64)) = 0 → ((¬ ((f4 (x3).toNatClampNeg) &&& (15 : Int32)) = (4 : Int32) → ((¬ (0 : Int32) = (0 : Int32) → w_21_L4 n x1 (x2 + (-1 : Int32)) (x3 + (1 : Int32)) s X147 X30 X54 X122 K) ∧ (¬ (¬ (0 : Int32) = (0 : Int32)) → w_21_L4 n x1 x2 ((if x3 < (((f6 (x3).toNatClampNeg) >>> ((4 : Int32) &&& 31)) - (1 : Int32)) then (((f6 (x3).toNatClampNeg) >>> ((4 : Int32) &&& 31)) - (1 : Int32)) else x3) + (1 : Int32)) s X147 X30 X54 X122 K))) ∧ (¬ (¬ ((f4 (x3).toNatClampNeg) &&& (15 : Int32)) = (4 : Int32)) → ((¬ (0 : Int32) = (1 : Int32) → w_21_L4 n x1 (x2 + (-1 : Int32)) (x3 + (1 : Int32)) s X147 X30 X54 X122 K) ∧ (¬ (¬ (0 : Int32) = (1 : Int32)) → w_21_L4 n x1 x2 ((if x3 < (((f6 (x3).toNatClampNeg) >>> ((4 : Int32) &&& 31)) - (1 : Int32)) then (((f6 (x3).toNatClampNeg) >>> ((4 : Int32) &&& 31)) - (1 : Int32)) else x3) + (1 : Int32)) s X147 X30 X54 X122 K))))) ∧ (¬ ((lg_cmp ((s.2.2.1 18) ((x2 - (1 : Int32))).toNatClampNeg) (0 : Int64)) = 0) → ((¬ ((f4 (x3).toNatClampNeg) &&& (15 : Int32)) = (4 : Int32) → ((¬ (1 : Int32) = (0 : Int32) → w_21_L4 n x1 (x2 + (-1 : Int32)) (x3 + (1 : Int32)) s X147 X30 X54 X122 K) ∧ (¬ (¬ (1 : Int32) = (0 : Int32)) → w_21_L4 n x1 x2 ((if x3 < (((f6 (x3).toNatClampNeg) >>> ((4 : Int32) &&& 31)) - (1 : Int32)) then (((f6 (x3).toNatClampNeg) >>> ((4 : Int32) &&& 31)) - (1 : Int32)) else x3) + (1 : Int32)) s X147 X30 X54 X122 K))) ∧ (¬ (¬ ((f4 (x3).toNatClampNeg) &&& (15 : Int32)) = (4 : Int32)) → ((¬ (1 : Int32) = (1 : Int32) → w_21_L4 n x1 (x2 + (-1 : Int32)) (x3 + (1 : Int32)) s X147 X30 X54 X122 K) ∧ (¬ (¬ (1 : Int32) = (1 : Int32)) → w_21_L4 n x1 x2 ((if x3 < (((f6 (x3).toNatClampNeg) >>> ((4 : Int32) &&& 31)) - (1 : Int32)) then (((f6 (x3).toNatClampNeg) >>> ((4 : Int32) &&& 31)) - (1 : Int32)) else x3) + (1 : Int32)) s X147 X30 X54 X122 K)))))))) ∧ (¬ (((f4 (x3).toNatClampNeg) &&& (15 : Int32)) = (3 : Int32)) → ((¬ ((f4 (x3).toNatClampNeg) &&& (15 : Int32)) = (4 : Int32) → ((x2 < (2 : Int32) → X122  s) ∧ (¬ (x2 < (2 : Int32)) → (pin (x2 - (1 : Int32)) 160 = true ∧ w_23 ((f4 (x3).toNatClampNeg) &&& (15 : Int32)) ((s.2.2.1 18) ((x2 - (1 : Int32))).toNatClampNeg) s (fun r10 s9 => ((r10 = 0 → (pin (x2 - (2 : Int32)) 160 = true ∧ (pin (x2 - (1 : Int32)) 160 = true ∧ w_24 ((f4 (x3).toNatClampNeg) &&& (15 : Int32)) ((s9.2.2.1 18) ((x2 - (2 : Int32))).toNatClampNeg) ((s9.2.2.1 18) ((x2 - (1 : Int32))).toNatClampNeg) s9 (fun r12 s11 => (pin (x2 - (2 : Int32)) 160 = true ∧ w_21_L4 n x1 (x2 + (-1 : Int32)) (x3 + (1 : Int32)) (sL s11 18 (vp_updL (s11.2.2.1 18) ((x2 - (2 : Int32))).toNatClampNeg r12)) X147 X30 X54 X122 K))))) ∧ (¬ (r10 = 0) → X122  s9))))))) ∧ (¬ (¬ ((f4 (x3).toNatClampNeg) &&& (15 : Int32)) = (4 : Int32)) → (pin (x2 - (1 : Int32)) 160 = true ∧ (((lg_cmp ((s.2.2.1 18) ((x2 - (1 : Int32))).toNatClampNeg) (0 : Int64)) = 0 → ((¬ ((f4 (x3).toNatClampNeg) &&& (15 : Int32)) = (4 : Int32) → ((¬ (0 : Int32) = (0 : Int32) → w_21_L4 n x1 (x2 + (-1 : Int32)) (x3 + (1 : Int32)) s X147 X30 X54 X122 K) ∧ (¬ (¬ (0 : Int32) = (0 : Int32)) → w_21_L4 n x1 x2 ((if x3 < (((f6 (x3).toNatClampNeg) >>> ((4 : Int32) &&& 31)) - (1 : Int32)) then (((f6 (x3).toNatClampNeg) >>> ((4 : Int32) &&& 31)) - (1 : Int32)) else x3) + (1 : Int32)) s X147 X30 X54 X122 K))) ∧ (¬ (¬ ((f4 (x3).toNatClampNeg) &&& (15 : Int32)) = (4 : Int32)) → ((¬ (0 : Int32) = (1 : Int32) → w_21_L4 n x1 (x2 + (-1 : Int32)) (x3 + (1 : Int32)) s X147 X30 X54 X122 K) ∧ (¬ (¬ (0 : Int32) = (1 : Int32)) → w_21_L4 n x1 x2 ((if x3 < (((f6 (x3).toNatClampNeg) >>> ((4 : Int32) &&& 31)) - (1 : Int32)) then (((f6 (x3).toNatClampNeg) >>> ((4 : Int32) &&& 31)) - (1 : Int32)) else x3) + (1 : Int32)) s X147 X30 X54 X122 K))))) ∧ (¬ ((lg_cmp ((s.2.2.1 18) ((x2 - (1 : Int32))).toNatClampNeg) (0 : Int64)) = 0) → ((¬ ((f4 (x3).toNatClampNeg) &&& (15 : Int32)) = (4 : Int32) → ((¬ (1 : Int32) = (0 : Int32) → w_21_L4 n x1 (x2 + (-1 : Int32)) (x3 + (1 : Int32)) s X147 X30 X54 X122 K) ∧ (¬ (¬ (1 : Int32) = (0 : Int32)) → w_21_L4 n x1 x2 ((if x3 < (((f6 (x3).toNatClampNeg) >>> ((4 : Int32) &&& 31)) - (1 : Int32)) then (((f6 (x3).toNatClampNeg) >>> ((4 : Int32) &&& 31)) - (1 : Int32)) else x3) + (1 : Int32)) s X147 X30 X54 X122 K))) ∧ (¬ (¬ ((f4 (x3).toNatClampNeg) &&& (15 : Int32)) = (4 : Int32)) → ((¬ (1 : Int32) = (1 : Int32) → w_21_L4 n x1 (x2 + (-1 : Int32)) (x3 + (1 : Int32)) s X147 X30 X54 X122 K) ∧ (¬ (¬ (1 : Int32) = (1 : Int32)) → w_21_L4 n x1 x2 ((if x3 < (((f6 (x3).toNatClampNeg) >>> ((4 : Int32) &&& 31)) - (1 : Int32)) then (((f6 (x3).toNatClampNeg) >>> ((4 : Int32) &&& 31)) - (1 : Int32)) else x3) + (1 : Int32)) s X147 X30 X54 X122 K)))))))))))) ∧ (¬ (¬ ((f4 (x3).toNatClampNeg) &&& (15 : Int32)) = (2 : Int32)) → (pin (x2 - (1 : Int32)) 160 = true ∧ (pin (x2 - (1 : Int32)) 160 = true ∧ w_21_L4 n x1 x2 (x3 + (1 : Int32)) (sL s 18 (vp_updL (s.2.2.1 18) ((x2 - (1 : Int32))).toNatClampNeg ((1 : Int64) - ((s.2.2.1 18) ((x2 - (1 : Int32))).toNatClampNeg)))) X147 X30 X54 X122 K))))) ∧ (¬ (x2 ≤ (Int32.ofNat 160)) → X54  s))))) ∧ (¬ (¬ ((f4 (x3).toNatClampNeg) &&& (15 : Int32)) = (1 : Int32)) → ((x2 < (Int32.ofNat 160) → ((¬ ((f4 (x3).toNatClampNeg) &&& (15 : Int32)) = 0 → w_22 ((f6 (x3).toNatClampNeg) >>> ((4 : Int32) &&& 31)) s (fun r14 s13 => (pin x2 160 = true ∧ w_21_L4 n x1 (x2 + (1 : Int32)) (x3 + (1 : Int32)) (sL s13 18 (vp_updL (s13.2.2.1 18) (x2).toNatClampNeg r14)) X147 X30 X54 X122 K))) ∧ (¬ (¬ ((f4 (x3).toNatClampNeg) &&& (15 : Int32)) = 0) → (pin x2 160 = true ∧ w_21_L4 n x1 (x2 + (1 : Int32)) (x3 + (1 : Int32)) (sL s 18 (vp_updL (s.2.2.1 18) (x2).toNatClampNeg ((((f6 (x3).toNatClampNeg) >>> ((4 : Int32) &&& 31))).toInt64))) X147 X30 X54 X122 K)))) ∧ (¬ (x2 < (Int32.ofNat 160)) → X30  s)))))))))))
theorem q_21_L4 {d : Nat} {X147 : Int32 → ST → Prop} {X30 : ST → Prop} {X54 : ST → Prop} {X122 : ST → Prop} {K : Int32 → ST → Prop} : ∀ (n : Nat) (x1 : Nat) (x2 : Int32) (x3 : Int32) (s : ST), w_21_L4 n x1 x2 x3 s X147 X30 X54 X122 K → (∀ (y2 : Int32) (s : ST), X147 y2 s → Ex sc (d + 1) 21 147 [.ref 16, pu, .int y2, pu, pu, pu, pu] [] (hpS s) (kZ K)) → (∀ (s : ST), X30  s → Ex sc (d + 1) 21 30 [pu, pu, pu, pu, pu, pu, pu] [] (hpS s) (kZ K)) → (∀ (s : ST), X54  s → Ex sc (d + 1) 21 54 [pu, pu, pu, pu, pu, pu, pu] [] (hpS s) (kZ K)) → (∀ (s : ST), X122  s → Ex sc (d + 1) 21 122 [pu, pu, pu, pu, pu, pu, pu] [] (hpS s) (kZ K)) → Ex sc (d + 1) 21 4 [.ref 16, .ref (x1 + 118), .int x2, .int x3, pu, pu, pu] [] (hpS s) (kZ K) := by
  have hq : prog[21]? = some pm21 := rfl
  intro n
  induction n with
  | zero =>
    intro x1 x2 x3 s k
    exact k.elim
  | succ n ih =>
    intro x1 x2 x3 s k hX147 hX30 hX54 hX122
    rw [w_21_L4] at k
    refine Ex.seg hq 2 (j := 6) (L' := [.ref 16, .ref (x1 + 118), .int x2, .int x3, pu, pu, pu]) (S' := [.ref (x1 + 118), .int x3]) (h' := hpS s) rfl ?_
    obtain ⟨n1, f2, e, k⟩ := k
    refine Ex.lnd hq rfl e ?_
    refine Ex.i2 hq rfl (fun c => ?_) (fun c => ?_)
    · have k := k.1 c
      refine Ex.fg (L := [.ref 16, pu, .int x2, pu, pu, pu, pu]) ⟨Or.inl rfl, ⟨Or.inr ⟨rfl, rfl⟩, ⟨Or.inl rfl, ⟨Or.inr ⟨rfl, rfl⟩, ⟨Or.inl rfl, ⟨Or.inl rfl, ⟨Or.inl rfl, trivial⟩⟩⟩⟩⟩⟩⟩ ?_
      exact hX147 x2 s k
    · have k := k.2 c
      refine Ex.seg hq 2 (j := 10) (L' := [.ref 16, .ref (x1 + 118), .int x2, .int x3, pu, pu, pu]) (S' := [.int x3, .ref (x1 + 118)]) (h' := hpS s) rfl ?_
      obtain ⟨n3, f4, e, hin, k⟩ := k
      refine Ex.iad hq rfl e hin ?_
      refine Ex.seg hq 5 (j := 16) (L' := [.ref 16, .ref (x1 + 118), .int x2, .int x3, .int ((f4 (x3).toNatClampNeg) &&& (15 : Int32)), pu, pu]) (S' := [.int x3, .ref (x1 + 118)]) (h' := hpS s) rfl ?_
      obtain ⟨n5, f6, e, hin, k⟩ := k
      refine Ex.iad hq rfl e hin ?_
      refine Ex.seg hq 4 (j := 21) (L' := [.ref 16, .ref (x1 + 118), .int x2, .int x3, .int ((f4 (x3).toNatClampNeg) &&& (15 : Int32)), .int ((f6 (x3).toNatClampNeg) >>> ((4 : Int32) &&& 31)), pu]) (S' := [.int ((f4 (x3).toNatClampNeg) &&& (15 : Int32))]) (h' := hpS s) rfl ?_
      refine Ex.i1 hq rfl (fun c => ?_) (fun c => ?_)
      · have k := k.1 c
        refine Ex.seg hq 4 (j := 29) (L' := [.ref 16, .ref (x1 + 118), .int x2, .int x3, .int ((f4 (x3).toNatClampNeg) &&& (15 : Int32)), .int ((f6 (x3).toNatClampNeg) >>> ((4 : Int32) &&& 31)), pu]) (S' := [.int (Int32.ofNat 160), .int x2]) (h' := hpS s) rfl ?_
        refine Ex.i2 hq rfl (fun c => ?_) (fun c => ?_)
        · have k := k.1 c
          refine Ex.seg hq 4 (j := 36) (L' := [.ref 16, .ref (x1 + 118), .int x2, .int x3, .int ((f4 (x3).toNatClampNeg) &&& (15 : Int32)), .int ((f6 (x3).toNatClampNeg) >>> ((4 : Int32) &&& 31)), pu]) (S' := [.int ((f4 (x3).toNatClampNeg) &&& (15 : Int32)), .int x2, .ref 18]) (h' := hpS s) rfl ?_
          refine Ex.i1 hq rfl (fun c => ?_) (fun c => ?_)
          · have k := k.1 c
            refine Ex.seg hq 2 (j := 42) (L' := [.ref 16, .ref (x1 + 118), .int x2, .int x3, .int ((f4 (x3).toNatClampNeg) &&& (15 : Int32)), .int ((f6 (x3).toNatClampNeg) >>> ((4 : Int32) &&& 31)), pu]) (S' := [.int ((f6 (x3).toNatClampNeg) >>> ((4 : Int32) &&& 31)), .ref 16, .int x2, .ref 18]) (h' := hpS s) rfl ?_
            refine Ex.cl hq rfl rfl ?_
            refine Rn.mono (q_22 (d := d + 0) ((f6 (x3).toNatClampNeg) >>> ((4 : Int32) &&& 31)) s k) ?_
            rintro _ _ ⟨r8, s7, rfl, rfl, k⟩
            show Ex sc (d + 1) 21 43 [.ref 16, .ref (x1 + 118), .int x2, .int x3, .int ((f4 (x3).toNatClampNeg) &&& (15 : Int32)), .int ((f6 (x3).toNatClampNeg) >>> ((4 : Int32) &&& 31)), pu] [.long r8, .int x2, .ref 18] (hpS s7) _
            obtain ⟨hin, k⟩ := k
            refine Ex.las hq rfl rfl hin (h' := hpS (sL s7 18 (vp_updL (s7.2.2.1 18) (x2).toNatClampNeg r8))) (hset_18 _ _) ?_
            refine Ex.seg hq 4 (j := 4) (L' := [.ref 16, .ref (x1 + 118), .int (x2 + (1 : Int32)), .int (x3 + (1 : Int32)), .int ((f4 (x3).toNatClampNeg) &&& (15 : Int32)), .int ((f6 (x3).toNatClampNeg) >>> ((4 : Int32) &&& 31)), pu]) (S' := []) (h' := hpS (sL s7 18 (vp_updL (s7.2.2.1 18) (x2).toNatClampNeg r8))) rfl ?_
            refine Ex.fg (L := [.ref 16, .ref (x1 + 118), .int (x2 + (1 : Int32)), .int (x3 + (1 : Int32)), pu, pu, pu]) ⟨Or.inl rfl, ⟨Or.inl rfl, ⟨Or.inl rfl, ⟨Or.inl rfl, ⟨Or.inr ⟨rfl, rfl⟩, ⟨Or.inr ⟨rfl, rfl⟩, ⟨Or.inl rfl, trivial⟩⟩⟩⟩⟩⟩⟩ ?_
            exact ih x1 (x2 + (1 : Int32)) (x3 + (1 : Int32)) (sL s7 18 (vp_updL (s7.2.2.1 18) (x2).toNatClampNeg r8)) k hX147 hX30 hX54 hX122
          · have k := k.2 c
            refine Ex.seg hq 3 (j := 43) (L' := [.ref 16, .ref (x1 + 118), .int x2, .int x3, .int ((f4 (x3).toNatClampNeg) &&& (15 : Int32)), .int ((f6 (x3).toNatClampNeg) >>> ((4 : Int32) &&& 31)), pu]) (S' := [.long ((((f6 (x3).toNatClampNeg) >>> ((4 : Int32) &&& 31))).toInt64), .int x2, .ref 18]) (h' := hpS s) rfl ?_
            obtain ⟨hin, k⟩ := k
            refine Ex.las hq rfl rfl hin (h' := hpS (sL s 18 (vp_updL (s.2.2.1 18) (x2).toNatClampNeg ((((f6 (x3).toNatClampNeg) >>> ((4 : Int32) &&& 31))).toInt64)))) (hset_18 _ _) ?_
            refine Ex.seg hq 4 (j := 4) (L' := [.ref 16, .ref (x1 + 118), .int (x2 + (1 : Int32)), .int (x3 + (1 : Int32)), .int ((f4 (x3).toNatClampNeg) &&& (15 : Int32)), .int ((f6 (x3).toNatClampNeg) >>> ((4 : Int32) &&& 31)), pu]) (S' := []) (h' := hpS (sL s 18 (vp_updL (s.2.2.1 18) (x2).toNatClampNeg ((((f6 (x3).toNatClampNeg) >>> ((4 : Int32) &&& 31))).toInt64)))) rfl ?_
            refine Ex.fg (L := [.ref 16, .ref (x1 + 118), .int (x2 + (1 : Int32)), .int (x3 + (1 : Int32)), pu, pu, pu]) ⟨Or.inl rfl, ⟨Or.inl rfl, ⟨Or.inl rfl, ⟨Or.inl rfl, ⟨Or.inr ⟨rfl, rfl⟩, ⟨Or.inr ⟨rfl, rfl⟩, ⟨Or.inl rfl, trivial⟩⟩⟩⟩⟩⟩⟩ ?_
            exact ih x1 (x2 + (1 : Int32)) (x3 + (1 : Int32)) (sL s 18 (vp_updL (s.2.2.1 18) (x2).toNatClampNeg ((((f6 (x3).toNatClampNeg) >>> ((4 : Int32) &&& 31))).toInt64))) k hX147 hX30 hX54 hX122
        · have k := k.2 c
          refine Ex.fg (L := [pu, pu, pu, pu, pu, pu, pu]) ⟨Or.inr ⟨rfl, rfl⟩, ⟨Or.inr ⟨rfl, rfl⟩, ⟨Or.inr ⟨rfl, rfl⟩, ⟨Or.inr ⟨rfl, rfl⟩, ⟨Or.inr ⟨rfl, rfl⟩, ⟨Or.inr ⟨rfl, rfl⟩, ⟨Or.inl rfl, trivial⟩⟩⟩⟩⟩⟩⟩ ?_
          exact hX30  s k
      · have k := k.2 c
        refine Ex.seg hq 2 (j := 24) (L' := [.ref 16, .ref (x1 + 118), .int x2, .int x3, .int ((f4 (x3).toNatClampNeg) &&& (15 : Int32)), .int ((f6 (x3).toNatClampNeg) >>> ((4 : Int32) &&& 31)), pu]) (S' := [.int (1 : Int32), .int ((f4 (x3).toNatClampNeg) &&& (15 : Int32))]) (h' := hpS s) rfl ?_
        refine Ex.i2 hq rfl (fun c => ?_) (fun c => ?_)
        · have k := k.1 c
          refine Ex.seg hq 2 (j := 48) (L' := [.ref 16, .ref (x1 + 118), .int x2, .int x3, .int ((f4 (x3).toNatClampNeg) &&& (15 : Int32)), .int ((f6 (x3).toNatClampNeg) >>> ((4 : Int32) &&& 31)), pu]) (S' := [.int (1 : Int32), .int x2]) (h' := hpS s) rfl ?_
          refine Ex.i2 hq rfl (fun c => ?_) (fun c => ?_)
          · have k := k.1 c
            refine Ex.fg (L := [pu, pu, pu, pu, pu, pu, pu]) ⟨Or.inr ⟨rfl, rfl⟩, ⟨Or.inr ⟨rfl, rfl⟩, ⟨Or.inr ⟨rfl, rfl⟩, ⟨Or.inr ⟨rfl, rfl⟩, ⟨Or.inr ⟨rfl, rfl⟩, ⟨Or.inr ⟨rfl, rfl⟩, ⟨Or.inl rfl, trivial⟩⟩⟩⟩⟩⟩⟩ ?_
            exact hX54  s k
          · have k := k.2 c
            refine Ex.seg hq 4 (j := 53) (L' := [.ref 16, .ref (x1 + 118), .int x2, .int x3, .int ((f4 (x3).toNatClampNeg) &&& (15 : Int32)), .int ((f6 (x3).toNatClampNeg) >>> ((4 : Int32) &&& 31)), pu]) (S' := [.int (Int32.ofNat 160), .int x2]) (h' := hpS s) rfl ?_
            refine Ex.i2 hq rfl (fun c => ?_) (fun c => ?_)
            · have k := k.1 c
              refine Ex.seg hq 2 (j := 58) (L' := [.ref 16, .ref (x1 + 118), .int x2, .int x3, .int ((f4 (x3).toNatClampNeg) &&& (15 : Int32)), .int ((f6 (x3).toNatClampNeg) >>> ((4 : Int32) &&& 31)), pu]) (S' := [.int (2 : Int32), .int ((f4 (x3).toNatClampNeg) &&& (15 : Int32))]) (h' := hpS s) rfl ?_
              refine Ex.i2 hq rfl (fun c => ?_) (fun c => ?_)
              · have k := k.1 c
                refine Ex.seg hq 2 (j := 76) (L' := [.ref 16, .ref (x1 + 118), .int x2, .int x3, .int ((f4 (x3).toNatClampNeg) &&& (15 : Int32)), .int ((f6 (x3).toNatClampNeg) >>> ((4 : Int32) &&& 31)), pu]) (S' := [.int (3 : Int32), .int ((f4 (x3).toNatClampNeg) &&& (15 : Int32))]) (h' := hpS s) rfl ?_
                refine Ex.i2 hq rfl (fun c => ?_) (fun c => ?_)
                · have k := k.1 c
                  refine Ex.seg hq 5 (j := 85) (L' := [.ref 16, .ref (x1 + 118), .int x2, .int x3, .int ((f4 (x3).toNatClampNeg) &&& (15 : Int32)), .int ((f6 (x3).toNatClampNeg) >>> ((4 : Int32) &&& 31)), pu]) (S' := [.int (x2 - (1 : Int32)), .ref 18]) (h' := hpS s) rfl ?_
                  obtain ⟨hin, k⟩ := k
                  refine Ex.lal hq rfl rfl hin ?_
                  refine Ex.seg hq 2 (j := 88) (L' := [.ref 16, .ref (x1 + 118), .int x2, .int x3, .int ((f4 (x3).toNatClampNeg) &&& (15 : Int32)), .int ((f6 (x3).toNatClampNeg) >>> ((4 : Int32) &&& 31)), pu]) (S' := [.int (lg_cmp ((s.2.2.1 18) ((x2 - (1 : Int32))).toNatClampNeg) (0 : Int64))]) (h' := hpS s) rfl ?_
                  refine Ex.i1 hq rfl (fun c => ?_) (fun c => ?_)
                  · have k := k.1 c
                    refine Ex.seg hq 5 (j := 96) (L' := [.ref 16, .ref (x1 + 118), .int x2, .int x3, .int ((f4 (x3).toNatClampNeg) &&& (15 : Int32)), .int ((f6 (x3).toNatClampNeg) >>> ((4 : Int32) &&& 31)), .int (0 : Int32)]) (S' := [.int (4 : Int32), .int ((f4 (x3).toNatClampNeg) &&& (15 : Int32)), .int (0 : Int32)]) (h' := hpS s) rfl ?_
                    refine Ex.i2 hq rfl (fun c => ?_) (fun c => ?_)
                    · have k := k.1 c
                      refine Ex.seg hq 1 (j := 100) (L' := [.ref 16, .ref (x1 + 118), .int x2, .int x3, .int ((f4 (x3).toNatClampNeg) &&& (15 : Int32)), .int ((f6 (x3).toNatClampNeg) >>> ((4 : Int32) &&& 31)), .int (0 : Int32)]) (S' := [.int (0 : Int32), .int (0 : Int32)]) (h' := hpS s) rfl ?_
                      refine Ex.i2 hq rfl (fun c => ?_) (fun c => ?_)
                      · have k := k.1 c
                        refine Ex.seg hq 4 (j := 4) (L' := [.ref 16, .ref (x1 + 118), .int (x2 + (-1 : Int32)), .int (x3 + (1 : Int32)), .int ((f4 (x3).toNatClampNeg) &&& (15 : Int32)), .int ((f6 (x3).toNatClampNeg) >>> ((4 : Int32) &&& 31)), .int (0 : Int32)]) (S' := []) (h' := hpS s) rfl ?_
                        refine Ex.fg (L := [.ref 16, .ref (x1 + 118), .int (x2 + (-1 : Int32)), .int (x3 + (1 : Int32)), pu, pu, pu]) ⟨Or.inl rfl, ⟨Or.inl rfl, ⟨Or.inl rfl, ⟨Or.inl rfl, ⟨Or.inr ⟨rfl, rfl⟩, ⟨Or.inr ⟨rfl, rfl⟩, ⟨Or.inr ⟨rfl, rfl⟩, trivial⟩⟩⟩⟩⟩⟩⟩ ?_
                        exact ih x1 (x2 + (-1 : Int32)) (x3 + (1 : Int32)) s k hX147 hX30 hX54 hX122
                      · have k := k.2 c
                        refine Ex.seg hq 10 (j := 4) (L' := [.ref 16, .ref (x1 + 118), .int x2, .int ((if x3 < (((f6 (x3).toNatClampNeg) >>> ((4 : Int32) &&& 31)) - (1 : Int32)) then (((f6 (x3).toNatClampNeg) >>> ((4 : Int32) &&& 31)) - (1 : Int32)) else x3) + (1 : Int32)), .int ((f4 (x3).toNatClampNeg) &&& (15 : Int32)), .int ((f6 (x3).toNatClampNeg) >>> ((4 : Int32) &&& 31)), .int (0 : Int32)]) (S' := []) (h' := hpS s) rfl ?_
                        refine Ex.fg (L := [.ref 16, .ref (x1 + 118), .int x2, .int ((if x3 < (((f6 (x3).toNatClampNeg) >>> ((4 : Int32) &&& 31)) - (1 : Int32)) then (((f6 (x3).toNatClampNeg) >>> ((4 : Int32) &&& 31)) - (1 : Int32)) else x3) + (1 : Int32)), pu, pu, pu]) ⟨Or.inl rfl, ⟨Or.inl rfl, ⟨Or.inl rfl, ⟨Or.inl rfl, ⟨Or.inr ⟨rfl, rfl⟩, ⟨Or.inr ⟨rfl, rfl⟩, ⟨Or.inr ⟨rfl, rfl⟩, trivial⟩⟩⟩⟩⟩⟩⟩ ?_
                        exact ih x1 x2 ((if x3 < (((f6 (x3).toNatClampNeg) >>> ((4 : Int32) &&& 31)) - (1 : Int32)) then (((f6 (x3).toNatClampNeg) >>> ((4 : Int32) &&& 31)) - (1 : Int32)) else x3) + (1 : Int32)) s k hX147 hX30 hX54 hX122
                    · have k := k.2 c
                      refine Ex.seg hq 2 (j := 100) (L' := [.ref 16, .ref (x1 + 118), .int x2, .int x3, .int ((f4 (x3).toNatClampNeg) &&& (15 : Int32)), .int ((f6 (x3).toNatClampNeg) >>> ((4 : Int32) &&& 31)), .int (0 : Int32)]) (S' := [.int (1 : Int32), .int (0 : Int32)]) (h' := hpS s) rfl ?_
                      refine Ex.i2 hq rfl (fun c => ?_) (fun c => ?_)
                      · have k := k.1 c
                        refine Ex.seg hq 4 (j := 4) (L' := [.ref 16, .ref (x1 + 118), .int (x2 + (-1 : Int32)), .int (x3 + (1 : Int32)), .int ((f4 (x3).toNatClampNeg) &&& (15 : Int32)), .int ((f6 (x3).toNatClampNeg) >>> ((4 : Int32) &&& 31)), .int (0 : Int32)]) (S' := []) (h' := hpS s) rfl ?_
                        refine Ex.fg (L := [.ref 16, .ref (x1 + 118), .int (x2 + (-1 : Int32)), .int (x3 + (1 : Int32)), pu, pu, pu]) ⟨Or.inl rfl, ⟨Or.inl rfl, ⟨Or.inl rfl, ⟨Or.inl rfl, ⟨Or.inr ⟨rfl, rfl⟩, ⟨Or.inr ⟨rfl, rfl⟩, ⟨Or.inr ⟨rfl, rfl⟩, trivial⟩⟩⟩⟩⟩⟩⟩ ?_
                        exact ih x1 (x2 + (-1 : Int32)) (x3 + (1 : Int32)) s k hX147 hX30 hX54 hX122
                      · have k := k.2 c
                        refine Ex.seg hq 10 (j := 4) (L' := [.ref 16, .ref (x1 + 118), .int x2, .int ((if x3 < (((f6 (x3).toNatClampNeg) >>> ((4 : Int32) &&& 31)) - (1 : Int32)) then (((f6 (x3).toNatClampNeg) >>> ((4 : Int32) &&& 31)) - (1 : Int32)) else x3) + (1 : Int32)), .int ((f4 (x3).toNatClampNeg) &&& (15 : Int32)), .int ((f6 (x3).toNatClampNeg) >>> ((4 : Int32) &&& 31)), .int (0 : Int32)]) (S' := []) (h' := hpS s) rfl ?_
                        refine Ex.fg (L := [.ref 16, .ref (x1 + 118), .int x2, .int ((if x3 < (((f6 (x3).toNatClampNeg) >>> ((4 : Int32) &&& 31)) - (1 : Int32)) then (((f6 (x3).toNatClampNeg) >>> ((4 : Int32) &&& 31)) - (1 : Int32)) else x3) + (1 : Int32)), pu, pu, pu]) ⟨Or.inl rfl, ⟨Or.inl rfl, ⟨Or.inl rfl, ⟨Or.inl rfl, ⟨Or.inr ⟨rfl, rfl⟩, ⟨Or.inr ⟨rfl, rfl⟩, ⟨Or.inr ⟨rfl, rfl⟩, trivial⟩⟩⟩⟩⟩⟩⟩ ?_
                        exact ih x1 x2 ((if x3 < (((f6 (x3).toNatClampNeg) >>> ((4 : Int32) &&& 31)) - (1 : Int32)) then (((f6 (x3).toNatClampNeg) >>> ((4 : Int32) &&& 31)) - (1 : Int32)) else x3) + (1 : Int32)) s k hX147 hX30 hX54 hX122
                  · have k := k.2 c
                    refine Ex.seg hq 6 (j := 96) (L' := [.ref 16, .ref (x1 + 118), .int x2, .int x3, .int ((f4 (x3).toNatClampNeg) &&& (15 : Int32)), .int ((f6 (x3).toNatClampNeg) >>> ((4 : Int32) &&& 31)), .int (1 : Int32)]) (S' := [.int (4 : Int32), .int ((f4 (x3).toNatClampNeg) &&& (15 : Int32)), .int (1 : Int32)]) (h' := hpS s) rfl ?_
                    refine Ex.i2 hq rfl (fun c => ?_) (fun c => ?_)
                    · have k := k.1 c
                      refine Ex.seg hq 1 (j := 100) (L' := [.ref 16, .ref (x1 + 118), .int x2, .int x3, .int ((f4 (x3).toNatClampNeg) &&& (15 : Int32)), .int ((f6 (x3).toNatClampNeg) >>> ((4 : Int32) &&& 31)), .int (1 : Int32)]) (S' := [.int (0 : Int32), .int (1 : Int32)]) (h' := hpS s) rfl ?_
                      refine Ex.i2 hq rfl (fun c => ?_) (fun c => ?_)
                      · have k := k.1 c
                        refine Ex.seg hq 4 (j := 4) (L' := [.ref 16, .ref (x1 + 118), .int (x2 + (-1 : Int32)), .int (x3 + (1 : Int32)), .int ((f4 (x3).toNatClampNeg) &&& (15 : Int32)), .int ((f6 (x3).toNatClampNeg) >>> ((4 : Int32) &&& 31)), .int (1 : Int32)]) (S' := []) (h' := hpS s) rfl ?_
                        refine Ex.fg (L := [.ref 16, .ref (x1 + 118), .int (x2 + (-1 : Int32)), .int (x3 + (1 : Int32)), pu, pu, pu]) ⟨Or.inl rfl, ⟨Or.inl rfl, ⟨Or.inl rfl, ⟨Or.inl rfl, ⟨Or.inr ⟨rfl, rfl⟩, ⟨Or.inr ⟨rfl, rfl⟩, ⟨Or.inr ⟨rfl, rfl⟩, trivial⟩⟩⟩⟩⟩⟩⟩ ?_
                        exact ih x1 (x2 + (-1 : Int32)) (x3 + (1 : Int32)) s k hX147 hX30 hX54 hX122
                      · have k := k.2 c
                        refine Ex.seg hq 10 (j := 4) (L' := [.ref 16, .ref (x1 + 118), .int x2, .int ((if x3 < (((f6 (x3).toNatClampNeg) >>> ((4 : Int32) &&& 31)) - (1 : Int32)) then (((f6 (x3).toNatClampNeg) >>> ((4 : Int32) &&& 31)) - (1 : Int32)) else x3) + (1 : Int32)), .int ((f4 (x3).toNatClampNeg) &&& (15 : Int32)), .int ((f6 (x3).toNatClampNeg) >>> ((4 : Int32) &&& 31)), .int (1 : Int32)]) (S' := []) (h' := hpS s) rfl ?_
                        refine Ex.fg (L := [.ref 16, .ref (x1 + 118), .int x2, .int ((if x3 < (((f6 (x3).toNatClampNeg) >>> ((4 : Int32) &&& 31)) - (1 : Int32)) then (((f6 (x3).toNatClampNeg) >>> ((4 : Int32) &&& 31)) - (1 : Int32)) else x3) + (1 : Int32)), pu, pu, pu]) ⟨Or.inl rfl, ⟨Or.inl rfl, ⟨Or.inl rfl, ⟨Or.inl rfl, ⟨Or.inr ⟨rfl, rfl⟩, ⟨Or.inr ⟨rfl, rfl⟩, ⟨Or.inr ⟨rfl, rfl⟩, trivial⟩⟩⟩⟩⟩⟩⟩ ?_
                        exact ih x1 x2 ((if x3 < (((f6 (x3).toNatClampNeg) >>> ((4 : Int32) &&& 31)) - (1 : Int32)) then (((f6 (x3).toNatClampNeg) >>> ((4 : Int32) &&& 31)) - (1 : Int32)) else x3) + (1 : Int32)) s k hX147 hX30 hX54 hX122
                    · have k := k.2 c
                      refine Ex.seg hq 2 (j := 100) (L' := [.ref 16, .ref (x1 + 118), .int x2, .int x3, .int ((f4 (x3).toNatClampNeg) &&& (15 : Int32)), .int ((f6 (x3).toNatClampNeg) >>> ((4 : Int32) &&& 31)), .int (1 : Int32)]) (S' := [.int (1 : Int32), .int (1 : Int32)]) (h' := hpS s) rfl ?_
                      refine Ex.i2 hq rfl (fun c => ?_) (fun c => ?_)
                      · have k := k.1 c
                        refine Ex.seg hq 4 (j := 4) (L' := [.ref 16, .ref (x1 + 118), .int (x2 + (-1 : Int32)), .int (x3 + (1 : Int32)), .int ((f4 (x3).toNatClampNeg) &&& (15 : Int32)), .int ((f6 (x3).toNatClampNeg) >>> ((4 : Int32) &&& 31)), .int (1 : Int32)]) (S' := []) (h' := hpS s) rfl ?_
                        refine Ex.fg (L := [.ref 16, .ref (x1 + 118), .int (x2 + (-1 : Int32)), .int (x3 + (1 : Int32)), pu, pu, pu]) ⟨Or.inl rfl, ⟨Or.inl rfl, ⟨Or.inl rfl, ⟨Or.inl rfl, ⟨Or.inr ⟨rfl, rfl⟩, ⟨Or.inr ⟨rfl, rfl⟩, ⟨Or.inr ⟨rfl, rfl⟩, trivial⟩⟩⟩⟩⟩⟩⟩ ?_
                        exact ih x1 (x2 + (-1 : Int32)) (x3 + (1 : Int32)) s k hX147 hX30 hX54 hX122
                      · have k := k.2 c
                        refine Ex.seg hq 10 (j := 4) (L' := [.ref 16, .ref (x1 + 118), .int x2, .int ((if x3 < (((f6 (x3).toNatClampNeg) >>> ((4 : Int32) &&& 31)) - (1 : Int32)) then (((f6 (x3).toNatClampNeg) >>> ((4 : Int32) &&& 31)) - (1 : Int32)) else x3) + (1 : Int32)), .int ((f4 (x3).toNatClampNeg) &&& (15 : Int32)), .int ((f6 (x3).toNatClampNeg) >>> ((4 : Int32) &&& 31)), .int (1 : Int32)]) (S' := []) (h' := hpS s) rfl ?_
                        refine Ex.fg (L := [.ref 16, .ref (x1 + 118), .int x2, .int ((if x3 < (((f6 (x3).toNatClampNeg) >>> ((4 : Int32) &&& 31)) - (1 : Int32)) then (((f6 (x3).toNatClampNeg) >>> ((4 : Int32) &&& 31)) - (1 : Int32)) else x3) + (1 : Int32)), pu, pu, pu]) ⟨Or.inl rfl, ⟨Or.inl rfl, ⟨Or.inl rfl, ⟨Or.inl rfl, ⟨Or.inr ⟨rfl, rfl⟩, ⟨Or.inr ⟨rfl, rfl⟩, ⟨Or.inr ⟨rfl, rfl⟩, trivial⟩⟩⟩⟩⟩⟩⟩ ?_
                        exact ih x1 x2 ((if x3 < (((f6 (x3).toNatClampNeg) >>> ((4 : Int32) &&& 31)) - (1 : Int32)) then (((f6 (x3).toNatClampNeg) >>> ((4 : Int32) &&& 31)) - (1 : Int32)) else x3) + (1 : Int32)) s k hX147 hX30 hX54 hX122
                · have k := k.2 c
                  refine Ex.seg hq 2 (j := 79) (L' := [.ref 16, .ref (x1 + 118), .int x2, .int x3, .int ((f4 (x3).toNatClampNeg) &&& (15 : Int32)), .int ((f6 (x3).toNatClampNeg) >>> ((4 : Int32) &&& 31)), pu]) (S' := [.int (4 : Int32), .int ((f4 (x3).toNatClampNeg) &&& (15 : Int32))]) (h' := hpS s) rfl ?_
                  refine Ex.i2 hq rfl (fun c => ?_) (fun c => ?_)
                  · have k := k.1 c
                    refine Ex.seg hq 2 (j := 112) (L' := [.ref 16, .ref (x1 + 118), .int x2, .int x3, .int ((f4 (x3).toNatClampNeg) &&& (15 : Int32)), .int ((f6 (x3).toNatClampNeg) >>> ((4 : Int32) &&& 31)), pu]) (S' := [.int (2 : Int32), .int x2]) (h' := hpS s) rfl ?_
                    refine Ex.i2 hq rfl (fun c => ?_) (fun c => ?_)
                    · have k := k.1 c
                      refine Ex.fg (L := [pu, pu, pu, pu, pu, pu, pu]) ⟨Or.inr ⟨rfl, rfl⟩, ⟨Or.inr ⟨rfl, rfl⟩, ⟨Or.inr ⟨rfl, rfl⟩, ⟨Or.inr ⟨rfl, rfl⟩, ⟨Or.inr ⟨rfl, rfl⟩, ⟨Or.inr ⟨rfl, rfl⟩, ⟨Or.inl rfl, trivial⟩⟩⟩⟩⟩⟩⟩ ?_
                      exact hX122  s k
                    · have k := k.2 c
                      refine Ex.seg hq 6 (j := 119) (L' := [.ref 16, .ref (x1 + 118), .int x2, .int x3, .int ((f4 (x3).toNatClampNeg) &&& (15 : Int32)), .int ((f6 (x3).toNatClampNeg) >>> ((4 : Int32) &&& 31)), pu]) (S' := [.int (x2 - (1 : Int32)), .ref 18, .int ((f4 (x3).toNatClampNeg) &&& (15 : Int32))]) (h' := hpS s) rfl ?_
                      obtain ⟨hin, k⟩ := k
                      refine Ex.lal hq rfl rfl hin ?_
                      refine Ex.cl hq rfl rfl ?_
                      refine Rn.mono (q_23 (d := d + 0) ((f4 (x3).toNatClampNeg) &&& (15 : Int32)) ((s.2.2.1 18) ((x2 - (1 : Int32))).toNatClampNeg) s k) ?_
                      rintro _ _ ⟨r10, s9, rfl, hzr10, rfl, k⟩
                      show Ex sc (d + 1) 21 121 [.ref 16, .ref (x1 + 118), .int x2, .int x3, .int ((f4 (x3).toNatClampNeg) &&& (15 : Int32)), .int ((f6 (x3).toNatClampNeg) >>> ((4 : Int32) &&& 31)), pu] [.int r10] (hpS s9) _
                      refine Ex.i1 hq rfl (fun c => ?_) (fun c => ?_)
                      · have k := k.1 c
                        refine Ex.seg hq 11 (j := 135) (L' := [.ref 16, .ref (x1 + 118), .int x2, .int x3, .int ((f4 (x3).toNatClampNeg) &&& (15 : Int32)), .int ((f6 (x3).toNatClampNeg) >>> ((4 : Int32) &&& 31)), pu]) (S' := [.int (x2 - (2 : Int32)), .ref 18, .int ((f4 (x3).toNatClampNeg) &&& (15 : Int32)), .int (x2 - (2 : Int32)), .ref 18]) (h' := hpS s9) rfl ?_
                        obtain ⟨hin, k⟩ := k
                        refine Ex.lal hq rfl rfl hin ?_
                        refine Ex.seg hq 5 (j := 141) (L' := [.ref 16, .ref (x1 + 118), .int x2, .int x3, .int ((f4 (x3).toNatClampNeg) &&& (15 : Int32)), .int ((f6 (x3).toNatClampNeg) >>> ((4 : Int32) &&& 31)), pu]) (S' := [.int (x2 - (1 : Int32)), .ref 18, .long ((s9.2.2.1 18) ((x2 - (2 : Int32))).toNatClampNeg), .int ((f4 (x3).toNatClampNeg) &&& (15 : Int32)), .int (x2 - (2 : Int32)), .ref 18]) (h' := hpS s9) rfl ?_
                        obtain ⟨hin, k⟩ := k
                        refine Ex.lal hq rfl rfl hin ?_
                        refine Ex.cl hq rfl rfl ?_
                        refine Rn.mono (q_24 (d := d + 0) ((f4 (x3).toNatClampNeg) &&& (15 : Int32)) ((s9.2.2.1 18) ((x2 - (2 : Int32))).toNatClampNeg) ((s9.2.2.1 18) ((x2 - (1 : Int32))).toNatClampNeg) s9 k) ?_
                        rintro _ _ ⟨r12, s11, rfl, rfl, k⟩
                        show Ex sc (d + 1) 21 143 [.ref 16, .ref (x1 + 118), .int x2, .int x3, .int ((f4 (x3).toNatClampNeg) &&& (15 : Int32)), .int ((f6 (x3).toNatClampNeg) >>> ((4 : Int32) &&& 31)), pu] [.long r12, .int (x2 - (2 : Int32)), .ref 18] (hpS s11) _
                        obtain ⟨hin, k⟩ := k
                        refine Ex.las hq rfl rfl hin (h' := hpS (sL s11 18 (vp_updL (s11.2.2.1 18) ((x2 - (2 : Int32))).toNatClampNeg r12))) (hset_18 _ _) ?_
                        refine Ex.seg hq 3 (j := 4) (L' := [.ref 16, .ref (x1 + 118), .int (x2 + (-1 : Int32)), .int (x3 + (1 : Int32)), .int ((f4 (x3).toNatClampNeg) &&& (15 : Int32)), .int ((f6 (x3).toNatClampNeg) >>> ((4 : Int32) &&& 31)), pu]) (S' := []) (h' := hpS (sL s11 18 (vp_updL (s11.2.2.1 18) ((x2 - (2 : Int32))).toNatClampNeg r12))) rfl ?_
                        refine Ex.fg (L := [.ref 16, .ref (x1 + 118), .int (x2 + (-1 : Int32)), .int (x3 + (1 : Int32)), pu, pu, pu]) ⟨Or.inl rfl, ⟨Or.inl rfl, ⟨Or.inl rfl, ⟨Or.inl rfl, ⟨Or.inr ⟨rfl, rfl⟩, ⟨Or.inr ⟨rfl, rfl⟩, ⟨Or.inl rfl, trivial⟩⟩⟩⟩⟩⟩⟩ ?_
                        exact ih x1 (x2 + (-1 : Int32)) (x3 + (1 : Int32)) (sL s11 18 (vp_updL (s11.2.2.1 18) ((x2 - (2 : Int32))).toNatClampNeg r12)) k hX147 hX30 hX54 hX122
                      · have k := k.2 c
                        refine Ex.fg (L := [pu, pu, pu, pu, pu, pu, pu]) ⟨Or.inr ⟨rfl, rfl⟩, ⟨Or.inr ⟨rfl, rfl⟩, ⟨Or.inr ⟨rfl, rfl⟩, ⟨Or.inr ⟨rfl, rfl⟩, ⟨Or.inr ⟨rfl, rfl⟩, ⟨Or.inr ⟨rfl, rfl⟩, ⟨Or.inl rfl, trivial⟩⟩⟩⟩⟩⟩⟩ ?_
                        exact hX122  s9 k
                  · have k := k.2 c
                    refine Ex.seg hq 5 (j := 85) (L' := [.ref 16, .ref (x1 + 118), .int x2, .int x3, .int ((f4 (x3).toNatClampNeg) &&& (15 : Int32)), .int ((f6 (x3).toNatClampNeg) >>> ((4 : Int32) &&& 31)), pu]) (S' := [.int (x2 - (1 : Int32)), .ref 18]) (h' := hpS s) rfl ?_
                    obtain ⟨hin, k⟩ := k
                    refine Ex.lal hq rfl rfl hin ?_
                    refine Ex.seg hq 2 (j := 88) (L' := [.ref 16, .ref (x1 + 118), .int x2, .int x3, .int ((f4 (x3).toNatClampNeg) &&& (15 : Int32)), .int ((f6 (x3).toNatClampNeg) >>> ((4 : Int32) &&& 31)), pu]) (S' := [.int (lg_cmp ((s.2.2.1 18) ((x2 - (1 : Int32))).toNatClampNeg) (0 : Int64))]) (h' := hpS s) rfl ?_
                    refine Ex.i1 hq rfl (fun c => ?_) (fun c => ?_)
                    · have k := k.1 c
                      refine Ex.seg hq 5 (j := 96) (L' := [.ref 16, .ref (x1 + 118), .int x2, .int x3, .int ((f4 (x3).toNatClampNeg) &&& (15 : Int32)), .int ((f6 (x3).toNatClampNeg) >>> ((4 : Int32) &&& 31)), .int (0 : Int32)]) (S' := [.int (4 : Int32), .int ((f4 (x3).toNatClampNeg) &&& (15 : Int32)), .int (0 : Int32)]) (h' := hpS s) rfl ?_
                      refine Ex.i2 hq rfl (fun c => ?_) (fun c => ?_)
                      · have k := k.1 c
                        refine Ex.seg hq 1 (j := 100) (L' := [.ref 16, .ref (x1 + 118), .int x2, .int x3, .int ((f4 (x3).toNatClampNeg) &&& (15 : Int32)), .int ((f6 (x3).toNatClampNeg) >>> ((4 : Int32) &&& 31)), .int (0 : Int32)]) (S' := [.int (0 : Int32), .int (0 : Int32)]) (h' := hpS s) rfl ?_
                        refine Ex.i2 hq rfl (fun c => ?_) (fun c => ?_)
                        · have k := k.1 c
                          refine Ex.seg hq 4 (j := 4) (L' := [.ref 16, .ref (x1 + 118), .int (x2 + (-1 : Int32)), .int (x3 + (1 : Int32)), .int ((f4 (x3).toNatClampNeg) &&& (15 : Int32)), .int ((f6 (x3).toNatClampNeg) >>> ((4 : Int32) &&& 31)), .int (0 : Int32)]) (S' := []) (h' := hpS s) rfl ?_
                          refine Ex.fg (L := [.ref 16, .ref (x1 + 118), .int (x2 + (-1 : Int32)), .int (x3 + (1 : Int32)), pu, pu, pu]) ⟨Or.inl rfl, ⟨Or.inl rfl, ⟨Or.inl rfl, ⟨Or.inl rfl, ⟨Or.inr ⟨rfl, rfl⟩, ⟨Or.inr ⟨rfl, rfl⟩, ⟨Or.inr ⟨rfl, rfl⟩, trivial⟩⟩⟩⟩⟩⟩⟩ ?_
                          exact ih x1 (x2 + (-1 : Int32)) (x3 + (1 : Int32)) s k hX147 hX30 hX54 hX122
                        · have k := k.2 c
                          refine Ex.seg hq 10 (j := 4) (L' := [.ref 16, .ref (x1 + 118), .int x2, .int ((if x3 < (((f6 (x3).toNatClampNeg) >>> ((4 : Int32) &&& 31)) - (1 : Int32)) then (((f6 (x3).toNatClampNeg) >>> ((4 : Int32) &&& 31)) - (1 : Int32)) else x3) + (1 : Int32)), .int ((f4 (x3).toNatClampNeg) &&& (15 : Int32)), .int ((f6 (x3).toNatClampNeg) >>> ((4 : Int32) &&& 31)), .int (0 : Int32)]) (S' := []) (h' := hpS s) rfl ?_
                          refine Ex.fg (L := [.ref 16, .ref (x1 + 118), .int x2, .int ((if x3 < (((f6 (x3).toNatClampNeg) >>> ((4 : Int32) &&& 31)) - (1 : Int32)) then (((f6 (x3).toNatClampNeg) >>> ((4 : Int32) &&& 31)) - (1 : Int32)) else x3) + (1 : Int32)), pu, pu, pu]) ⟨Or.inl rfl, ⟨Or.inl rfl, ⟨Or.inl rfl, ⟨Or.inl rfl, ⟨Or.inr ⟨rfl, rfl⟩, ⟨Or.inr ⟨rfl, rfl⟩, ⟨Or.inr ⟨rfl, rfl⟩, trivial⟩⟩⟩⟩⟩⟩⟩ ?_
                          exact ih x1 x2 ((if x3 < (((f6 (x3).toNatClampNeg) >>> ((4 : Int32) &&& 31)) - (1 : Int32)) then (((f6 (x3).toNatClampNeg) >>> ((4 : Int32) &&& 31)) - (1 : Int32)) else x3) + (1 : Int32)) s k hX147 hX30 hX54 hX122
                      · have k := k.2 c
                        refine Ex.seg hq 2 (j := 100) (L' := [.ref 16, .ref (x1 + 118), .int x2, .int x3, .int ((f4 (x3).toNatClampNeg) &&& (15 : Int32)), .int ((f6 (x3).toNatClampNeg) >>> ((4 : Int32) &&& 31)), .int (0 : Int32)]) (S' := [.int (1 : Int32), .int (0 : Int32)]) (h' := hpS s) rfl ?_
                        refine Ex.i2 hq rfl (fun c => ?_) (fun c => ?_)
                        · have k := k.1 c
                          refine Ex.seg hq 4 (j := 4) (L' := [.ref 16, .ref (x1 + 118), .int (x2 + (-1 : Int32)), .int (x3 + (1 : Int32)), .int ((f4 (x3).toNatClampNeg) &&& (15 : Int32)), .int ((f6 (x3).toNatClampNeg) >>> ((4 : Int32) &&& 31)), .int (0 : Int32)]) (S' := []) (h' := hpS s) rfl ?_
                          refine Ex.fg (L := [.ref 16, .ref (x1 + 118), .int (x2 + (-1 : Int32)), .int (x3 + (1 : Int32)), pu, pu, pu]) ⟨Or.inl rfl, ⟨Or.inl rfl, ⟨Or.inl rfl, ⟨Or.inl rfl, ⟨Or.inr ⟨rfl, rfl⟩, ⟨Or.inr ⟨rfl, rfl⟩, ⟨Or.inr ⟨rfl, rfl⟩, trivial⟩⟩⟩⟩⟩⟩⟩ ?_
                          exact ih x1 (x2 + (-1 : Int32)) (x3 + (1 : Int32)) s k hX147 hX30 hX54 hX122
                        · have k := k.2 c
                          refine Ex.seg hq 10 (j := 4) (L' := [.ref 16, .ref (x1 + 118), .int x2, .int ((if x3 < (((f6 (x3).toNatClampNeg) >>> ((4 : Int32) &&& 31)) - (1 : Int32)) then (((f6 (x3).toNatClampNeg) >>> ((4 : Int32) &&& 31)) - (1 : Int32)) else x3) + (1 : Int32)), .int ((f4 (x3).toNatClampNeg) &&& (15 : Int32)), .int ((f6 (x3).toNatClampNeg) >>> ((4 : Int32) &&& 31)), .int (0 : Int32)]) (S' := []) (h' := hpS s) rfl ?_
                          refine Ex.fg (L := [.ref 16, .ref (x1 + 118), .int x2, .int ((if x3 < (((f6 (x3).toNatClampNeg) >>> ((4 : Int32) &&& 31)) - (1 : Int32)) then (((f6 (x3).toNatClampNeg) >>> ((4 : Int32) &&& 31)) - (1 : Int32)) else x3) + (1 : Int32)), pu, pu, pu]) ⟨Or.inl rfl, ⟨Or.inl rfl, ⟨Or.inl rfl, ⟨Or.inl rfl, ⟨Or.inr ⟨rfl, rfl⟩, ⟨Or.inr ⟨rfl, rfl⟩, ⟨Or.inr ⟨rfl, rfl⟩, trivial⟩⟩⟩⟩⟩⟩⟩ ?_
                          exact ih x1 x2 ((if x3 < (((f6 (x3).toNatClampNeg) >>> ((4 : Int32) &&& 31)) - (1 : Int32)) then (((f6 (x3).toNatClampNeg) >>> ((4 : Int32) &&& 31)) - (1 : Int32)) else x3) + (1 : Int32)) s k hX147 hX30 hX54 hX122
                    · have k := k.2 c
                      refine Ex.seg hq 6 (j := 96) (L' := [.ref 16, .ref (x1 + 118), .int x2, .int x3, .int ((f4 (x3).toNatClampNeg) &&& (15 : Int32)), .int ((f6 (x3).toNatClampNeg) >>> ((4 : Int32) &&& 31)), .int (1 : Int32)]) (S' := [.int (4 : Int32), .int ((f4 (x3).toNatClampNeg) &&& (15 : Int32)), .int (1 : Int32)]) (h' := hpS s) rfl ?_
                      refine Ex.i2 hq rfl (fun c => ?_) (fun c => ?_)
                      · have k := k.1 c
                        refine Ex.seg hq 1 (j := 100) (L' := [.ref 16, .ref (x1 + 118), .int x2, .int x3, .int ((f4 (x3).toNatClampNeg) &&& (15 : Int32)), .int ((f6 (x3).toNatClampNeg) >>> ((4 : Int32) &&& 31)), .int (1 : Int32)]) (S' := [.int (0 : Int32), .int (1 : Int32)]) (h' := hpS s) rfl ?_
                        refine Ex.i2 hq rfl (fun c => ?_) (fun c => ?_)
                        · have k := k.1 c
                          refine Ex.seg hq 4 (j := 4) (L' := [.ref 16, .ref (x1 + 118), .int (x2 + (-1 : Int32)), .int (x3 + (1 : Int32)), .int ((f4 (x3).toNatClampNeg) &&& (15 : Int32)), .int ((f6 (x3).toNatClampNeg) >>> ((4 : Int32) &&& 31)), .int (1 : Int32)]) (S' := []) (h' := hpS s) rfl ?_
                          refine Ex.fg (L := [.ref 16, .ref (x1 + 118), .int (x2 + (-1 : Int32)), .int (x3 + (1 : Int32)), pu, pu, pu]) ⟨Or.inl rfl, ⟨Or.inl rfl, ⟨Or.inl rfl, ⟨Or.inl rfl, ⟨Or.inr ⟨rfl, rfl⟩, ⟨Or.inr ⟨rfl, rfl⟩, ⟨Or.inr ⟨rfl, rfl⟩, trivial⟩⟩⟩⟩⟩⟩⟩ ?_
                          exact ih x1 (x2 + (-1 : Int32)) (x3 + (1 : Int32)) s k hX147 hX30 hX54 hX122
                        · have k := k.2 c
                          refine Ex.seg hq 10 (j := 4) (L' := [.ref 16, .ref (x1 + 118), .int x2, .int ((if x3 < (((f6 (x3).toNatClampNeg) >>> ((4 : Int32) &&& 31)) - (1 : Int32)) then (((f6 (x3).toNatClampNeg) >>> ((4 : Int32) &&& 31)) - (1 : Int32)) else x3) + (1 : Int32)), .int ((f4 (x3).toNatClampNeg) &&& (15 : Int32)), .int ((f6 (x3).toNatClampNeg) >>> ((4 : Int32) &&& 31)), .int (1 : Int32)]) (S' := []) (h' := hpS s) rfl ?_
                          refine Ex.fg (L := [.ref 16, .ref (x1 + 118), .int x2, .int ((if x3 < (((f6 (x3).toNatClampNeg) >>> ((4 : Int32) &&& 31)) - (1 : Int32)) then (((f6 (x3).toNatClampNeg) >>> ((4 : Int32) &&& 31)) - (1 : Int32)) else x3) + (1 : Int32)), pu, pu, pu]) ⟨Or.inl rfl, ⟨Or.inl rfl, ⟨Or.inl rfl, ⟨Or.inl rfl, ⟨Or.inr ⟨rfl, rfl⟩, ⟨Or.inr ⟨rfl, rfl⟩, ⟨Or.inr ⟨rfl, rfl⟩, trivial⟩⟩⟩⟩⟩⟩⟩ ?_
                          exact ih x1 x2 ((if x3 < (((f6 (x3).toNatClampNeg) >>> ((4 : Int32) &&& 31)) - (1 : Int32)) then (((f6 (x3).toNatClampNeg) >>> ((4 : Int32) &&& 31)) - (1 : Int32)) else x3) + (1 : Int32)) s k hX147 hX30 hX54 hX122
                      · have k := k.2 c
                        refine Ex.seg hq 2 (j := 100) (L' := [.ref 16, .ref (x1 + 118), .int x2, .int x3, .int ((f4 (x3).toNatClampNeg) &&& (15 : Int32)), .int ((f6 (x3).toNatClampNeg) >>> ((4 : Int32) &&& 31)), .int (1 : Int32)]) (S' := [.int (1 : Int32), .int (1 : Int32)]) (h' := hpS s) rfl ?_
                        refine Ex.i2 hq rfl (fun c => ?_) (fun c => ?_)
                        · have k := k.1 c
                          refine Ex.seg hq 4 (j := 4) (L' := [.ref 16, .ref (x1 + 118), .int (x2 + (-1 : Int32)), .int (x3 + (1 : Int32)), .int ((f4 (x3).toNatClampNeg) &&& (15 : Int32)), .int ((f6 (x3).toNatClampNeg) >>> ((4 : Int32) &&& 31)), .int (1 : Int32)]) (S' := []) (h' := hpS s) rfl ?_
                          refine Ex.fg (L := [.ref 16, .ref (x1 + 118), .int (x2 + (-1 : Int32)), .int (x3 + (1 : Int32)), pu, pu, pu]) ⟨Or.inl rfl, ⟨Or.inl rfl, ⟨Or.inl rfl, ⟨Or.inl rfl, ⟨Or.inr ⟨rfl, rfl⟩, ⟨Or.inr ⟨rfl, rfl⟩, ⟨Or.inr ⟨rfl, rfl⟩, trivial⟩⟩⟩⟩⟩⟩⟩ ?_
                          exact ih x1 (x2 + (-1 : Int32)) (x3 + (1 : Int32)) s k hX147 hX30 hX54 hX122
                        · have k := k.2 c
                          refine Ex.seg hq 10 (j := 4) (L' := [.ref 16, .ref (x1 + 118), .int x2, .int ((if x3 < (((f6 (x3).toNatClampNeg) >>> ((4 : Int32) &&& 31)) - (1 : Int32)) then (((f6 (x3).toNatClampNeg) >>> ((4 : Int32) &&& 31)) - (1 : Int32)) else x3) + (1 : Int32)), .int ((f4 (x3).toNatClampNeg) &&& (15 : Int32)), .int ((f6 (x3).toNatClampNeg) >>> ((4 : Int32) &&& 31)), .int (1 : Int32)]) (S' := []) (h' := hpS s) rfl ?_
                          refine Ex.fg (L := [.ref 16, .ref (x1 + 118), .int x2, .int ((if x3 < (((f6 (x3).toNatClampNeg) >>> ((4 : Int32) &&& 31)) - (1 : Int32)) then (((f6 (x3).toNatClampNeg) >>> ((4 : Int32) &&& 31)) - (1 : Int32)) else x3) + (1 : Int32)), pu, pu, pu]) ⟨Or.inl rfl, ⟨Or.inl rfl, ⟨Or.inl rfl, ⟨Or.inl rfl, ⟨Or.inr ⟨rfl, rfl⟩, ⟨Or.inr ⟨rfl, rfl⟩, ⟨Or.inr ⟨rfl, rfl⟩, trivial⟩⟩⟩⟩⟩⟩⟩ ?_
                          exact ih x1 x2 ((if x3 < (((f6 (x3).toNatClampNeg) >>> ((4 : Int32) &&& 31)) - (1 : Int32)) then (((f6 (x3).toNatClampNeg) >>> ((4 : Int32) &&& 31)) - (1 : Int32)) else x3) + (1 : Int32)) s k hX147 hX30 hX54 hX122
              · have k := k.2 c
                refine Ex.seg hq 11 (j := 70) (L' := [.ref 16, .ref (x1 + 118), .int x2, .int x3, .int ((f4 (x3).toNatClampNeg) &&& (15 : Int32)), .int ((f6 (x3).toNatClampNeg) >>> ((4 : Int32) &&& 31)), pu]) (S' := [.int (x2 - (1 : Int32)), .ref 18, .long (1 : Int64), .int (x2 - (1 : Int32)), .ref 18]) (h' := hpS s) rfl ?_
                obtain ⟨hin, k⟩ := k
                refine Ex.lal hq rfl rfl hin ?_
                refine Ex.seg hq 1 (j := 72) (L' := [.ref 16, .ref (x1 + 118), .int x2, .int x3, .int ((f4 (x3).toNatClampNeg) &&& (15 : Int32)), .int ((f6 (x3).toNatClampNeg) >>> ((4 : Int32) &&& 31)), pu]) (S' := [.long ((1 : Int64) - ((s.2.2.1 18) ((x2 - (1 : Int32))).toNatClampNeg)), .int (x2 - (1 : Int32)), .ref 18]) (h' := hpS s) rfl ?_
                obtain ⟨hin, k⟩ := k
                refine Ex.las hq rfl rfl hin (h' := hpS (sL s 18 (vp_updL (s.2.2.1 18) ((x2 - (1 : Int32))).toNatClampNeg ((1 : Int64) - ((s.2.2.1 18) ((x2 - (1 : Int32))).toNatClampNeg))))) (hset_18 _ _) ?_
                refine Ex.seg hq 3 (j := 4) (L' := [.ref 16, .ref (x1 + 118), .int x2, .int (x3 + (1 : Int32)), .int ((f4 (x3).toNatClampNeg) &&& (15 : Int32)), .int ((f6 (x3).toNatClampNeg) >>> ((4 : Int32) &&& 31)), pu]) (S' := []) (h' := hpS (sL s 18 (vp_updL (s.2.2.1 18) ((x2 - (1 : Int32))).toNatClampNeg ((1 : Int64) - ((s.2.2.1 18) ((x2 - (1 : Int32))).toNatClampNeg))))) rfl ?_
                refine Ex.fg (L := [.ref 16, .ref (x1 + 118), .int x2, .int (x3 + (1 : Int32)), pu, pu, pu]) ⟨Or.inl rfl, ⟨Or.inl rfl, ⟨Or.inl rfl, ⟨Or.inl rfl, ⟨Or.inr ⟨rfl, rfl⟩, ⟨Or.inr ⟨rfl, rfl⟩, ⟨Or.inl rfl, trivial⟩⟩⟩⟩⟩⟩⟩ ?_
                exact ih x1 x2 (x3 + (1 : Int32)) (sL s 18 (vp_updL (s.2.2.1 18) ((x2 - (1 : Int32))).toNatClampNeg ((1 : Int64) - ((s.2.2.1 18) ((x2 - (1 : Int32))).toNatClampNeg)))) k hX147 hX30 hX54 hX122
            · have k := k.2 c
              refine Ex.fg (L := [pu, pu, pu, pu, pu, pu, pu]) ⟨Or.inr ⟨rfl, rfl⟩, ⟨Or.inr ⟨rfl, rfl⟩, ⟨Or.inr ⟨rfl, rfl⟩, ⟨Or.inr ⟨rfl, rfl⟩, ⟨Or.inr ⟨rfl, rfl⟩, ⟨Or.inr ⟨rfl, rfl⟩, ⟨Or.inl rfl, trivial⟩⟩⟩⟩⟩⟩⟩ ?_
              exact hX54  s k
        · have k := k.2 c
          refine Ex.seg hq 4 (j := 29) (L' := [.ref 16, .ref (x1 + 118), .int x2, .int x3, .int ((f4 (x3).toNatClampNeg) &&& (15 : Int32)), .int ((f6 (x3).toNatClampNeg) >>> ((4 : Int32) &&& 31)), pu]) (S' := [.int (Int32.ofNat 160), .int x2]) (h' := hpS s) rfl ?_
          refine Ex.i2 hq rfl (fun c => ?_) (fun c => ?_)
          · have k := k.1 c
            refine Ex.seg hq 4 (j := 36) (L' := [.ref 16, .ref (x1 + 118), .int x2, .int x3, .int ((f4 (x3).toNatClampNeg) &&& (15 : Int32)), .int ((f6 (x3).toNatClampNeg) >>> ((4 : Int32) &&& 31)), pu]) (S' := [.int ((f4 (x3).toNatClampNeg) &&& (15 : Int32)), .int x2, .ref 18]) (h' := hpS s) rfl ?_
            refine Ex.i1 hq rfl (fun c => ?_) (fun c => ?_)
            · have k := k.1 c
              refine Ex.seg hq 2 (j := 42) (L' := [.ref 16, .ref (x1 + 118), .int x2, .int x3, .int ((f4 (x3).toNatClampNeg) &&& (15 : Int32)), .int ((f6 (x3).toNatClampNeg) >>> ((4 : Int32) &&& 31)), pu]) (S' := [.int ((f6 (x3).toNatClampNeg) >>> ((4 : Int32) &&& 31)), .ref 16, .int x2, .ref 18]) (h' := hpS s) rfl ?_
              refine Ex.cl hq rfl rfl ?_
              refine Rn.mono (q_22 (d := d + 0) ((f6 (x3).toNatClampNeg) >>> ((4 : Int32) &&& 31)) s k) ?_
              rintro _ _ ⟨r14, s13, rfl, rfl, k⟩
              show Ex sc (d + 1) 21 43 [.ref 16, .ref (x1 + 118), .int x2, .int x3, .int ((f4 (x3).toNatClampNeg) &&& (15 : Int32)), .int ((f6 (x3).toNatClampNeg) >>> ((4 : Int32) &&& 31)), pu] [.long r14, .int x2, .ref 18] (hpS s13) _
              obtain ⟨hin, k⟩ := k
              refine Ex.las hq rfl rfl hin (h' := hpS (sL s13 18 (vp_updL (s13.2.2.1 18) (x2).toNatClampNeg r14))) (hset_18 _ _) ?_
              refine Ex.seg hq 4 (j := 4) (L' := [.ref 16, .ref (x1 + 118), .int (x2 + (1 : Int32)), .int (x3 + (1 : Int32)), .int ((f4 (x3).toNatClampNeg) &&& (15 : Int32)), .int ((f6 (x3).toNatClampNeg) >>> ((4 : Int32) &&& 31)), pu]) (S' := []) (h' := hpS (sL s13 18 (vp_updL (s13.2.2.1 18) (x2).toNatClampNeg r14))) rfl ?_
              refine Ex.fg (L := [.ref 16, .ref (x1 + 118), .int (x2 + (1 : Int32)), .int (x3 + (1 : Int32)), pu, pu, pu]) ⟨Or.inl rfl, ⟨Or.inl rfl, ⟨Or.inl rfl, ⟨Or.inl rfl, ⟨Or.inr ⟨rfl, rfl⟩, ⟨Or.inr ⟨rfl, rfl⟩, ⟨Or.inl rfl, trivial⟩⟩⟩⟩⟩⟩⟩ ?_
              exact ih x1 (x2 + (1 : Int32)) (x3 + (1 : Int32)) (sL s13 18 (vp_updL (s13.2.2.1 18) (x2).toNatClampNeg r14)) k hX147 hX30 hX54 hX122
            · have k := k.2 c
              refine Ex.seg hq 3 (j := 43) (L' := [.ref 16, .ref (x1 + 118), .int x2, .int x3, .int ((f4 (x3).toNatClampNeg) &&& (15 : Int32)), .int ((f6 (x3).toNatClampNeg) >>> ((4 : Int32) &&& 31)), pu]) (S' := [.long ((((f6 (x3).toNatClampNeg) >>> ((4 : Int32) &&& 31))).toInt64), .int x2, .ref 18]) (h' := hpS s) rfl ?_
              obtain ⟨hin, k⟩ := k
              refine Ex.las hq rfl rfl hin (h' := hpS (sL s 18 (vp_updL (s.2.2.1 18) (x2).toNatClampNeg ((((f6 (x3).toNatClampNeg) >>> ((4 : Int32) &&& 31))).toInt64)))) (hset_18 _ _) ?_
              refine Ex.seg hq 4 (j := 4) (L' := [.ref 16, .ref (x1 + 118), .int (x2 + (1 : Int32)), .int (x3 + (1 : Int32)), .int ((f4 (x3).toNatClampNeg) &&& (15 : Int32)), .int ((f6 (x3).toNatClampNeg) >>> ((4 : Int32) &&& 31)), pu]) (S' := []) (h' := hpS (sL s 18 (vp_updL (s.2.2.1 18) (x2).toNatClampNeg ((((f6 (x3).toNatClampNeg) >>> ((4 : Int32) &&& 31))).toInt64)))) rfl ?_
              refine Ex.fg (L := [.ref 16, .ref (x1 + 118), .int (x2 + (1 : Int32)), .int (x3 + (1 : Int32)), pu, pu, pu]) ⟨Or.inl rfl, ⟨Or.inl rfl, ⟨Or.inl rfl, ⟨Or.inl rfl, ⟨Or.inr ⟨rfl, rfl⟩, ⟨Or.inr ⟨rfl, rfl⟩, ⟨Or.inl rfl, trivial⟩⟩⟩⟩⟩⟩⟩ ?_
              exact ih x1 (x2 + (1 : Int32)) (x3 + (1 : Int32)) (sL s 18 (vp_updL (s.2.2.1 18) (x2).toNatClampNeg ((((f6 (x3).toNatClampNeg) >>> ((4 : Int32) &&& 31))).toInt64))) k hX147 hX30 hX54 hX122
          · have k := k.2 c
            refine Ex.fg (L := [pu, pu, pu, pu, pu, pu, pu]) ⟨Or.inr ⟨rfl, rfl⟩, ⟨Or.inr ⟨rfl, rfl⟩, ⟨Or.inr ⟨rfl, rfl⟩, ⟨Or.inr ⟨rfl, rfl⟩, ⟨Or.inr ⟨rfl, rfl⟩, ⟨Or.inr ⟨rfl, rfl⟩, ⟨Or.inl rfl, trivial⟩⟩⟩⟩⟩⟩⟩ ?_
            exact hX30  s k
/-- RowAuditor$Facts.meets([I)Z -/
def w_21 (p1 : Nat) (s : ST) (K : Int32 → ST → Prop) : Prop := (∃ m, w_21_L4 m p1 (0 : Int32) (0 : Int32) s (fun y2 s15 => ((¬ y2 = (1 : Int32) → K (0 : Int32) s15) ∧ (¬ (¬ y2 = (1 : Int32)) → (pin (0 : Int32) 160 = true ∧ (((lg_cmp ((s15.2.2.1 18) ((0 : Int32)).toNatClampNeg) (0 : Int64)) = 0 → K (0 : Int32) s15) ∧ (¬ ((lg_cmp ((s15.2.2.1 18) ((0 : Int32)).toNatClampNeg) (0 : Int64)) = 0) → K (1 : Int32) s15)))))) (fun s16 => K (0 : Int32) s16) (fun s17 => K (0 : Int32) s17) (fun s18 => K (0 : Int32) s18) K)
theorem q_21 {d : Nat} {K : Int32 → ST → Prop} (p1 : Nat) (s : ST) (k : w_21 p1 s K) : Rn sc (d + 1) 21 [.ref 16, .ref (p1 + 118)] (hpS s) (kZ K) := by
  have hq : prog[21]? = some pm21 := rfl
  refine Rn.of (L := [.ref 16, .ref (p1 + 118), pu, pu, pu, pu, pu]) hq rfl rfl ?_
  unfold w_21 at k
  refine Ex.seg hq 4 (j := 4) (L' := [.ref 16, .ref (p1 + 118), .int (0 : Int32), .int (0 : Int32), pu, pu, pu]) (S' := []) (h' := hpS s) rfl ?_
  obtain ⟨m, k⟩ := k
  refine q_21_L4 (d := d) m p1 (0 : Int32) (0 : Int32) s k ?_ ?_ ?_ ?_
  · intro y2 s15 k
    refine Ex.seg hq 2 (j := 149) (L' := [.ref 16, pu, .int y2, pu, pu, pu, pu]) (S' := [.int (1 : Int32), .int y2]) (h' := hpS s15) rfl ?_
    refine Ex.i2 hq rfl (fun c => ?_) (fun c => ?_)
    · have k := k.1 c
      refine Ex.seg hq 1 (j := 160) (L' := [.ref 16, pu, .int y2, pu, pu, pu, pu]) (S' := [.int (0 : Int32)]) (h' := hpS s15) rfl ?_
      exact Ex.zr hq rfl rfl (Or.inl rfl) ⟨(0 : Int32), s15, rfl, (Or.inl rfl), rfl, k⟩
    · have k := k.2 c
      refine Ex.seg hq 3 (j := 153) (L' := [.ref 16, pu, .int y2, pu, pu, pu, pu]) (S' := [.int (0 : Int32), .ref 18]) (h' := hpS s15) rfl ?_
      obtain ⟨hin, k⟩ := k
      refine Ex.lal hq rfl rfl hin ?_
      refine Ex.seg hq 2 (j := 156) (L' := [.ref 16, pu, .int y2, pu, pu, pu, pu]) (S' := [.int (lg_cmp ((s15.2.2.1 18) ((0 : Int32)).toNatClampNeg) (0 : Int64))]) (h' := hpS s15) rfl ?_
      refine Ex.i1 hq rfl (fun c => ?_) (fun c => ?_)
      · have k := k.1 c
        refine Ex.seg hq 1 (j := 160) (L' := [.ref 16, pu, .int y2, pu, pu, pu, pu]) (S' := [.int (0 : Int32)]) (h' := hpS s15) rfl ?_
        exact Ex.zr hq rfl rfl (Or.inl rfl) ⟨(0 : Int32), s15, rfl, (Or.inl rfl), rfl, k⟩
      · have k := k.2 c
        refine Ex.seg hq 2 (j := 160) (L' := [.ref 16, pu, .int y2, pu, pu, pu, pu]) (S' := [.int (1 : Int32)]) (h' := hpS s15) rfl ?_
        exact Ex.zr hq rfl rfl (Or.inr rfl) ⟨(1 : Int32), s15, rfl, (Or.inr rfl), rfl, k⟩
  · intro s16 k
    refine Ex.seg hq 1 (j := 31) (L' := [pu, pu, pu, pu, pu, pu, pu]) (S' := [.int (0 : Int32)]) (h' := hpS s16) rfl ?_
    exact Ex.zr hq rfl rfl (Or.inl rfl) ⟨(0 : Int32), s16, rfl, (Or.inl rfl), rfl, k⟩
  · intro s17 k
    refine Ex.seg hq 1 (j := 55) (L' := [pu, pu, pu, pu, pu, pu, pu]) (S' := [.int (0 : Int32)]) (h' := hpS s17) rfl ?_
    exact Ex.zr hq rfl rfl (Or.inl rfl) ⟨(0 : Int32), s17, rfl, (Or.inl rfl), rfl, k⟩
  · intro s18 k
    refine Ex.seg hq 1 (j := 123) (L' := [pu, pu, pu, pu, pu, pu, pu]) (S' := [.int (0 : Int32)]) (h' := hpS s18) rfl ?_
    exact Ex.zr hq rfl rfl (Or.inl rfl) ⟨(0 : Int32), s18, rfl, (Or.inl rfl), rfl, k⟩
/-- java/util/ArrayList.size()I -/
def w_297 (p0 : Nat) (s : ST) (K : Int32 → ST → Prop) : Prop := (∃ v1, pgf s.2.2.2.2 p0 13 2 = some (.int v1) ∧ K v1 s)
theorem q_297 {d : Nat} {K : Int32 → ST → Prop} (p0 : Nat) (s : ST) (k : w_297 p0 s K) : Rn sc (d + 0) 297 [.ref (p0 + 118)] (hpS s) (kI K) := by
  have hq : prog[297]? = some pm297 := rfl
  refine Rn.of (L := [.ref (p0 + 118)]) hq rfl rfl ?_
  unfold w_297 at k
  refine Ex.seg hq 1 (j := 1) (L' := [.ref (p0 + 118)]) (S' := [.ref (p0 + 118)]) (h' := hpS s) rfl ?_
  obtain ⟨v1, e, k⟩ := k
  refine Ex.gfd hq rfl e ?_
  exact Ex.rt hq rfl rfl ⟨v1, s, rfl, rfl, k⟩
def w_302_R51_L5 : Nat → Int32 → Int32 → Int32 → ST → (ST → Prop) → (ST → Prop) → Prop
  | 0, _, _, _, _, _, _ => False
  | n + 1, x1, x2, x3, s, X14, K => ((x3 ≤ x2 → X14  s) ∧ (¬ (x3 ≤ x2) → (pin x2 150 = true ∧ w_302_R51_L5 n x1 (x2 + (1 : Int32)) x3 (sA s 51 (upd (s.2.1 51) (x2).toNatClampNeg x1)) X14 K)))
theorem q_302_R51_L5 {d : Nat} {X14 : ST → Prop} {K : ST → Prop} : ∀ (n : Nat) (x1 : Int32) (x2 : Int32) (x3 : Int32) (s : ST), w_302_R51_L5 n x1 x2 x3 s X14 K → (∀ (s : ST), X14  s → Ex sc (d + 0) 302 14 [pu, pu, pu, pu] [] (hpS s) (kV K)) → Ex sc (d + 0) 302 5 [.ref 51, .int x1, .int x2, .int x3] [] (hpS s) (kV K) := by
  have hq : prog[302]? = some pm302 := rfl
  intro n
  induction n with
  | zero =>
    intro x1 x2 x3 s k
    exact k.elim
  | succ n ih =>
    intro x1 x2 x3 s k hX14
    rw [w_302_R51_L5] at k
    refine Ex.seg hq 2 (j := 7) (L' := [.ref 51, .int x1, .int x2, .int x3]) (S' := [.int x3, .int x2]) (h' := hpS s) rfl ?_
    refine Ex.i2 hq rfl (fun c => ?_) (fun c => ?_)
    · have k := k.1 c
      refine Ex.fg (L := [pu, pu, pu, pu]) ⟨Or.inr ⟨rfl, rfl⟩, ⟨Or.inr ⟨rfl, rfl⟩, ⟨Or.inr ⟨rfl, rfl⟩, ⟨Or.inr ⟨rfl, rfl⟩, trivial⟩⟩⟩⟩ ?_
      exact hX14  s k
    · have k := k.2 c
      refine Ex.seg hq 3 (j := 11) (L' := [.ref 51, .int x1, .int x2, .int x3]) (S' := [.int x1, .int x2, .ref 51]) (h' := hpS s) rfl ?_
      obtain ⟨hin, k⟩ := k
      refine Ex.ias hq rfl rfl hin (h' := hpS (sA s 51 (upd (s.2.1 51) (x2).toNatClampNeg x1))) (hset_51 _ _) ?_
      refine Ex.seg hq 2 (j := 5) (L' := [.ref 51, .int x1, .int (x2 + (1 : Int32)), .int x3]) (S' := []) (h' := hpS (sA s 51 (upd (s.2.1 51) (x2).toNatClampNeg x1))) rfl ?_
      exact ih x1 (x2 + (1 : Int32)) x3 (sA s 51 (upd (s.2.1 51) (x2).toNatClampNeg x1)) k hX14
/-- java/util/Arrays.fill([II)V -/
def w_302_R51 (p1 : Int32) (s : ST) (K : ST → Prop) : Prop := (∃ m, w_302_R51_L5 m p1 (0 : Int32) (Int32.ofNat 150) s (fun s1 => K s1) K)
theorem q_302_R51 {d : Nat} {K : ST → Prop} (p1 : Int32) (s : ST) (k : w_302_R51 p1 s K) : Rn sc (d + 0) 302 [.ref 51, .int p1] (hpS s) (kV K) := by
  have hq : prog[302]? = some pm302 := rfl
  refine Rn.of (L := [.ref 51, .int p1, pu, pu]) hq rfl rfl ?_
  unfold w_302_R51 at k
  refine Ex.seg hq 5 (j := 5) (L' := [.ref 51, .int p1, .int (0 : Int32), .int (Int32.ofNat 150)]) (S' := []) (h' := hpS s) rfl ?_
  obtain ⟨m, k⟩ := k
  refine q_302_R51_L5 (d := d) m p1 (0 : Int32) (Int32.ofNat 150) s k ?_
  · intro s1 k
    exact Ex.rt hq rfl rfl ⟨s1, rfl, rfl, k⟩
/-- jdk/internal/util/Preconditions.checkIndex(IILjava/util/function/BiFunction;)I -/
def w_308_N (p0 : Int32) (p1 : Int32) (s : ST) (K : Int32 → ST → Prop) : Prop := ((p0 < 0 → False) ∧ (¬ (p0 < 0) → ((p0 < p1 → K p0 s) ∧ (¬ (p0 < p1) → False))))
theorem q_308_N {d : Nat} {K : Int32 → ST → Prop} (p0 : Int32) (p1 : Int32) (s : ST) (k : w_308_N p0 p1 s K) : Rn sc (d + 0) 308 [.int p0, .int p1, .null] (hpS s) (kI K) := by
  have hq : prog[308]? = some pm308 := rfl
  refine Rn.of (L := [.int p0, .int p1, .null]) hq rfl rfl ?_
  unfold w_308_N at k
  refine Ex.seg hq 1 (j := 1) (L' := [.int p0, .int p1, .null]) (S' := [.int p0]) (h' := hpS s) rfl ?_
  refine Ex.i1 hq rfl (fun c => ?_) (fun c => ?_)
  · have k := k.1 c
    refine Ex.seg hq 3 (j := 8) (L' := [.int p0, .int p1, .null]) (S' := [.int p1, .int p0, .null]) (h' := hpS s) rfl ?_
    exact k.elim
  · have k := k.2 c
    refine Ex.seg hq 2 (j := 4) (L' := [.int p0, .int p1, .null]) (S' := [.int p1, .int p0]) (h' := hpS s) rfl ?_
    refine Ex.i2 hq rfl (fun c => ?_) (fun c => ?_)
    · have k := k.1 c
      refine Ex.seg hq 1 (j := 11) (L' := [.int p0, .int p1, .null]) (S' := [.int p0]) (h' := hpS s) rfl ?_
      exact Ex.rt hq rfl rfl ⟨p0, s, rfl, rfl, k⟩
    · have k := k.2 c
      refine Ex.seg hq 3 (j := 8) (L' := [.int p0, .int p1, .null]) (S' := [.int p1, .int p0, .null]) (h' := hpS s) rfl ?_
      exact k.elim
/-- java/util/Objects.checkIndex(II)I -/
def w_306 (p0 : Int32) (p1 : Int32) (s : ST) (K : Int32 → ST → Prop) : Prop := w_308_N p0 p1 s (fun r2 s1 => K r2 s1)
theorem q_306 {d : Nat} {K : Int32 → ST → Prop} (p0 : Int32) (p1 : Int32) (s : ST) (k : w_306 p0 p1 s K) : Rn sc (d + 1) 306 [.int p0, .int p1] (hpS s) (kI K) := by
  have hq : prog[306]? = some pm306 := rfl
  refine Rn.of (L := [.int p0, .int p1]) hq rfl rfl ?_
  unfold w_306 at k
  refine Ex.seg hq 3 (j := 3) (L' := [.int p0, .int p1]) (S' := [.null, .int p1, .int p0]) (h' := hpS s) rfl ?_
  refine Ex.cl hq rfl rfl ?_
  refine Rn.mono (q_308_N (d := d + 0) p0 p1 s k) ?_
  rintro _ _ ⟨r2, s1, rfl, rfl, k⟩
  show Ex sc (d + 1) 306 4 [.int p0, .int p1] [.int r2] (hpS s1) _
  exact Ex.rt hq rfl rfl ⟨r2, s1, rfl, rfl, k⟩
/-- java/util/ArrayList.elementData(I)Ljava/lang/Object; -/
def w_298 (p0 : Nat) (p1 : Int32) (s : ST) (K : Nat → ST → Prop) : Prop := ((pgf s.2.2.2.2 p0 13 1 = some (.float 1) ∧ False) ∨ (∃ b1, pgf s.2.2.2.2 p0 13 1 = some (.ref (b1 + 118)) ∧ (∃ n2 f3 y4, prowR s.2.2.2.2 b1 = some (n2, f3) ∧ pin p1 n2 = true ∧ f3 (p1).toNatClampNeg = some (y4 + 118) ∧ K y4 s)))
theorem q_298 {d : Nat} {K : Nat → ST → Prop} (p0 : Nat) (p1 : Int32) (s : ST) (k : w_298 p0 p1 s K) : Rn sc (d + 0) 298 [.ref (p0 + 118), .int p1] (hpS s) (kA K) := by
  have hq : prog[298]? = some pm298 := rfl
  refine Rn.of (L := [.ref (p0 + 118), .int p1]) hq rfl rfl ?_
  unfold w_298 at k
  refine Ex.seg hq 1 (j := 1) (L' := [.ref (p0 + 118), .int p1]) (S' := [.ref (p0 + 118)]) (h' := hpS s) rfl ?_
  rcases k with ⟨e, k⟩ | ⟨b1, e, k⟩
  · refine Ex.gfd hq rfl e ?_
    refine Ex.seg hq 1 (j := 3) (L' := [.ref (p0 + 118), .int p1]) (S' := [.int p1, .float 1]) (h' := hpS s) rfl ?_
    exact k.elim
  · refine Ex.gfd hq rfl e ?_
    refine Ex.seg hq 1 (j := 3) (L' := [.ref (p0 + 118), .int p1]) (S' := [.int p1, .ref (b1 + 118)]) (h' := hpS s) rfl ?_
    obtain ⟨n2, f3, y4, e, hin, hy, k⟩ := k
    refine Ex.aad hq rfl e hin hy ?_
    exact Ex.rt hq rfl rfl ⟨y4, s, rfl, rfl, k⟩
/-- java/util/ArrayList.get(I)Ljava/lang/Object; -/
def w_299 (p0 : Nat) (p1 : Int32) (s : ST) (K : Nat → ST → Prop) : Prop := (∃ v1, pgf s.2.2.2.2 p0 13 2 = some (.int v1) ∧ w_306 p1 v1 s (fun r3 s2 => (∃ f6, pob s2.2.2.2.2 p0 13 = some f6 ∧ w_298 p0 p1 s2 (fun r5 s4 => K r5 s4))))
theorem q_299 {d : Nat} {K : Nat → ST → Prop} (p0 : Nat) (p1 : Int32) (s : ST) (k : w_299 p0 p1 s K) : Rn sc (d + 2) 299 [.ref (p0 + 118), .int p1] (hpS s) (kA K) := by
  have hq : prog[299]? = some pm299 := rfl
  refine Rn.of (L := [.ref (p0 + 118), .int p1]) hq rfl rfl ?_
  unfold w_299 at k
  refine Ex.seg hq 2 (j := 2) (L' := [.ref (p0 + 118), .int p1]) (S' := [.ref (p0 + 118), .int p1]) (h' := hpS s) rfl ?_
  obtain ⟨v1, e, k⟩ := k
  refine Ex.gfd hq rfl e ?_
  refine Ex.cl hq rfl rfl ?_
  refine Rn.mono (q_306 (d := d + 0) p1 v1 s k) ?_
  rintro _ _ ⟨r3, s2, rfl, rfl, k⟩
  show Ex sc (d + 2) 299 4 [.ref (p0 + 118), .int p1] [.int r3] (hpS s2) _
  refine Ex.seg hq 3 (j := 7) (L' := [.ref (p0 + 118), .int p1]) (S' := [.int p1, .ref (p0 + 118)]) (h' := hpS s2) rfl ?_
  obtain ⟨f6, e, k⟩ := k
  refine Ex.cvd hq rfl rfl e rfl ?_
  refine Rn.mono (q_298 (d := d + 1) p0 p1 s2 k) ?_
  rintro _ _ ⟨r5, s4, rfl, rfl, k⟩
  show Ex sc (d + 2) 299 8 [.ref (p0 + 118), .int p1] [.ref (r5 + 118)] (hpS s4) _
  exact Ex.rt hq rfl rfl ⟨r5, s4, rfl, rfl, k⟩
/-- RowAuditor$View.rowAt(I)I -/
def w_123 (p1 : Int32) (s : ST) (K : Int32 → ST → Prop) : Prop := ((p1 < 0 → K (-1 : Int32) s) ∧ (¬ (p1 < 0) → (((s.1 801) ≤ p1 → K (-1 : Int32) s) ∧ (¬ ((s.1 801) ≤ p1) → (pin p1 150 = true ∧ K ((s.2.1 11) (p1).toNatClampNeg) s)))))
theorem q_123 {d : Nat} {K : Int32 → ST → Prop} (p1 : Int32) (s : ST) (k : w_123 p1 s K) : Rn sc (d + 0) 123 [.ref 8, .int p1] (hpS s) (kI K) := by
  have hq : prog[123]? = some pm123 := rfl
  refine Rn.of (L := [.ref 8, .int p1]) hq rfl rfl ?_
  unfold w_123 at k
  refine Ex.seg hq 1 (j := 1) (L' := [.ref 8, .int p1]) (S' := [.int p1]) (h' := hpS s) rfl ?_
  refine Ex.i1 hq rfl (fun c => ?_) (fun c => ?_)
  · have k := k.1 c
    refine Ex.seg hq 1 (j := 12) (L' := [.ref 8, .int p1]) (S' := [.int (-1 : Int32)]) (h' := hpS s) rfl ?_
    exact Ex.rt hq rfl rfl ⟨(-1 : Int32), s, rfl, rfl, k⟩
  · have k := k.2 c
    refine Ex.seg hq 3 (j := 5) (L' := [.ref 8, .int p1]) (S' := [.int (s.1 801), .int p1]) (h' := hpS s) rfl ?_
    refine Ex.i2 hq rfl (fun c => ?_) (fun c => ?_)
    · have k := k.1 c
      refine Ex.seg hq 1 (j := 12) (L' := [.ref 8, .int p1]) (S' := [.int (-1 : Int32)]) (h' := hpS s) rfl ?_
      exact Ex.rt hq rfl rfl ⟨(-1 : Int32), s, rfl, rfl, k⟩
    · have k := k.2 c
      refine Ex.seg hq 3 (j := 9) (L' := [.ref 8, .int p1]) (S' := [.int p1, .ref 11]) (h' := hpS s) rfl ?_
      obtain ⟨hin, k⟩ := k
      refine Ex.ial hq rfl rfl hin ?_
      refine Ex.seg hq 1 (j := 12) (L' := [.ref 8, .int p1]) (S' := [.int ((s.2.1 11) (p1).toNatClampNeg)]) (h' := hpS s) rfl ?_
      exact Ex.rt hq rfl rfl ⟨((s.2.1 11) (p1).toNatClampNeg), s, rfl, rfl, k⟩
def w_26_L34 : Nat → Nat → Int32 → Nat → Int32 → ST → (Nat → Int32 → ST → Prop) → (ST → Prop) → Prop
  | 0, _, _, _, _, _, _, _ => False
  | n + 1, x1, x3, x4, x5, s, X67, K => (((s.1 801) ≤ x5 → X67 x1 x3 s) ∧ (¬ ((s.1 801) ≤ x5) → (((150 : Int32) ≤ x5 → X67 x1 x3 s) ∧ (¬ ((150 : Int32) ≤ x5) → w_123 x5 s (fun r14 s13 => w_20 r14 s13 (fun s15 => (∃ v17, pgf s15.2.2.2.2 x4 1 1 = some (.ref (v17 + 118)) ∧ w_21 v17 s15 (fun r19 s18 => ((r19 = 0 → w_26_L34 n x1 x3 x4 (x5 + (1 : Int32)) s18 X67 K) ∧ (¬ (r19 = 0) → (pin x5 150 = true ∧ (pin x5 150 = true ∧ w_26_L34 n x1 x3 x4 (x5 + (1 : Int32)) (sA s18 51 (upd (s18.2.1 51) (x5).toNatClampNeg (((s18.2.1 51) (x5).toNatClampNeg) ||| ((1 : Int32) <<< (x3 &&& 31))))) X67 K))))))))))))
theorem q_26_L34 {d : Nat} {X67 : Nat → Int32 → ST → Prop} {K : ST → Prop} : ∀ (n : Nat) (x1 : Nat) (x3 : Int32) (x4 : Nat) (x5 : Int32) (s : ST), w_26_L34 n x1 x3 x4 x5 s X67 K → (∀ (y1 : Nat) (y3 : Int32) (s : ST), X67 y1 y3 s → Ex sc (d + 3) 26 67 [.ref 50, .ref (y1 + 118), pu, .int y3, pu, pu] [] (hpS s) (kV K)) → Ex sc (d + 3) 26 34 [.ref 50, .ref (x1 + 118), pu, .int x3, .ref (x4 + 118), .int x5] [] (hpS s) (kV K) := by
  have hq : prog[26]? = some pm26 := rfl
  intro n
  induction n with
  | zero =>
    intro x1 x3 x4 x5 s k
    exact k.elim
  | succ n ih =>
    intro x1 x3 x4 x5 s k hX67
    rw [w_26_L34] at k
    refine Ex.seg hq 4 (j := 38) (L' := [.ref 50, .ref (x1 + 118), pu, .int x3, .ref (x4 + 118), .int x5]) (S' := [.int (s.1 801), .int x5]) (h' := hpS s) rfl ?_
    refine Ex.i2 hq rfl (fun c => ?_) (fun c => ?_)
    · have k := k.1 c
      refine Ex.fg (L := [.ref 50, .ref (x1 + 118), pu, .int x3, pu, pu]) ⟨Or.inl rfl, ⟨Or.inl rfl, ⟨Or.inl rfl, ⟨Or.inl rfl, ⟨Or.inr ⟨rfl, rfl⟩, ⟨Or.inr ⟨rfl, rfl⟩, trivial⟩⟩⟩⟩⟩⟩ ?_
      exact hX67 x1 x3 s k
    · have k := k.2 c
      refine Ex.seg hq 2 (j := 41) (L' := [.ref 50, .ref (x1 + 118), pu, .int x3, .ref (x4 + 118), .int x5]) (S' := [.int (150 : Int32), .int x5]) (h' := hpS s) rfl ?_
      refine Ex.i2 hq rfl (fun c => ?_) (fun c => ?_)
      · have k := k.1 c
        refine Ex.fg (L := [.ref 50, .ref (x1 + 118), pu, .int x3, pu, pu]) ⟨Or.inl rfl, ⟨Or.inl rfl, ⟨Or.inl rfl, ⟨Or.inl rfl, ⟨Or.inr ⟨rfl, rfl⟩, ⟨Or.inr ⟨rfl, rfl⟩, trivial⟩⟩⟩⟩⟩⟩ ?_
        exact hX67 x1 x3 s k
      · have k := k.2 c
        refine Ex.seg hq 5 (j := 47) (L' := [.ref 50, .ref (x1 + 118), pu, .int x3, .ref (x4 + 118), .int x5]) (S' := [.int x5, .ref 8, .ref 16]) (h' := hpS s) rfl ?_
        refine Ex.cl hq rfl rfl ?_
        refine Rn.mono (q_123 (d := d + 2) x5 s k) ?_
        rintro _ _ ⟨r14, s13, rfl, rfl, k⟩
        show Ex sc (d + 3) 26 48 [.ref 50, .ref (x1 + 118), pu, .int x3, .ref (x4 + 118), .int x5] [.int r14, .ref 16] (hpS s13) _
        refine Ex.cl hq rfl rfl ?_
        refine Rn.mono (q_20 (d := d + 0) r14 s13 k) ?_
        rintro _ _ ⟨s15, rfl, rfl, k⟩
        show Ex sc (d + 3) 26 49 [.ref 50, .ref (x1 + 118), pu, .int x3, .ref (x4 + 118), .int x5] [] (hpS s15) _
        refine Ex.seg hq 3 (j := 52) (L' := [.ref 50, .ref (x1 + 118), pu, .int x3, .ref (x4 + 118), .int x5]) (S' := [.ref (x4 + 118), .ref 16]) (h' := hpS s15) rfl ?_
        obtain ⟨v17, e, k⟩ := k
        refine Ex.gfd hq rfl e ?_
        refine Ex.cl hq rfl rfl ?_
        refine Rn.mono (q_21 (d := d + 1) v17 s15 k) ?_
        rintro _ _ ⟨r19, s18, rfl, hzr19, rfl, k⟩
        show Ex sc (d + 3) 26 54 [.ref 50, .ref (x1 + 118), pu, .int x3, .ref (x4 + 118), .int x5] [.int r19] (hpS s18) _
        refine Ex.i1 hq rfl (fun c => ?_) (fun c => ?_)
        · have k := k.1 c
          refine Ex.seg hq 2 (j := 34) (L' := [.ref 50, .ref (x1 + 118), pu, .int x3, .ref (x4 + 118), .int (x5 + (1 : Int32))]) (S' := []) (h' := hpS s18) rfl ?_
          exact ih x1 x3 x4 (x5 + (1 : Int32)) s18 k hX67
        · have k := k.2 c
          refine Ex.seg hq 4 (j := 59) (L' := [.ref 50, .ref (x1 + 118), pu, .int x3, .ref (x4 + 118), .int x5]) (S' := [.int x5, .ref 51, .int x5, .ref 51]) (h' := hpS s18) rfl ?_
          obtain ⟨hin, k⟩ := k
          refine Ex.ial hq rfl rfl hin ?_
          refine Ex.seg hq 4 (j := 64) (L' := [.ref 50, .ref (x1 + 118), pu, .int x3, .ref (x4 + 118), .int x5]) (S' := [.int (((s18.2.1 51) (x5).toNatClampNeg) ||| ((1 : Int32) <<< (x3 &&& 31))), .int x5, .ref 51]) (h' := hpS s18) rfl ?_
          obtain ⟨hin, k⟩ := k
          refine Ex.ias hq rfl rfl hin (h' := hpS (sA s18 51 (upd (s18.2.1 51) (x5).toNatClampNeg (((s18.2.1 51) (x5).toNatClampNeg) ||| ((1 : Int32) <<< (x3 &&& 31)))))) (hset_51 _ _) ?_
          refine Ex.seg hq 2 (j := 34) (L' := [.ref 50, .ref (x1 + 118), pu, .int x3, .ref (x4 + 118), .int (x5 + (1 : Int32))]) (S' := []) (h' := hpS (sA s18 51 (upd (s18.2.1 51) (x5).toNatClampNeg (((s18.2.1 51) (x5).toNatClampNeg) ||| ((1 : Int32) <<< (x3 &&& 31)))))) rfl ?_
          exact ih x1 x3 x4 (x5 + (1 : Int32)) (sA s18 51 (upd (s18.2.1 51) (x5).toNatClampNeg (((s18.2.1 51) (x5).toNatClampNeg) ||| ((1 : Int32) <<< (x3 &&& 31))))) k hX67
def w_26_L16 : Nat → Nat → Int32 → ST → (ST → Prop) → (ST → Prop) → Prop
  | 0, _, _, _, _, _ => False
  | n + 1, x1, x3, s, X69, K => (((s.1 5007) ≤ x3 → X69  s) ∧ (¬ ((s.1 5007) ≤ x3) → (∃ v7, pgf s.2.2.2.2 x1 9 0 = some (.ref (v7 + 118)) ∧ (∃ f10, pob s.2.2.2.2 v7 13 = some f10 ∧ w_299 v7 x3 s (fun r9 s8 => (∃ f11, pob s8.2.2.2.2 r9 1 = some f11 ∧ (∃ v12, pgf s8.2.2.2.2 r9 1 2 = some (.int v12) ∧ (pin x3 4 = true ∧ (∃ m, w_26_L34 m x1 x3 r9 (0 : Int32) (sA s8 54 (upd (s8.2.1 54) (x3).toNatClampNeg v12)) (fun y1 y3 s13 => w_26_L16 n y1 (y3 + (1 : Int32)) s13 X69 K) K)))))))))
theorem q_26_L16 {d : Nat} {X69 : ST → Prop} {K : ST → Prop} : ∀ (n : Nat) (x1 : Nat) (x3 : Int32) (s : ST), w_26_L16 n x1 x3 s X69 K → (∀ (s : ST), X69  s → Ex sc (d + 3) 26 69 [pu, pu, pu, pu, pu, pu] [] (hpS s) (kV K)) → Ex sc (d + 3) 26 16 [.ref 50, .ref (x1 + 118), pu, .int x3, pu, pu] [] (hpS s) (kV K) := by
  have hq : prog[26]? = some pm26 := rfl
  intro n
  induction n with
  | zero =>
    intro x1 x3 s k
    exact k.elim
  | succ n ih =>
    intro x1 x3 s k hX69
    rw [w_26_L16] at k
    refine Ex.seg hq 3 (j := 19) (L' := [.ref 50, .ref (x1 + 118), pu, .int x3, pu, pu]) (S' := [.int (s.1 5007), .int x3]) (h' := hpS s) rfl ?_
    refine Ex.i2 hq rfl (fun c => ?_) (fun c => ?_)
    · have k := k.1 c
      refine Ex.fg (L := [pu, pu, pu, pu, pu, pu]) ⟨Or.inr ⟨rfl, rfl⟩, ⟨Or.inr ⟨rfl, rfl⟩, ⟨Or.inl rfl, ⟨Or.inr ⟨rfl, rfl⟩, ⟨Or.inl rfl, ⟨Or.inl rfl, trivial⟩⟩⟩⟩⟩⟩ ?_
      exact hX69  s k
    · have k := k.2 c
      refine Ex.seg hq 1 (j := 21) (L' := [.ref 50, .ref (x1 + 118), pu, .int x3, pu, pu]) (S' := [.ref (x1 + 118)]) (h' := hpS s) rfl ?_
      obtain ⟨v7, e, k⟩ := k
      refine Ex.gfd hq rfl e ?_
      refine Ex.seg hq 1 (j := 23) (L' := [.ref 50, .ref (x1 + 118), pu, .int x3, pu, pu]) (S' := [.int x3, .ref (v7 + 118)]) (h' := hpS s) rfl ?_
      obtain ⟨f10, e, k⟩ := k
      refine Ex.cvd hq rfl rfl e rfl ?_
      refine Rn.mono (q_299 (d := d + 0) v7 x3 s k) ?_
      rintro _ _ ⟨r9, s8, rfl, rfl, k⟩
      show Ex sc (d + 3) 26 24 [.ref 50, .ref (x1 + 118), pu, .int x3, pu, pu] [.ref (r9 + 118)] (hpS s8) _
      obtain ⟨f11, e, k⟩ := k
      refine Ex.ccd hq rfl e ?_
      refine Ex.seg hq 5 (j := 30) (L' := [.ref 50, .ref (x1 + 118), pu, .int x3, .ref (r9 + 118), pu]) (S' := [.ref (r9 + 118), .int x3, .ref 54]) (h' := hpS s8) rfl ?_
      obtain ⟨v12, e, k⟩ := k
      refine Ex.gfd hq rfl e ?_
      obtain ⟨hin, k⟩ := k
      refine Ex.ias hq rfl rfl hin (h' := hpS (sA s8 54 (upd (s8.2.1 54) (x3).toNatClampNeg v12))) (hset_54 _ _) ?_
      refine Ex.seg hq 2 (j := 34) (L' := [.ref 50, .ref (x1 + 118), pu, .int x3, .ref (r9 + 118), .int (0 : Int32)]) (S' := []) (h' := hpS (sA s8 54 (upd (s8.2.1 54) (x3).toNatClampNeg v12))) rfl ?_
      obtain ⟨m, k⟩ := k
      refine q_26_L34 (d := d) m x1 x3 r9 (0 : Int32) (sA s8 54 (upd (s8.2.1 54) (x3).toNatClampNeg v12)) k ?_
      · intro y1 y3 s13 k
        refine Ex.seg hq 2 (j := 16) (L' := [.ref 50, .ref (y1 + 118), pu, .int (y3 + (1 : Int32)), pu, pu]) (S' := []) (h' := hpS s13) rfl ?_
        exact ih y1 (y3 + (1 : Int32)) s13 k hX69
/-- RowAuditor$Fitter.prepare(LRowAuditor$Text;I)V -/
def w_26 (p1 : Nat) (p2 : Int32) (s : ST) (K : ST → Prop) : Prop := (∃ v1, pgf s.2.2.2.2 p1 9 0 = some (.ref (v1 + 118)) ∧ (∃ f4, pob s.2.2.2.2 v1 13 = some f4 ∧ w_297 v1 s (fun r3 s2 => w_302_R51 (0 : Int32) (sI (sI s2 5007 (if (4 : Int32) < r3 then (4 : Int32) else r3)) 5008 p2) (fun s5 => (∃ m, w_26_L16 m p1 (0 : Int32) s5 (fun s14 => K s14) K)))))
theorem q_26 {d : Nat} {K : ST → Prop} (p1 : Nat) (p2 : Int32) (s : ST) (k : w_26 p1 p2 s K) : Rn sc (d + 3) 26 [.ref 50, .ref (p1 + 118), .int p2] (hpS s) (kV K) := by
  have hq : prog[26]? = some pm26 := rfl
  refine Rn.of (L := [.ref 50, .ref (p1 + 118), .int p2, pu, pu, pu]) hq rfl rfl ?_
  unfold w_26 at k
  refine Ex.seg hq 2 (j := 2) (L' := [.ref 50, .ref (p1 + 118), .int p2, pu, pu, pu]) (S' := [.ref (p1 + 118), .ref 50]) (h' := hpS s) rfl ?_
  obtain ⟨v1, e, k⟩ := k
  refine Ex.gfd hq rfl e ?_
  obtain ⟨f4, e, k⟩ := k
  refine Ex.cvd hq rfl rfl e rfl ?_
  refine Rn.mono (q_297 (d := d + 2) v1 s k) ?_
  rintro _ _ ⟨r3, s2, rfl, rfl, k⟩
  show Ex sc (d + 3) 26 4 [.ref 50, .ref (p1 + 118), .int p2, pu, pu, pu] [.int r3, .ref 50] (hpS s2) _
  refine Ex.seg hq 9 (j := 13) (L' := [.ref 50, .ref (p1 + 118), .int p2, pu, pu, pu]) (S' := [.int (0 : Int32), .ref 51]) (h' := hpS (sI (sI s2 5007 (if (4 : Int32) < r3 then (4 : Int32) else r3)) 5008 p2)) rfl ?_
  refine Ex.cl hq rfl rfl ?_
  refine Rn.mono (q_302_R51 (d := d + 2) (0 : Int32) (sI (sI s2 5007 (if (4 : Int32) < r3 then (4 : Int32) else r3)) 5008 p2) k) ?_
  rintro _ _ ⟨s5, rfl, rfl, k⟩
  show Ex sc (d + 3) 26 14 [.ref 50, .ref (p1 + 118), .int p2, pu, pu, pu] [] (hpS s5) _
  refine Ex.seg hq 2 (j := 16) (L' := [.ref 50, .ref (p1 + 118), .int p2, .int (0 : Int32), pu, pu]) (S' := []) (h' := hpS s5) rfl ?_
  obtain ⟨m, k⟩ := k
  refine Ex.fg (L := [.ref 50, .ref (p1 + 118), pu, .int (0 : Int32), pu, pu]) ⟨Or.inl rfl, ⟨Or.inl rfl, ⟨Or.inr ⟨rfl, rfl⟩, ⟨Or.inl rfl, ⟨Or.inl rfl, ⟨Or.inl rfl, trivial⟩⟩⟩⟩⟩⟩ ?_
  refine q_26_L16 (d := d) m p1 (0 : Int32) s5 k ?_
  · intro s14 k
    exact Ex.rt hq rfl rfl ⟨s14, rfl, rfl, k⟩
end WP
